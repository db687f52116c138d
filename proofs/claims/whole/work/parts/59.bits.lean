/-! BITS: the first rows are kit/laws/BITS.to-paste's family bt; then what the two programs need of bits. -/
def bt (x : Int32) (i : Nat) : Bool := x.toBitVec.getLsbD i
theorem b_ext {x y : Int32} (h : ∀ i, i < 32 → bt x i = bt y i) : x = y := Int32.toBitVec_inj.mp (BitVec.eq_of_getLsbD_eq (fun i hi => h i hi))
theorem b_or (x y : Int32) (i : Nat) : bt (x ||| y) i = (bt x i || bt y i) := by unfold bt; rw [Int32.toBitVec_or, BitVec.getLsbD_or]
theorem b_and (x y : Int32) (i : Nat) : bt (x &&& y) i = (bt x i && bt y i) := by unfold bt; rw [Int32.toBitVec_and, BitVec.getLsbD_and]
theorem b_xor (x y : Int32) (i : Nat) : bt (x ^^^ y) i = (bt x i ^^ bt y i) := by unfold bt; rw [Int32.toBitVec_xor, BitVec.getLsbD_xor]
theorem b_big {x : Int32} {i : Nat} (h : 32 ≤ i) : bt x i = false := BitVec.getLsbD_of_ge _ _ h
theorem b_255 (i : Nat) : bt 255 i = decide (i < 8) := by
  rcases Nat.lt_or_ge i 32 with h | h
  · exact (by decide +kernel : ∀ i, i < 32 → bt 255 i = decide (i < 8)) i h
  · rw [b_big h, decide_eq_false (by omega)]
theorem b_65535 (i : Nat) : bt 65535 i = decide (i < 16) := by
  rcases Nat.lt_or_ge i 32 with h | h
  · exact (by decide +kernel : ∀ i, i < 32 → bt 65535 i = decide (i < 16)) i h
  · rw [b_big h, decide_eq_false (by omega)]
theorem b_m1 : ∀ i, i < 32 → bt (-1) i = true := by decide +kernel
theorem b_0 (i : Nat) : bt 0 i = false := BitVec.getLsbD_zero
theorem s_l : ∀ n, n < 32 → ((nI n &&& 31).toBitVec.smod 32).toNat = n := by decide +kernel
theorem s_u : ∀ n, n < 32 → (((nI n).toUInt32 &&& Int32.toUInt32 31).toBitVec % 32).toNat = n := by decide +kernel
theorem b_shl (n : Nat) (hn : n < 32) (x : Int32) {i : Nat} (hi : i < 32) : bt (x <<< (nI n &&& 31)) i = (decide (n ≤ i) && bt x (i - n)) := by
  unfold bt
  rw [Int32.toBitVec_shiftLeft]
  show (x.toBitVec <<< ((nI n &&& 31).toBitVec.smod 32).toNat).getLsbD i = _
  rw [s_l n hn, BitVec.getLsbD_shiftLeft]
  rcases Nat.lt_or_ge i n with h | h
  · simp [h, Nat.not_le.mpr h]
  · simp [hi, h, Nat.not_lt.mpr h]
theorem b_ushr (n : Nat) (hn : n < 32) (x : Int32) (i : Nat) : bt ((x.toUInt32 >>> ((nI n).toUInt32 &&& Int32.toUInt32 31)).toInt32) i = bt x (n + i) := by
  show (x.toUInt32 >>> ((nI n).toUInt32 &&& Int32.toUInt32 31)).toBitVec.getLsbD i = x.toUInt32.toBitVec.getLsbD (n + i)
  rw [UInt32.toBitVec_shiftRight]
  show (x.toUInt32.toBitVec >>> (((nI n).toUInt32 &&& Int32.toUInt32 31).toBitVec % 32).toNat).getLsbD i = _
  rw [s_u n hn, BitVec.getLsbD_ushiftRight]
theorem b_sshr (n : Nat) (hn : n < 32) (x : Int32) {i : Nat} (hi : i < 32) : bt (x >>> (nI n &&& 31)) i = if n + i < 32 then bt x (n + i) else bt x 31 := by
  unfold bt
  rw [Int32.toBitVec_shiftRight]
  show (x.toBitVec.sshiftRight ((nI n &&& 31).toBitVec.smod 32).toNat).getLsbD i = _
  rw [s_l n hn, BitVec.getLsbD_sshiftRight, BitVec.msb_eq_getLsbD_last]
  simp [hi]
theorem b_shl8 (x : Int32) {i : Nat} (hi : i < 32) : bt (x <<< ((8 : Int32) &&& 31)) i = (decide (8 ≤ i) && bt x (i - 8)) := b_shl 8 (by omega) x hi
theorem b_shl16 (x : Int32) {i : Nat} (hi : i < 32) : bt (x <<< ((16 : Int32) &&& 31)) i = (decide (16 ≤ i) && bt x (i - 16)) := b_shl 16 (by omega) x hi
theorem b_shl24 (x : Int32) {i : Nat} (hi : i < 32) : bt (x <<< ((24 : Int32) &&& 31)) i = (decide (24 ≤ i) && bt x (i - 24)) := b_shl 24 (by omega) x hi
theorem b_sshr8 (x : Int32) {i : Nat} (hi : i < 32) : bt (x >>> ((8 : Int32) &&& 31)) i = if 8 + i < 32 then bt x (8 + i) else bt x 31 := b_sshr 8 (by omega) x hi
theorem b_1 : ∀ i, i < 32 → bt 1 i = decide (i = 0) := by decide +kernel
theorem bt_ge {x : Int32} {i : Nat} (h : 32 ≤ i) : bt x i = false := b_big h
/-- the bit that both programs ask for -/
theorem bitOf_bt (x : Int32) {k : Nat} (hk : k < 32) : bitOf x k = if bt x k then 1 else 0 := by
  apply b_ext
  intro i hi
  unfold bitOf
  rw [b_and, b_1 i hi]
  by_cases h0 : i = 0
  · subst h0
    rw [b_sshr k hk x (by omega), if_pos (by omega)]
    cases h : bt x k <;> simp [h, b_0, b_1]
  · rw [decide_eq_false h0, Bool.and_false]
    cases h : bt x k
    · simp [b_0]
    · simp [b_1 i hi, h0]
theorem bitOf_1 (x : Int32) {k : Nat} (hk : k < 32) : bitOf x k = 1 ↔ bt x k = true := by
  rw [bitOf_bt x hk]
  cases bt x k <;> simp
theorem bitOf_0 (x : Int32) {k : Nat} (hk : k < 32) : bitOf x k = 0 ↔ bt x k = false := by
  rw [bitOf_bt x hk]
  cases bt x k <;> simp
theorem bt_bitM {k i : Nat} (hk : k < 32) (hi : i < 32) : bt (bitM k) i = decide (i = k) := by
  unfold bitM
  rw [b_shl k hk 1 hi]
  by_cases h : k ≤ i
  · rw [decide_eq_true h, Bool.true_and, b_1 _ (by omega)]
    by_cases h2 : i = k
    · simp [h2]
    · simp [h2]; omega
  · rw [decide_eq_false h, Bool.false_and]
    simp; omega
theorem bt_orF {f : Nat → Int32} (i : Nat) : ∀ n, bt (orF f n) i = true ↔ ∃ j, j < n ∧ bt (f j) i = true
  | 0 => by simp [orF, b_0]
  | n + 1 => by
    simp only [orF, b_or, Bool.or_eq_true, bt_orF i n]
    constructor
    · rintro (⟨j, h1, h2⟩ | h)
      · exact ⟨j, by omega, h2⟩
      · exact ⟨n, by omega, h⟩
    · rintro ⟨j, h1, h2⟩
      by_cases e : j = n
      · exact Or.inr (e ▸ h2)
      · exact Or.inl ⟨j, by omega, h2⟩
def popN (x : Int32) : Nat → Nat
  | 0 => 0
  | n + 1 => popN x n + (if bt x n then 1 else 0)
theorem popN_le (x : Int32) : ∀ n, popN x n ≤ n
  | 0 => Nat.le_refl 0
  | n + 1 => by
    have := popN_le x n
    simp only [popN]
    split <;> omega
theorem bits_pop (x : Int32) : bits x = nI (popN x 12) := by
  have : ∀ n, n ≤ 12 → sumF (fun k => bitOf x k) n = nI (popN x n) := by
    intro n
    induction n with
    | zero => intro _; rfl
    | succ n ih =>
      intro hn
      simp only [sumF, popN, ih (by omega), bitOf_bt x (show n < 32 by omega)]
      cases bt x n
      · simp
      · simp [nI_1]
  exact this 12 (Nat.le_refl _)
theorem popN_and (x y : Int32) : ∀ n, popN (x &&& y) n ≤ popN y n
  | 0 => Nat.le_refl 0
  | n + 1 => by
    have := popN_and x y n
    simp only [popN, b_and]
    cases bt x n <;> cases bt y n <;> simp <;> omega
/-- a number below 2^m has no bit from m on -/
theorem bt_nI {n m i : Nat} (h : n < 2 ^ m) (hm : m ≤ 31) (hi : m ≤ i) (h32 : i < 32) : bt (nI n) i = false := by
  have e : (nI n).toBitVec.toNat = n := pk_tn (Nat.lt_of_lt_of_le h (Nat.pow_le_pow_right (by decide) (by omega)))
  unfold bt
  rw [BitVec.getLsbD, e]
  exact Nat.testBit_lt_two_pow (Nat.lt_of_lt_of_le h (Nat.pow_le_pow_right (by decide) hi))
