/-! READ: the signs of a text. b the bytes, L how many. -/
abbrev isLt (x : Int32) : Prop := ¬ x < 97 ∧ ¬ 122 < x
abbrev isDg (x : Int32) : Prop := ¬ x < 48 ∧ ¬ 57 < x
abbrev isBl (x : Int32) : Prop := x = 9 ∨ x = 10 ∨ x = 13 ∨ x = 32
abbrev isSg (x : Int32) : Prop := x = 59 ∨ x = 61 ∨ x = 43 ∨ x = 45 ∨ x = 42 ∨ x = 47 ∨ x = 60 ∨ x = 40 ∨ x = 41
/-- from p on as long as Q holds -/
def runF (Q : Nat → Prop) [DecidablePred Q] : Nat → Nat → Nat
  | 0, p => p
  | n + 1, p => if Q p then runF Q n (p + 1) else p
theorem runF_y {Q : Nat → Prop} [DecidablePred Q] {L p : Nat} (hp : p < L) (h : Q p) : runF Q (L - p) p = runF Q (L - (p + 1)) (p + 1) := by
  rw [show L - p = (L - (p + 1)) + 1 by omega]
  exact if_pos h
theorem runF_n {Q : Nat → Prop} [DecidablePred Q] {n p : Nat} (h : ¬ Q p) : runF Q n p = p := by
  cases n with
  | zero => rfl
  | succ n => exact if_neg h
theorem runF_e {Q : Nat → Prop} [DecidablePred Q] {L p : Nat} (h : L ≤ p) : runF Q (L - p) p = p := by rw [show L - p = 0 by omega]; rfl
theorem runF_b {Q : Nat → Prop} [DecidablePred Q] : ∀ n p, p ≤ runF Q n p ∧ runF Q n p ≤ p + n
  | 0, p => ⟨Nat.le_refl _, Nat.le_refl _⟩
  | n + 1, p => by
    unfold runF
    split
    · have := runF_b (Q := Q) n (p + 1); omega
    · omega
theorem runF_in {Q : Nat → Prop} [DecidablePred Q] : ∀ n p i, p ≤ i → i < runF Q n p → Q i
  | 0, p, i, h1, h2 => by simp only [runF] at h2; omega
  | n + 1, p, i, h1, h2 => by
    unfold runF at h2
    by_cases q : Q p
    · rw [if_pos q] at h2
      rcases Nat.lt_or_ge p i with z | z
      · exact runF_in n (p + 1) i z h2
      · have : i = p := by omega
        subst this; exact q
    · rw [if_neg q] at h2; omega
def nbP (b : Nat → Int32) (L p : Nat) : Nat := runF (fun i => isBl (b i)) (L - p) p
def leP (b : Nat → Int32) (L p : Nat) : Nat := runF (fun i => isLt (b i)) (L - p) p
def deP (b : Nat → Int32) (L p : Nat) : Nat := runF (fun i => isDg (b i)) (L - p) p
def ltN (x : Int32) : Nat := x.toNatClampNeg - 96
/-- n letters from p on, as a number -/
def nmN (b : Nat → Int32) (p : Nat) : Nat → Nat
  | 0 => 0
  | n + 1 => 27 * nmN b p n + ltN (b (p + n))
def dgN (b : Nat → Int32) (p : Nat) : Nat → Nat
  | 0 => 0
  | n + 1 => 10 * dgN b p n + ((b (p + n)).toNatClampNeg - 48)
def wIx (x : Nat) : Nat := runF (fun i => ¬ wordN.getD i 0 = x) 22 0
def kwN (x : Nat) : Int32 := if wIx x < 22 then nI (128 + wIx x) else 97
def kdP (b : Nat → Int32) (L p : Nat) : Int32 :=
  if L ≤ p then 0 else if isLt (b p) then (if leP b L p - p ≤ 8 then kwN (nmN b p (leP b L p - p)) else 1)
  else if isDg (b p) then (if deP b L p - p ≤ 4 then 48 else 1) else if isSg (b p) then b p else 1
def vlP (b : Nat → Int32) (L p : Nat) : Nat :=
  if L ≤ p then 0 else if isLt (b p) then nmN b p (leP b L p - p) else if isDg (b p) then dgN b p (deP b L p - p) else 0
def nxP (b : Nat → Int32) (L p : Nat) : Nat := if L ≤ p then p else if isLt (b p) then leP b L p else if isDg (b p) then deP b L p else p + 1
def psP (b : Nat → Int32) (L : Nat) : Nat → Nat
  | 0 => nbP b L 0
  | i + 1 => nbP b L (nxP b L (psP b L i))
theorem lt_t : ∀ n, n < 128 → isLt (nI n) → 97 ≤ n ∧ n ≤ 122 ∧ (nI n).toNatClampNeg = n ∧ (nI n).toInt64 - 97 + 1 = lN (n - 96) ∧ ((nI n - 97) + 1).toInt64 = lN (n - 96) ∧ ¬ nI n = 0 := by decide +kernel
theorem by_ex {x : Int32} (h : ∃ y : Int8, x = y.toInt32) : ∃ n, n < 256 ∧ x = (Int8.ofNat n).toInt32 := by
  obtain ⟨y, rfl⟩ := h
  exact ⟨y.toBitVec.toNat, y.toBitVec.isLt, by rw [show Int8.ofNat y.toBitVec.toNat = y from Int8.toBitVec_inj.mp (BitVec.eq_of_toNat_eq (by simp [Int8.ofNat]))]⟩
/-- bytes as the class and as the reference see them -/
theorem by_t : ∀ n, n < 256 → (isLt (Int8.ofNat n).toInt32 → 97 ≤ n ∧ n ≤ 122) ∧ (isDg (Int8.ofNat n).toInt32 → 48 ≤ n ∧ n ≤ 57) ∧ (n < 128 → (Int8.ofNat n).toInt32 = nI n) ∧ (128 ≤ n → (Int8.ofNat n).toInt32 < 0) ∧ (Int8.ofNat n).toInt32 &&& 255 = nI n := by decide +kernel
theorem Tp_isLetter (x : Int32) : f_Tp_isLetter x = some (if isLt x then 1 else 0) := by
  unfold f_Tp_isLetter f_Tp_isLetter_b0
  by_cases q : x < 97
  · rw [if_pos q, if_neg (fun z => z.1 q)]
  · rw [if_neg q]
    by_cases q2 : 122 < x
    · rw [if_pos q2, if_neg (fun z => z.2 q2)]
    · rw [if_neg q2, if_pos ⟨q, q2⟩]
theorem Tp_isDigit (x : Int32) : f_Tp_isDigit x = some (if isDg x then 1 else 0) := by
  unfold f_Tp_isDigit f_Tp_isDigit_b0
  by_cases q : x < 48
  · rw [if_pos q, if_neg (fun z => z.1 q)]
  · rw [if_neg q]
    by_cases q2 : 57 < x
    · rw [if_pos q2, if_neg (fun z => z.2 q2)]
    · rw [if_neg q2, if_pos ⟨q, q2⟩]
theorem Tp_isBlank (x : Int32) : f_Tp_isBlank x = some (if isBl x then 1 else 0) := by
  unfold f_Tp_isBlank f_Tp_isBlank_b0 isBl
  by_cases q1 : x = 9
  · simp [q1]
  by_cases q2 : x = 10
  · simp [q2]
  by_cases q3 : x = 13
  · simp [q3]
  by_cases q4 : x = 32
  · simp [q4]
  simp [q1, q2, q3, q4]
theorem sg_t : ∀ n, n < 128 → (f_JStr_indexOf 1 (((nI n).toUInt32 % 65536).toInt32)) = some (if isSg (nI n) then (f_JStr_indexOf 1 (((nI n).toUInt32 % 65536).toInt32)).getD 0 else -1) ∧ (isSg (nI n) → ¬ (f_JStr_indexOf 1 (((nI n).toUInt32 % 65536).toInt32)).getD 0 < 0) := by decide +kernel
/-- the bytes are there -/
def byM (b : Nat → Int32) (L : Nat) (g : Nat → Int32) : Prop := ∀ i, i < L → g i = b i
theorem Tp_blanks {S : Mem} {b : Nat → Int32} {L : Nat} (hL : L ≤ 2000) (e : S.1 1 0 = nI L) (hb : byM b L (S.2.1 1 1)) {p : Nat} (hp : p ≤ L) : f_Tp_behindBlanks (nI p) S = some (nI (nbP b L p)) := by
  refine lpN (P := fun n j => f_Tp_behindBlanks_l2 S n (nI j) = some (nI (nbP b L j))) L (fun n j hj ih => ?_) (fun n => ?_) 5000 p hp (by omega)
  · show f_Tp_behindBlanks_b2 S (f_Tp_behindBlanks_l2 S n) (nI j) = _
    simp only [f_Tp_behindBlanks_b2, e, if_neg (le_nI (show ¬ L ≤ j by omega) (by omega) (by omega)), gIn_n (show j < 2000 by omega) (by decide), cl (show j < 4096 by omega), hb j hj, Tp_isBlank, bind_e, nI_1]
    by_cases q : isBl (b j)
    · rw [if_pos q, i10, ih]
      unfold nbP
      rw [runF_y hj q]
    · rw [if_neg q, i00]
      unfold nbP
      rw [runF_n q]
  · show f_Tp_behindBlanks_b2 S (f_Tp_behindBlanks_l2 S n) (nI L) = _
    simp only [f_Tp_behindBlanks_b2, e, if_pos (le_rf _)]
    unfold nbP
    rw [runF_e (Nat.le_refl _)]
theorem wordN_t : ∀ i, i < 22 → wordN.getD i 0 < 2 ^ 31 := by decide +kernel
theorem Tp_kindOf {S : Mem} (hK : cK (S.2.2 1 2)) {x : Nat} (hx : x < 2 ^ 62) : f_Tp_kindOf (lN x) S = some (kwN x) := by
  have key : ∀ i, i ≤ 22 → (∀ j, j < i → ¬ wordN.getD j 0 = x) → f_Tp_kindOf_l2 S (5000 - i) (lN x) (nI i) = some (if runF (fun i => ¬ wordN.getD i 0 = x) (22 - i) i < 22 then nI (128 + runF (fun i => ¬ wordN.getD i 0 = x) (22 - i) i) else 97) := by
    intro i hi hj
    refine lpN (P := fun n i => f_Tp_kindOf_l2 S n (lN x) (nI i) = some (if runF (fun i => ¬ wordN.getD i 0 = x) (22 - i) i < 22 then nI (128 + runF (fun i => ¬ wordN.getD i 0 = x) (22 - i) i) else 97)) 22 (fun n i hi ih => ?_) (fun n => ?_) (5000 - i) i hi (by omega)
    · show f_Tp_kindOf_b2 S (f_Tp_kindOf_l2 S n) (lN x) (nI i) = _
      have w2 := wordN_t i hi
      simp only [f_Tp_kindOf_b2, if_neg (show ¬ (Int32.ofNat 22) ≤ nI i from le_nI (show ¬ 22 ≤ i by omega) (by decide) (by omega)), gIn_n (show i < 22 by omega) (by decide), cl (show i < 4096 by omega), hK i hi, lg_cmp_eq, pk_lEQ (show wordN.getD i 0 < 2 ^ 63 by omega) (show x < 2 ^ 63 by omega), nI_1]
      by_cases q : wordN.getD i 0 = x
      · rw [if_pos q, runF_n (Q := fun i => ¬ wordN.getD i 0 = x) (fun z => z q), if_pos hi, show (128 : Int32) = nI 128 from rfl, iA]
      · rw [if_neg q, runF_y (Q := fun i => ¬ wordN.getD i 0 = x) hi q]
        exact ih
    · show f_Tp_kindOf_b2 S (f_Tp_kindOf_l2 S n) (lN x) (nI 22) = _
      simp only [f_Tp_kindOf_b2, if_pos (show (Int32.ofNat 22) ≤ nI 22 from le_rf 22)]
      rw [runF_e (Nat.le_refl _), if_neg (by omega)]
  exact key 0 (by omega) (fun j hj => by omega)
theorem nm_lt {b : Nat → Int32} {p : Nat} : ∀ n, (∀ i, i < n → ltN (b (p + i)) ≤ 26) → nmN b p n < 27 ^ n
  | 0, _ => by simp [nmN]
  | n + 1, h => by
    have ih := nm_lt n (fun i hi => h i (by omega))
    have hn := h n (by omega)
    simp only [nmN, Nat.pow_succ]; omega
theorem pw27 : ∀ n, n ≤ 9 → 27 ^ n < 2 ^ 62 := by decide +kernel
