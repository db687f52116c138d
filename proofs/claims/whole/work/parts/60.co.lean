/-! THE CLASS, leaves: a text tx and a state st of its memory hold T and r. -/
theorem small12 {x : Int32} {m : Nat} (hm : m ≤ 12) (h : ∀ i, m ≤ i → i < 32 → bt x i = false) : ∃ n, n < 2 ^ m ∧ x = nI n := by
  refine ⟨x.toBitVec.toNat, ?_, ?_⟩
  · apply Nat.lt_pow_two_of_testBit
    intro i hi
    rcases Nat.lt_or_ge i 32 with q | q
    · exact h i hi q
    · exact Nat.testBit_lt_two_pow (Nat.lt_of_lt_of_le x.toBitVec.isLt (Nat.pow_le_pow_right (by decide) q))
  · apply Int32.toBitVec_inj.mp
    apply BitVec.eq_of_toNat_eq
    exact (pk_tn x.toBitVec.isLt).symm
theorem bc12 {x : Int32} (h : ∀ i, 12 ≤ i → i < 32 → bt x i = false) : f_JInt_bitCount x = some (bits x) := by
  obtain ⟨n, hn, rfl⟩ := small12 (Nat.le_refl 12) h
  exact jbc_small n hn
/-- alive, known, cut: bits of what is there alone; a secret is in a well that is there, or -2 -/
def RI (T : TX) (r : RW) : Prop := (∀ i, nM T ≤ i → i < 32 → bt (r 33) i = false) ∧ (∀ a, a < nM T → ∀ i, nS T ≤ i → i < 32 → bt (r (26 + a)) i = false) ∧ (∀ i, nT T ≤ i → i < 32 → bt (r 34) i = false) ∧ (∀ s, s < nS T → r (4 + s) = -2 ∨ ∃ w, w < nW T ∧ r (4 + s) = nI w) ∧ RH T r
def TH (T : TX) : Prop := ∀ s, s < nS T → (∃ h, 1 ≤ h ∧ h ≤ 99 ∧ T 5 s = nI h) ∧ (T 6 s = 0 ∨ T 6 s = 1)
def kT (T : TX) (a : Nat) : Int32 := orF (fun s => if bitOf (T 7 s) a = 1 then bitM s else 0) (nS T)
def CT (T : TX) (tx : Nat) (S : Mem) : Prop := (S.1 tx 0 = T 0 0 ∧ S.1 tx 1 = T 0 1 ∧ S.1 tx 2 = T 0 2 ∧ S.1 tx 3 = T 0 3) ∧ (S.1 tx 5 = T 0 4 ∧ S.1 tx 6 = T 0 5 ∧ S.1 tx 7 = T 0 6) ∧ (∀ s, s < nS T → bitOf (S.1 tx 4) s = T 6 s) ∧ (∀ w, w < nW T → S.2.1 tx 8 w = T 1 w ∧ S.2.1 tx 9 w = T 2 w) ∧ (∀ a, a < nM T → S.2.1 tx 10 a = T 3 a ∧ S.2.1 tx 11 a = T 4 a ∧ S.2.1 tx 12 a = kT T a) ∧ (∀ s, s < nS T → S.2.1 tx 13 s = T 5 s ∧ S.2.1 tx 14 s = shr (T 5 s) (bits (T 7 s)) (T 0 1)) ∧ (∀ k, k < nT T → S.2.1 tx 15 k = T 8 k ∧ S.2.1 tx 16 k = T 9 k)
def CB (T : TX) (r : RW) (st : Nat) (S : Mem) : Prop := (S.1 st 0 = r 35 ∧ S.1 st 1 = r 33 ∧ S.1 st 2 = r 34 ∧ S.1 st 3 = r 36) ∧ (∀ w, w < nW T → S.2.1 st 4 w = r w) ∧ (∀ a, a < nM T → S.2.1 st 5 a = r (12 + a) ∧ S.2.1 st 6 a = r (19 + a) ∧ S.2.1 st 7 a = r (26 + a)) ∧ (∀ s, s < nS T → S.2.1 st 8 s = r (4 + s))
def CM (T : TX) (r : RW) (st : Nat) (S : Mem) : Prop := (∀ w, w < nW T → S.2.1 st 9 w = dp T r w ∧ S.2.1 st 10 w = hld T r w ∧ S.2.1 st 11 w = drk T r w) ∧ (∀ s, s < nS T → S.2.1 st 12 s = wgt T r s)
theorem St_isAlive {T : TX} {r : RW} {st : Nat} {S : Mem} (hB : CB T r st S) (a : Nat) : f_St_isAlive st (nI a) S = some (bitOf (r 33) a) := by
  unfold f_St_isAlive f_St_isAlive_b0
  rw [hB.1.2.1, show (r 33 >>> (nI a &&& 31)) &&& 1 = bitOf (r 33) a from rfl]
  rcases bit01 (r 33) a with h | h
  · rw [if_pos h, h]
  · rw [if_neg (by rw [h]; decide), h]
theorem St_isCut {T : TX} {r : RW} {st : Nat} {S : Mem} (hB : CB T r st S) (a : Nat) : f_St_isCut st (nI a) S = some (bitOf (r 34) a) := by
  unfold f_St_isCut f_St_isCut_b0
  rw [hB.1.2.2.1, show (r 34 >>> (nI a &&& 31)) &&& 1 = bitOf (r 34) a from rfl]
  rcases bit01 (r 34) a with h | h
  · rw [if_pos h, h]
  · rw [if_neg (by rw [h]; decide), h]
theorem St_isKnownTo {T : TX} {r : RW} {st : Nat} {S : Mem} (hN : TN T) (hB : CB T r st S) {a : Nat} (ha : a < nM T) (s : Nat) : f_St_isKnownTo st (nI a) (nI s) S = some (bitOf (r (26 + a)) s) := by
  have hM := hN.2.1.2
  unfold f_St_isKnownTo f_St_isKnownTo_b0
  rw [g7 (show a < 7 by omega), cl (by omega), (hB.2.2.1 a ha).2.2, show (r (26 + a) >>> (nI s &&& 31)) &&& 1 = bitOf (r (26 + a)) s from rfl]
  rcases bit01 (r (26 + a)) s with h | h
  · rw [if_pos h, h]
  · rw [if_neg (by rw [h]; decide), h]
theorem Tx_isLie {T : TX} {tx : Nat} {S : Mem} (hC : CT T tx S) {s : Nat} (hs : s < nS T) : f_Tx_isLie tx (nI s) S = some (T 6 s) := by
  unfold f_Tx_isLie f_Tx_isLie_b0
  have e := hC.2.2.1 s hs
  rw [show (S.1 tx 4 >>> (nI s &&& 31)) &&& 1 = bitOf (S.1 tx 4) s from rfl, e]
  rcases bit01 (S.1 tx 4) s with h | h
  · rw [e] at h; rw [if_pos h, h]
  · rw [e] at h; rw [if_neg (by rw [h]; decide), h]
theorem shl_bit {x : Int32} (h : x = 0 ∨ x = 1) (a : Nat) (ha : a < 32) : x <<< (nI a &&& 31) = if x = 1 then bitM a else 0 := by
  rcases h with rfl | rfl
  · rw [if_neg (by decide)]
    apply b_ext
    intro i hi
    rw [b_shl a ha 0 hi, b_0, Bool.and_false, b_0]
  · rw [if_pos rfl]; rfl
theorem St_knowers {T : TX} {r : RW} {st tx : Nat} {S : Mem} (hN : TN T) (hC : CT T tx S) (hB : CB T r st S) (s : Nat) : f_St_knowers st tx (nI s) S = some (kn T r s) := by
  have hM := hN.2.1.2
  refine lq_3 (f_St_knowers_b5 st tx S) (f_St_knowers_l5 st tx S) (fun _ => rfl) (fun _ => nI s) (orF (fun a => if bitOf (r (26 + a)) s = 1 then bitM a else 0)) nI (nM T) _ (fun k j hj => ?_) (fun k => ?_) 5000 (by omega)
  · simp only [f_St_knowers_b5, hC.1.2.1, hN.2.1.1, if_neg (le_nI (show ¬ nM T ≤ j by omega) (by omega) (by omega)), g7 (show j < 7 by omega), cl (show j < 4096 by omega), (hB.2.2.1 j hj).2.2, letS_e, nI_1]
    have e := shl_bit (bit01 (r (26 + j)) s) j (by omega)
    unfold bitOf at e
    rw [e]
    rfl
  · simp only [f_St_knowers_b5, hC.1.2.1, hN.2.1.1, if_pos (le_rf _)]
    rfl
theorem bits_sub (x y : Int32) : ∃ p q, bits (x &&& y) = nI p ∧ bits y = nI q ∧ p ≤ q ∧ q ≤ 12 := ⟨_, _, bits_pop _, bits_pop _, popN_and x y 12, popN_le y 12⟩
theorem St_share {hv : Int32} {p q : Nat} (h : p ≤ q) (hq : q ≤ 12) : f_St_share hv (nI p) (nI q) = some (shr hv (nI p) (nI q)) := by
  unfold f_St_share f_St_share_b0 f_St_share_b16 shr
  by_cases h0 : p = 0
  · subst h0
    rw [if_pos (by decide), if_pos (show nI 0 = 0 from rfl)]
  · have e0 : ¬ nI p ≤ 0 := by rw [n0, nI_leI (by omega) (by decide)]; omega
    have e1 : ¬ nI p = 0 := by rw [n0, nI_eq (by omega) (by decide)]; omega
    rw [if_neg e0, if_neg e1]
    by_cases h1 : p < q
    · have e2 : nI p < nI q := (nI_ltI (by omega) (by omega)).mpr h1
      have e3 : ¬ nI p = nI q := by rw [nI_eq (by omega) (by omega)]; omega
      rw [if_pos e2, if_neg (fun z => e3 z.1)]
      unfold gNz
      rw [if_neg e1]
    · have : p = q := by omega
      subst this
      rw [if_neg (by rw [nI_ltI (by omega) (by omega)]; omega)]
      by_cases h2 : nI p ≤ 1
      · rw [if_pos h2, if_neg (fun z => z.2 h2)]
        unfold gNz
        rw [if_neg e1]
      · rw [if_neg h2, if_pos ⟨rfl, h2⟩]
/-- the others' bits stay out of what is alive -/
theorem and_12 {T : TX} {r : RW} (hN : TN T) (hI : RI T r) (x : Int32) : ∀ i, 12 ≤ i → i < 32 → bt (x &&& r 33) i = false := by
  intro i h1 h2
  rw [b_and, hI.1 i (by have := hN.2.1.2; omega) h2, Bool.and_false]
theorem alive_12 {T : TX} {r : RW} (hN : TN T) (hI : RI T r) : ∀ i, 12 ≤ i → i < 32 → bt (r 33) i = false := fun i h1 h2 => hI.1 i (by have := hN.2.1.2; omega) h2
