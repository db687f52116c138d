/-! THE REFERENCE, leaves: what its small methods answer, in the words of the spec. -/
theorem in_yes {x : Int32} {n : Nat} {j : Nat} (e : x = nI j) (h : j < n) (hn : n < 2 ^ 30) : f_Mo_in x 0 (nI n - 1) = some 1 := by
  subst e
  have e1 : nI n - 1 = nI (n - 1) := by rw [show n = (n - 1) + 1 by omega]; exact nI_pred _
  have h1 : ¬ nI j < 0 := nI_pos (by omega)
  have h2 : ¬ nI (n - 1) < nI j := nI_nlt (by omega) (by omega)
  simp only [f_Mo_in, f_Mo_in_b0, e1, if_neg h1, if_neg h2]
theorem in_no {x : Int32} {n : Nat} (h : ∀ j, j < n → x ≠ nI j) (hn : n < 2 ^ 30) : f_Mo_in x 0 (nI n - 1) = some 0 := by
  unfold f_Mo_in f_Mo_in_b0
  by_cases h0 : x < 0
  · rw [if_pos h0]
  · obtain ⟨j, hj, rfl⟩ := nI_of h0
    rw [if_neg h0]
    have hjn : n ≤ j := by
      rcases Nat.lt_or_ge j n with q | q
      · exact absurd rfl (h j q)
      · exact q
    rcases Nat.eq_zero_or_pos n with rfl | hp
    · have : nI 0 - 1 < nI j := by
        have e : nI 0 - 1 = (-1 : Int32) := by decide
        rw [e]
        have h3 : (-1 : Int32).toInt < (nI j).toInt := by
          rw [nI_toInt hj, show (-1 : Int32).toInt = -1 by decide]
          omega
        exact Int32.lt_iff_toInt_lt.mpr h3
      rw [if_pos this]
    · have e1 : nI n - 1 = nI (n - 1) := by rw [show n = (n - 1) + 1 by omega]; exact nI_pred _
      have : nI (n - 1) < nI j := nI_lt (by omega) hj
      rw [e1, if_pos this]
theorem Mo_isAlive {r : RW} {S : Mem} (hr : MR r S) (a : Nat) : f_Mo_isAlive (nI a) S = some (bitOf (r 33) a) := by
  unfold f_Mo_isAlive f_Mo_isAlive_b0
  rw [g33, ic_33, hr 33 (by decide)]
  rcases bit01 (r 33) a with h | h
  · have h2 : ¬ (r 33 >>> (nI a &&& 31)) &&& 1 = 1 := by intro q; have : bitOf (r 33) a = 1 := q; rw [h] at this; exact absurd this (by decide)
    rw [if_neg h2, h]
  · have h2 : (r 33 >>> (nI a &&& 31)) &&& 1 = 1 := h
    rw [if_pos h2, h]
theorem Mo_knows {r : RW} {S : Mem} (hr : MR r S) {a : Nat} (ha : a < 7) (s : Nat) : f_Mo_knows (nI a) (nI s) S = some (bitOf (r (26 + a)) s) := by
  unfold f_Mo_knows f_Mo_knows_b0
  rw [a26, gIn_n (by omega) (by decide), nI_clamp (by omega), hr (26 + a) (by omega)]
  rcases bit01 (r (26 + a)) s with h | h
  · have h2 : ¬ (r (26 + a) >>> (nI s &&& 31)) &&& 1 = 1 := by intro q; have : bitOf (r (26 + a)) s = 1 := q; rw [h] at this; exact absurd this (by decide)
    rw [if_neg h2, h]
  · have h2 : (r (26 + a) >>> (nI s &&& 31)) &&& 1 = 1 := h
    rw [if_pos h2, h]
theorem Mo_knowersOf {v : Nat} {T : TX} {r : RW} {S : Mem} (hN : TN T) (hT : TV v T S) (hr : MR r S) (s : Nat) : f_Mo_knowersOf (nI s) S = some (kn T r s) := by
  obtain ⟨hv, e18, ⟨-, e27, -, -⟩, -⟩ := hT
  obtain ⟨-, ⟨eM, hM⟩, -⟩ := hN
  refine lq_3 (f_Mo_knowersOf_b4 S) (f_Mo_knowersOf_l4 S) (fun _ => rfl) (fun _ => nI s) (orF (fun a => if bitOf (r (26 + a)) s = 1 then bitM a else 0)) nI (nM T) _ (fun k j hj => ?_) (fun k => ?_) 5000 (by omega)
  · simp only [f_Mo_knowersOf_b4, e18, g2 hv, cl (show v < 4096 by omega), e27, eM, if_neg (le_nI (show ¬ nM T ≤ j by omega) (by omega) (by omega)), Mo_knows hr (show j < 7 by omega), bind_e, letS_e, nI_1]
    rcases bit01 (r (26 + j)) s with q | q <;> simp [orF, q, bitM]
  · simp only [f_Mo_knowersOf_b4, e18, g2 hv, cl (show v < 4096 by omega), e27, eM, if_pos (le_rf _)]
    rfl
theorem Mo_knownBy {v : Nat} {T : TX} {r : RW} {S : Mem} (hN : TN T) (hT : TV v T S) (hr : MR r S) (s : Nat) : f_Mo_knownBy (nI s) S = some (knB T r s) := by
  simp only [f_Mo_knownBy, f_Mo_knownBy_b0, Mo_knowersOf hN hT hr, bind_e, g33, ic_33, hr 33 (by decide), Mo_bits]
  rfl
theorem Mo_deeperBy {v : Nat} {T : TX} {S : Mem} (hT : TV v T S) {s : Nat} (hs : s < 8) (known alive : Int32) : f_Mo_deeperBy (nI s) known alive S = some (shr (T 5 s) known alive) := by
  obtain ⟨hv, e18, -, -, -, -, h8, -⟩ := hT
  have h1 : f_Mo_deeperBy_b18 S (nI s) known = if known = 0 then none else some (T 5 s * 10 / known) := by
    simp only [f_Mo_deeperBy_b18, e18, m8, g16 (show 8 * v + s < 16 by omega), cl (show 8 * v + s < 4096 by omega), (h8 s hs).1, gNz]
  unfold f_Mo_deeperBy f_Mo_deeperBy_b0 shr
  rw [h1]
  by_cases hk : known = 0
  · simp [hk]
  · by_cases ha : known = alive
    · subst ha
      by_cases hb : known ≤ 1
      · simp [hk, hb]
      · simp [hk, hb]
    · simp [hk, ha]
theorem Mo_weightNow {v : Nat} {T : TX} {r : RW} {S : Mem} (hN : TN T) (hT : TV v T S) (hr : MR r S) {s : Nat} (hs : s < 8) : f_Mo_weightNow (nI s) S = some (wgt T r s) := by
  have hT0 := hT
  obtain ⟨hv, e18, -, -, -, -, h8, -⟩ := hT
  simp only [f_Mo_weightNow, f_Mo_weightNow_b0, e18, m8, g16 (show 8 * v + s < 16 by omega), cl (show 8 * v + s < 4096 by omega), (h8 s hs).2.1, Mo_knownBy hN hT0 hr, bind_e, g33, ic_33, hr 33 (by decide), Mo_bits, Mo_deeperBy hT0 hs, wgt]
  split <;> rfl
theorem Mo_isHolding {v : Nat} {T : TX} {r : RW} {S : Mem} (hN : TN T) (hT : TV v T S) (hr : MR r S) {s : Nat} (hs : s < 8) : f_Mo_isHolding (nI s) S = some (if isH T r s then 1 else 0) := by
  have hT0 := hT
  obtain ⟨hv, e18, -, -, -, -, h8, -⟩ := hT
  simp only [f_Mo_isHolding, f_Mo_isHolding_b0, e18, m8, g16 (show 8 * v + s < 16 by omega), cl (show 8 * v + s < 4096 by omega), (h8 s hs).2.1, Mo_knownBy hN hT0 hr, bind_e, g33, ic_33, hr 33 (by decide), Mo_bits, isH]
  by_cases h1 : T 6 s = 0
  · by_cases h2 : knB T r s ≤ 0
    · simp [h1, h2]
    · by_cases h3 : knB T r s < bits (r 33)
      · simp [h1, h2, h3]
      · by_cases h4 : bits (r 33) = 1
        · simp [h1, h2, h3, h4]
        · simp [h1, h2, h3, h4]
  · simp [h1]
theorem Mo_holding {v : Nat} {T : TX} {r : RW} {S : Mem} (hN : TN T) (hT : TV v T S) (hr : MR r S) (w : Nat) : f_Mo_holding (nI w) S = some (hld T r w) := by
  have hT0 := hT
  obtain ⟨hv, e18, ⟨-, -, e30, -⟩, -⟩ := hT
  have hN0 := hN
  obtain ⟨-, -, ⟨eS, hS⟩, -⟩ := hN
  refine lq_3 (f_Mo_holding_b4 S) (f_Mo_holding_l4 S) (fun _ => rfl) (fun _ => nI w) (orF (fun s => if r (4 + s) = nI w ∧ isH T r s then bitM s else 0)) nI (nS T) _ (fun k j hj => ?_) (fun k => ?_) 5000 (by omega)
  · simp only [f_Mo_holding_b4, e18, g2 hv, cl (show v < 4096 by omega), e30, eS, if_neg (le_nI (show ¬ nS T ≤ j by omega) (by omega) (by omega)), a4, g40 (show 4 + j < 40 by omega), cl (show 4 + j < 4096 by omega), hr (4 + j) (by omega), Mo_isHolding hN0 hT0 hr (show j < 8 by omega), bind_e, letS_e, nI_1]
    by_cases q : r (4 + j) = nI w
    · by_cases q2 : isH T r j
      · rw [if_pos q, if_pos q2, if_neg (by decide)]
        simp only [orF]
        rw [if_pos ⟨q, q2⟩]; rfl
      · rw [if_pos q, if_neg q2, if_pos rfl, orF_0 (if_neg (fun z => q2 z.2))]
    · rw [if_neg q, orF_0 (if_neg (fun z => q z.1))]
  · simp only [f_Mo_holding_b4, e18, g2 hv, cl (show v < 4096 by omega), e30, eS, if_pos (le_rf _)]
    rfl
theorem Mo_drinkersOf {v : Nat} {T : TX} {r : RW} {S : Mem} (hN : TN T) (hT : TV v T S) (hr : MR r S) (w : Nat) : f_Mo_drinkersOf (nI w) S = some (drk T r w) := by
  obtain ⟨hv, e18, ⟨-, e27, -, -⟩, -⟩ := hT
  obtain ⟨-, ⟨eM, hM⟩, -⟩ := hN
  refine lq_3 (f_Mo_drinkersOf_b4 S) (f_Mo_drinkersOf_l4 S) (fun _ => rfl) (fun _ => nI w) (orF (fun a => if bitOf (r 33) a = 1 ∧ r (12 + a) = nI w then bitM a else 0)) nI (nM T) _ (fun k j hj => ?_) (fun k => ?_) 5000 (by omega)
  · simp only [f_Mo_drinkersOf_b4, e18, g2 hv, cl (show v < 4096 by omega), e27, eM, if_neg (le_nI (show ¬ nM T ≤ j by omega) (by omega) (by omega)), a12, g40 (show 12 + j < 40 by omega), cl (show 12 + j < 4096 by omega), hr (12 + j) (by omega), Mo_isAlive hr, bind_e, letS_e, nI_1]
    rcases bit01 (r 33) j with q | q
    · rw [q, if_pos rfl, orF_0 (if_neg (fun z => absurd (q.symm.trans z.1) (by decide)))]
    · rw [q, if_neg (by decide)]
      by_cases q2 : r (12 + j) = nI w
      · rw [if_pos q2]
        simp only [orF]
        rw [if_pos ⟨q, q2⟩]; rfl
      · rw [if_neg q2, orF_0 (if_neg (fun z => q2 z.2))]
  · simp only [f_Mo_drinkersOf_b4, e18, g2 hv, cl (show v < 4096 by omega), e27, eM, if_pos (le_rf _)]
    rfl
theorem Mo_deepOf {v : Nat} {T : TX} {r : RW} {S : Mem} (hN : TN T) (hT : TV v T S) (hr : MR r S) {w : Nat} (hw : w < 4) : f_Mo_deepOf (nI w) S = some (dp T r w) := by
  have hT0 := hT
  obtain ⟨hv, e18, ⟨-, -, e30, -⟩, -, h4, -⟩ := hT
  have hN0 := hN
  obtain ⟨-, -, ⟨eS, hS⟩, -⟩ := hN
  simp only [f_Mo_deepOf, f_Mo_deepOf_b0, e18, m4, g8 (show 4 * v + w < 8 by omega), cl (show 4 * v + w < 4096 by omega), (h4 w hw).1, letS_e]
  refine lq_3 (f_Mo_deepOf_b16 S) (f_Mo_deepOf_l16 S) (fun _ => rfl) (fun _ => nI w) (fun n => T 1 w + sumF (fun s => if r (4 + s) = nI w then wgt T r s else 0) n) nI (nS T) _ (fun k j hj => ?_) (fun k => ?_) 5000 (by omega) |> fun h => by simpa [sumF, nI_0] using h
  · simp only [f_Mo_deepOf_b16, e18, g2 hv, cl (show v < 4096 by omega), e30, eS, if_neg (le_nI (show ¬ nS T ≤ j by omega) (by omega) (by omega)), a4, g40 (show 4 + j < 40 by omega), cl (show 4 + j < 4096 by omega), hr (4 + j) (by omega), Mo_weightNow hN0 hT0 hr (show j < 8 by omega), bind_e, letS_e, nI_1]
    by_cases q : r (4 + j) = nI w
    · rw [if_pos q]
      simp only [sumF]
      rw [if_pos q, Int32.add_assoc]
    · rw [if_neg q, sumF_0 (if_neg q)]
  · simp only [f_Mo_deepOf_b16, e18, g2 hv, cl (show v < 4096 by omega), e30, eS, if_pos (le_rf _)]
    rfl
