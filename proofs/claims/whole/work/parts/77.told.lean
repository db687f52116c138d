/-! BOTH: what is told, and what may be true then. -/
theorem lpN {P : Nat → Nat → Prop} (N : Nat) (hs : ∀ n j, j < N → P n (j + 1) → P (n + 1) j) (hx : ∀ n, P (n + 1) N) : ∀ (n j : Nat), j ≤ N → N - j < n → P n j := by
  intro n
  induction n with
  | zero => intro j _ h; omega
  | succ n ih =>
    intro j hj hn
    rcases Nat.lt_or_ge j N with h | h
    · exact hs n j h (ih (j + 1) h (by omega))
    · have : j = N := by omega
      subst this
      exact hx n
def dTl (T : TX) (s : Nat) : Int32 := shr (T 5 s) (bits (T 7 s)) (T 0 1)
def dpT (T : TX) (N : NX) (set : Nat) (i : Nat) : Int32 := T 1 (N.2 0 i).toNatClampNeg + sumF (fun s => if bitOf (N.2 1 i &&& nI set) s = 1 then dTl T s else 0) (nS T)
abbrev fitP (T : TX) (N : NX) (k set : Nat) : Prop := ∀ i, i < k → dpT T N set i = N.2 2 i
theorem sumF_a {a : Int32} {f : Nat → Int32} {j : Nat} : a + sumF f (j + 1) = a + sumF f j + f j := by rw [sumF, Int32.add_assoc]
theorem Mo_deeperTold {v : Nat} {T : TX} {F : LF} {S : Mem} (h : TM v T F S) {s : Nat} (hs : s < 8) : f_Mo_deeperTold (nI s) S = some (dTl T s) := by
  have hv := h.1.1
  have k := h.1.2.2.2.2.2.2.1 s hs
  unfold f_Mo_deeperTold f_Mo_deeperTold_b0
  rw [h.1.2.1, m8, g16 (by omega), cl (by omega), k.2.2, Mo_bits, bind_e, g2 hv, cl (by omega), h.1.2.2.1.2.1, Mo_deeperBy h.1 hs, bind_e]
  rfl
theorem and_c (x y : Int32) (s : Nat) : (((x &&& y) >>> (nI s &&& 31)) &&& 1) = bitOf (x &&& y) s := rfl
theorem Mo_isSo {v : Nat} {T : TX} {F : LF} {N : NX} {S : Mem} (hN : TN T) (h : TM v T F S) (hn : mN N (S.1 0 68) (S.2.1 0 69) (S.2.1 0 70) (S.2.1 0 71)) (hg : ∀ i, i < N.1 → (∃ w, w < nW T ∧ N.2 0 i = nI w) ∧ ∃ s, s < 2 ^ nS T ∧ N.2 1 i = nI s) {k : Nat} (hk : k ≤ N.1) (set : Nat) : f_Mo_isSo (nI set) (nI k) S = some (if fitP T N k set then 1 else 0) := by
  obtain ⟨e68, l20, hn⟩ := hn
  have h8 := hN.2.2.1.2
  have h4 := hN.1.2
  have hv := h.1.1
  have e18 := h.1.2.1
  refine lpN (P := fun n i => (∀ j, j < i → dpT T N set j = N.2 2 j) → f_Mo_isSo_l2 S n (nI set) (nI k) (nI i) = some (if fitP T N k set then 1 else 0)) k (fun n i hi ih hp => ?_) (fun n hp => ?_) 5000 0 (by omega) (by omega) (fun j hj => by omega)
  · show f_Mo_isSo_b2 S (f_Mo_isSo_l2 S n) (nI set) (nI k) (nI i) = _
    obtain ⟨a1, a2, a3⟩ := hn i (by omega)
    obtain ⟨⟨w, hw, ew⟩, -⟩ := hg i (by omega)
    have ci : (nI i).toNatClampNeg = i := cl (by omega)
    have gi : ∀ {α : Type} {k : Option α}, gIn (nI i) 20 k = k := gIn_n (by omega) (by decide)
    have e25 := (h.1.2.2.2.2.1 w (by omega)).1
    simp only [f_Mo_isSo_b2, if_neg (le_nI (show ¬ k ≤ i by omega) (by omega) (by omega)), gi, ci, a1, ew, e18, m4, g8 (show 4 * v + w < 8 by omega), cl (show 4 * v + w < 4096 by omega), e25, letS_e]
    have inner : f_Mo_isSo_l30 S (f_Mo_isSo_l2 S n) 5000 (nI set) (nI k) (nI i) (T 1 w) 0 = if dpT T N set i = N.2 2 i then f_Mo_isSo_l2 S n (nI set) (nI k) (nI (i + 1)) else some 0 := by
      have e0 : T 1 w = T 1 w + sumF (fun s => if bitOf (N.2 1 i &&& nI set) s = 1 then dTl T s else 0) 0 := by simp [sumF]
      rw [e0]
      refine lpN (P := fun m s => f_Mo_isSo_l30 S (f_Mo_isSo_l2 S n) m (nI set) (nI k) (nI i) (T 1 w + sumF (fun s => if bitOf (N.2 1 i &&& nI set) s = 1 then dTl T s else 0) s) (nI s) = _) (nS T) (fun m s hs ih => ?_) (fun m => ?_) 5000 0 (by omega) (by omega)
      · show f_Mo_isSo_b30 S (f_Mo_isSo_l2 S n) (f_Mo_isSo_l30 S (f_Mo_isSo_l2 S n) m) (nI set) (nI k) (nI i) _ (nI s) = _
        simp only [f_Mo_isSo_b30, e18, g2 hv, cl (show v < 4096 by omega), h.1.2.2.1.2.2.1, hN.2.2.1.1, if_neg (le_nI (show ¬ nS T ≤ s by omega) (by omega) (by omega)), gi, ci, a2, and_c, Mo_deeperTold h (show s < 8 by omega), bind_e, letS_e, nI_1]
        rw [← ih, sumF_a]
        by_cases q : bitOf (N.2 1 i &&& nI set) s = 1
        · rw [if_pos q, if_pos q]
        · rw [if_neg q, if_neg q, Int32.add_zero]
      · show f_Mo_isSo_b30 S (f_Mo_isSo_l2 S n) (f_Mo_isSo_l30 S (f_Mo_isSo_l2 S n) m) (nI set) (nI k) (nI i) _ (nI (nS T)) = _
        simp only [f_Mo_isSo_b30, e18, g2 hv, cl (show v < 4096 by omega), h.1.2.2.1.2.2.1, hN.2.2.1.1, if_pos (le_rf _), gi, ci, a3, nI_1]
        have : dpT T N set i = T 1 w + sumF (fun s => if bitOf (N.2 1 i &&& nI set) s = 1 then dTl T s else 0) (nS T) := by unfold dpT; rw [ew, cl (by omega)]
        rw [this]
    rw [inner]
    by_cases q : dpT T N set i = N.2 2 i
    · rw [if_pos q]
      exact ih (fun j hj => by
        rcases Nat.lt_or_ge j i with y | y
        · exact hp j y
        · have : j = i := by omega
          subst this; exact q)
    · rw [if_neg q, if_neg (fun z => q (z i hi))]
  · show f_Mo_isSo_b2 S (f_Mo_isSo_l2 S n) (nI set) (nI k) (nI k) = _
    simp only [f_Mo_isSo_b2, if_pos (le_rf k)]
    rw [if_pos hp]
theorem Nt_fits {tx : Nat} {T : TX} {N : NX} {S : Mem} (hN : TN T) (h : CT T tx S) (hn : mN N (S.1 9 0) (S.2.1 9 1) (S.2.1 9 2) (S.2.1 9 3)) (hg : ∀ i, i < N.1 → (∃ w, w < nW T ∧ N.2 0 i = nI w) ∧ ∃ s, s < 2 ^ nS T ∧ N.2 1 i = nI s) {k : Nat} (hk : k ≤ N.1) (set : Nat) : f_Nt_fits tx (nI k) (nI set) S = some (if fitP T N k set then 1 else 0) := by
  obtain ⟨e68, l20, hn⟩ := hn
  have h8 := hN.2.2.1.2
  have h4 := hN.1.2
  refine lpN (P := fun n i => (∀ j, j < i → dpT T N set j = N.2 2 j) → f_Nt_fits_l3 tx S n (nI k) (nI set) (nI i) = some (if fitP T N k set then 1 else 0)) k (fun n i hi ih hp => ?_) (fun n hp => ?_) 5000 0 (by omega) (by omega) (fun j hj => by omega)
  · show f_Nt_fits_b3 tx S (f_Nt_fits_l3 tx S n) (nI k) (nI set) (nI i) = _
    obtain ⟨a1, a2, a3⟩ := hn i (by omega)
    obtain ⟨⟨w, hw, ew⟩, -⟩ := hg i (by omega)
    have ci : (nI i).toNatClampNeg = i := cl (by omega)
    have gi : ∀ {α : Type} {k : Option α}, gIn (nI i) 20 k = k := gIn_n (by omega) (by decide)
    have e25 := (h.2.2.2.1 w hw).1
    simp only [f_Nt_fits_b3, if_neg (le_nI (show ¬ k ≤ i by omega) (by omega) (by omega)), if_neg (show ¬ (20 : Int32) ≤ nI i from le_nI (a := 20) (by omega) (by decide) (by omega)), gi, ci, a1, ew, g4 (show w < 4 by omega), cl (show w < 4096 by omega), e25, letS_e, a2]
    have inner : f_Nt_fits_l44 tx S (f_Nt_fits_l3 tx S n) 5000 (nI k) (nI set) (nI i) (T 1 w) (N.2 1 i &&& nI set) 0 = if dpT T N set i = N.2 2 i then f_Nt_fits_l3 tx S n (nI k) (nI set) (nI (i + 1)) else some 0 := by
      have e0 : T 1 w = T 1 w + sumF (fun s => if bitOf (N.2 1 i &&& nI set) s = 1 then dTl T s else 0) 0 := by simp [sumF]
      rw [e0]
      refine lpN (P := fun m s => f_Nt_fits_l44 tx S (f_Nt_fits_l3 tx S n) m (nI k) (nI set) (nI i) (T 1 w + sumF (fun s => if bitOf (N.2 1 i &&& nI set) s = 1 then dTl T s else 0) s) (N.2 1 i &&& nI set) (nI s) = _) (nS T) (fun m s hs ih => ?_) (fun m => ?_) 5000 0 (by omega) (by omega)
      · show f_Nt_fits_b44 tx S (f_Nt_fits_l3 tx S n) (f_Nt_fits_l44 tx S (f_Nt_fits_l3 tx S n) m) (nI k) (nI set) (nI i) _ _ (nI s) = _
        simp only [f_Nt_fits_b44, h.1.2.2.1, hN.2.2.1.1, if_neg (le_nI (show ¬ nS T ≤ s by omega) (by omega) (by omega)), and_c, g8 (show s < 8 by omega), cl (show s < 4096 by omega), (h.2.2.2.2.2.1 s hs).2, letS_e, nI_1]
        rw [← ih, sumF_a]
        rcases bit01 (N.2 1 i &&& nI set) s with q | q
        · rw [if_pos q, if_neg (by rw [q]; decide), Int32.add_zero]
        · rw [if_neg (by rw [q]; decide), if_pos q]; rfl
      · show f_Nt_fits_b44 tx S (f_Nt_fits_l3 tx S n) (f_Nt_fits_l44 tx S (f_Nt_fits_l3 tx S n) m) (nI k) (nI set) (nI i) _ _ (nI (nS T)) = _
        simp only [f_Nt_fits_b44, h.1.2.2.1, hN.2.2.1.1, if_pos (le_rf _), gi, ci, a3, nI_1]
        have : dpT T N set i = T 1 w + sumF (fun s => if bitOf (N.2 1 i &&& nI set) s = 1 then dTl T s else 0) (nS T) := by unfold dpT; rw [ew, cl (by omega)]
        rw [this]
    rw [inner]
    by_cases q : dpT T N set i = N.2 2 i
    · rw [if_pos q]
      exact ih (fun j hj => by
        rcases Nat.lt_or_ge j i with y | y
        · exact hp j y
        · have : j = i := by omega
          subst this; exact q)
    · rw [if_neg q, if_neg (fun z => q (z i hi))]
  · show f_Nt_fits_b3 tx S (f_Nt_fits_l3 tx S n) (nI k) (nI set) (nI k) = _
    simp only [f_Nt_fits_b3, if_pos (le_rf k)]
    rw [if_pos hp]
def SimP (x y : Option Int32) : Prop := ∃ a, x = some a ∧ y = some a
theorem SimP.i (a : Int32) : SimP (some a) (some a) := ⟨a, rfl, rfl⟩
theorem SimP.e {x x' y y' : Option Int32} (h : SimP x' y') (h1 : x = x') (h2 : y = y') : SimP x y := by rw [h1, h2]; exact h
/-- the numbers up to the notes told -/
theorem kb_c {v tx : Nat} {T : TX} {F : LF} {r : RW} {U : UX} {H : HX} {N : NX} {B : BX} {P : Int32} {SC SM : Mem} (hM : MOK v T F r U H N B P SM) (hC : COK tx T F r U H N B P SC) (x : Int32) : (∃ k, k ≤ N.1 ∧ x = nI k ∧ f_Mo_in x 0 (SM.1 0 68) = some 1 ∧ f_Co_isKnownBy x SC = some 1) ∨ (f_Mo_in x 0 (SM.1 0 68) = some 0 ∧ f_Co_isKnownBy x SC = some 0) := by
  have l20 := hM.2.2.2.2.1.2.1
  unfold f_Co_isKnownBy f_Co_isKnownBy_b0
  rw [hM.2.2.2.2.1.1, hC.1.2.2.2.1.1]
  rcases rg x (n := N.1 + 1) (by omega) with ⟨k, hk, rfl⟩ | ⟨q, q2⟩
  · rw [in_d (n := N.1 + 1) (nI_pred _) (by omega) hk, if_neg (nI_pos (by omega)), if_neg (nI_nlt (by omega) (by omega))]
    exact Or.inl ⟨k, by omega, rfl, rfl, rfl⟩
  · rw [in_c (n := N.1 + 1) (nI_pred _) (by omega) q]
    rcases q2 with q2 | ⟨q2, q3, q4⟩
    · rw [if_pos q2]; exact Or.inr ⟨rfl, rfl⟩
    · rw [if_neg q2, if_pos (gt_n (M := nI N.1) (m := N.1) rfl (by omega) q2 q3 (by omega) (by omega)).1]; exact Or.inr ⟨rfl, rfl⟩
theorem S_truth {SC SM : Mem} (h : Rel SC SM) (x1 x2 : Int32) : SimP (f_Co_truth x1 x2 SC) (f_Mo_truth x1 x2 SM) := by
  obtain ⟨v, tx, T, F, r, U, H, N, B, P, w, hM, hC⟩ := h
  have hN := w.1.1
  have h8 := hN.2.2.1.2
  have p := p2_12 (nS T) (by omega)
  have hX := hC.1.1
  have hv := hM.1.1.1
  unfold f_Co_truth f_Co_truth_b0 f_Mo_truth f_Mo_truth_b0
  rcases kb_c hM hC x1 with ⟨k, hk, rfl, e1, e2⟩ | ⟨e1, e2⟩
  case inr => rw [e1, e2, bind_e, bind_e, i00, i00]; exact SimP.i _
  rw [e1, e2, bind_e, bind_e, i10, i10]
  by_cases q : (-1 : Int32) ≤ x2
  case neg => rw [if_neg q, if_neg q]; exact SimP.i _
  rw [if_pos q, if_pos q, hX.2.2.2.1, gTx_t hX.2.1, cl hX.tx]
  have key : SimP (f_Nt_trueOnes tx (nI k) x2 SC) (f_Mo_truth_l24 SM 5000 (nI k) x2 0 0) := by
    refine lpN (P := fun n j => ∀ acc, SimP (f_Nt_trueOnes_l6 tx SC n (nI k) x2 acc (nI j)) (f_Mo_truth_l24 SM n (nI k) x2 acc (nI j))) (2 ^ nS T) (fun n j hj ih acc => ?_) (fun n acc => ?_) 5000 0 (by omega) (by omega) 0
    · show SimP (f_Nt_trueOnes_b6 tx SC (f_Nt_trueOnes_l6 tx SC n) (nI k) x2 acc (nI j)) (f_Mo_truth_b24 SM (f_Mo_truth_l24 SM n) (nI k) x2 acc (nI j))
      simp only [f_Nt_trueOnes_b6, f_Mo_truth_b24, hX.1.2.1.1.2.2.1, hM.1.1.2.1, g2 hv, cl (show v < 4096 by omega), hM.1.1.2.2.1.2.2.1, hN.2.2.1.1, shl_p _ (show nS T ≤ 12 by omega), if_neg (le_nI (show ¬ 2 ^ nS T ≤ j by omega) (by omega) (by omega)), Nt_fits hN hX.1.2.1 hC.1.2.2.2.1 w.2.2.2.2.1 hk, Mo_isSo hN hM.1 hM.2.2.2.2.1 w.2.2.2.2.1 hk, bind_e, nI_1]
      by_cases qf : fitP T N k j
      · rw [if_pos qf, i10, i10]
        by_cases qa : acc = x2
        · rw [if_pos qa, if_pos qa]; exact SimP.i _
        · rw [if_neg qa, if_neg qa]; exact ih _
      · rw [if_neg qf, i00, i00]; exact ih _
    · show SimP (f_Nt_trueOnes_b6 tx SC (f_Nt_trueOnes_l6 tx SC n) (nI k) x2 acc (nI (2 ^ nS T))) (f_Mo_truth_b24 SM (f_Mo_truth_l24 SM n) (nI k) x2 acc (nI (2 ^ nS T)))
      simp only [f_Nt_trueOnes_b6, f_Mo_truth_b24, hX.1.2.1.1.2.2.1, hM.1.1.2.1, g2 hv, cl (show v < 4096 by omega), hM.1.1.2.2.1.2.2.1, hN.2.2.1.1, shl_p _ (show nS T ≤ 12 by omega), if_pos (le_rf _)]
      by_cases qa : x2 = -1
      · rw [if_pos qa]; exact SimP.i _
      · rw [if_neg qa]; exact SimP.i _
  obtain ⟨a, k1, k2⟩ := key
  exact ⟨a, by rw [k1, bind_e], k2⟩
theorem S_sure {SC SM : Mem} (h : Rel SC SM) (x1 x2 : Int32) : SimP (f_Co_sure x1 x2 SC) (f_Mo_sure x1 x2 SM) := by
  obtain ⟨v, tx, T, F, r, U, H, N, B, P, w, hM, hC⟩ := h
  have hN := w.1.1
  have h8 := hN.2.2.1.2
  have p := p2_12 (nS T) (by omega)
  have hX := hC.1.1
  have hv := hM.1.1.1
  unfold f_Co_sure f_Co_sure_b0 f_Mo_sure f_Mo_sure_b0
  rcases kb_c hM hC x1 with ⟨k, hk, rfl, e1, e2⟩ | ⟨e1, e2⟩
  case inr => rw [e1, e2, bind_e, bind_e, i00, i00]; exact SimP.i _
  rw [e1, e2, bind_e, bind_e, i10, i10, hX.2.2.2.1, gTx_t hX.2.1, cl hX.tx, hM.1.1.2.1, g2 hv, letS_e, cl (by omega), hM.1.1.2.2.1.2.2.1, hN.2.2.1.1, shl_p _ (by omega)]
  have ep : nI (2 ^ nS T) - 1 = nI (2 ^ nS T - 1) := by
    have := nI_pred (2 ^ nS T - 1)
    rwa [Nat.sub_add_cancel p.1] at this
  have key : SimP (f_Nt_alwaysSo tx (nI k) x2 SC) (f_Mo_sure_l37 SM 5000 (nI k) x2 (nI (2 ^ nS T) - 1) (nI (2 ^ nS T) - 1) 0 0) := by
    unfold f_Nt_alwaysSo f_Nt_alwaysSo_b0
    rw [letS_e, hX.1.2.1.1.2.2.1, hN.2.2.1.1, shl_p _ (by omega), ep]
    refine lpN (P := fun n j => ∀ acc some, SimP (f_Nt_alwaysSo_l20 tx SC n (nI k) x2 (nI (2 ^ nS T - 1)) acc some (nI j)) (f_Mo_sure_l37 SM n (nI k) x2 (nI (2 ^ nS T - 1)) acc some (nI j))) (2 ^ nS T) (fun n j hj ih acc so => ?_) (fun n acc so => ?_) 5000 0 (by omega) (by omega) _ 0
    · show SimP (f_Nt_alwaysSo_b20 tx SC (f_Nt_alwaysSo_l20 tx SC n) (nI k) x2 (nI (2 ^ nS T - 1)) acc so (nI j)) (f_Mo_sure_b37 SM (f_Mo_sure_l37 SM n) (nI k) x2 (nI (2 ^ nS T - 1)) acc so (nI j))
      simp only [f_Nt_alwaysSo_b20, f_Mo_sure_b37, f_Nt_alwaysSo_b56, f_Mo_sure_b71, letS_e, if_neg (show ¬ nI (2 ^ nS T - 1) < nI j from nI_nlt (by omega) (by omega)), Nt_fits hN hX.1.2.1 hC.1.2.2.2.1 w.2.2.2.2.1 hk, Mo_isSo hN hM.1 hM.2.2.2.2.1 w.2.2.2.2.1 hk, bind_e, nI_1]
      by_cases qf : fitP T N k j
      · rw [if_pos qf, i10, i10]
        by_cases qa : x2 = 0
        · rw [if_pos qa, if_pos qa]; exact ih _ _
        · rw [if_neg qa, if_neg qa]; exact ih _ _
      · rw [if_neg qf, i00, i00]; exact ih _ _
    · show SimP (f_Nt_alwaysSo_b20 tx SC (f_Nt_alwaysSo_l20 tx SC n) (nI k) x2 (nI (2 ^ nS T - 1)) acc so (nI (2 ^ nS T))) (f_Mo_sure_b37 SM (f_Mo_sure_l37 SM n) (nI k) x2 (nI (2 ^ nS T - 1)) acc so (nI (2 ^ nS T)))
      simp only [f_Nt_alwaysSo_b20, f_Mo_sure_b37, if_pos (show nI (2 ^ nS T - 1) < nI (2 ^ nS T) from nI_lt (by omega) (by omega))]
      by_cases qa : so = 0
      · rw [if_pos qa]; exact SimP.i _
      · rw [if_neg qa]; exact SimP.i _
  obtain ⟨a, k1, k2⟩ := key
  exact ⟨a, by rw [k1, bind_e], k2⟩
