/-! BOTH: which secret tells most. -/
def cntF (p : Nat → Prop) [DecidablePred p] : Nat → Nat
  | 0 => 0
  | n + 1 => if p n then cntF p n + 1 else cntF p n
theorem cntF_le (p : Nat → Prop) [DecidablePred p] : ∀ n, cntF p n ≤ n
  | 0 => Nat.le_refl _
  | n + 1 => by have := cntF_le p n; simp only [cntF]; split <;> omega
theorem cntF_y {p : Nat → Prop} [DecidablePred p] {n : Nat} (h : p n) : cntF p (n + 1) = cntF p n + 1 := if_pos h
theorem cntF_n {p : Nat → Prop} [DecidablePred p] {n : Nat} (h : ¬ p n) : cntF p (n + 1) = cntF p n := if_neg h
abbrev dqP (T : TX) (N : NX) (k s set : Nat) : Prop := fitP T N k set ∧ bitOf (nI set) s = 1 ∧ ¬ dTl T s ≤ 0
def nAll (T : TX) (N : NX) (k : Nat) : Nat := cntF (fun set => fitP T N k set) (2 ^ nS T)
def nDp (T : TX) (N : NX) (k s : Nat) : Nat := cntF (fun set => dqP T N k s set) (2 ^ nS T)
def hlf (T : TX) (N : NX) (k s : Nat) : Int32 := if nI (nDp T N k s) ≤ nI (nAll T N k) - nI (nDp T N k s) then nI (nAll T N k) - nI (nDp T N k s) else nI (nDp T N k s)
theorem Mo_next71 {v : Nat} {T : TX} {F : LF} {N : NX} {S : Mem} (hN : TN T) (h : TM v T F S) (hn : mN N (S.1 0 68) (S.2.1 0 69) (S.2.1 0 70) (S.2.1 0 71)) (hg : ∀ i, i < N.1 → (∃ w, w < nW T ∧ N.2 0 i = nI w) ∧ ∃ s, s < 2 ^ nS T ∧ N.2 1 i = nI s) {k : Nat} (hk : k ≤ N.1) (k48 : Int32 → Int32 → Int32 → Int32 → Int32 → Option (Int32)) (x2 x3 x4 : Int32) {s : Nat} (hs : s < nS T) :
    f_Mo_next_l71 S k48 5000 (nI k) x2 x3 x4 (nI s) 0 0 0 = f_Mo_next_b152 S k48 (nI k) x2 x3 x4 (nI s) (nI (nAll T N k)) (hlf T N k s) := by
  have h8 := hN.2.2.1.2
  have p := p2_12 (nS T) (by omega)
  have hv := h.1.1
  have e18 := h.1.2.1
  refine lpN (P := fun n j => f_Mo_next_l71 S k48 n (nI k) x2 x3 x4 (nI s) (nI (cntF (fun set => fitP T N k set) j)) (nI (cntF (fun set => dqP T N k s set) j)) (nI j) = _) (2 ^ nS T) (fun n j hj ih => ?_) (fun n => ?_) 5000 0 (by omega) (by omega)
  · show f_Mo_next_b71 S k48 (f_Mo_next_l71 S k48 n) (nI k) x2 x3 x4 (nI s) _ _ (nI j) = _
    rw [← ih]
    simp only [f_Mo_next_b71, e18, g2 hv, cl (show v < 4096 by omega), h.1.2.2.1.2.2.1, hN.2.2.1.1, shl_p _ (show nS T ≤ 12 by omega), if_neg (le_nI (show ¬ 2 ^ nS T ≤ j by omega) (by omega) (by omega)), Mo_isSo hN h hn hg hk, bind_e, Mo_deeperTold h (show s < 8 by omega), nI_1, show ((nI j >>> (nI s &&& 31)) &&& 1) = bitOf (nI j) s from rfl]
    by_cases q : fitP T N k j
    · rw [if_pos q, i10, cntF_y (p := fun set => fitP T N k set) q]
      by_cases q1 : bitOf (nI j) s = 1
      · rw [if_pos q1]
        by_cases q2 : dTl T s ≤ 0
        · rw [if_pos q2, cntF_n (p := fun set => dqP T N k s set) (fun z => z.2.2 q2)]
        · rw [if_neg q2, cntF_y (p := fun set => dqP T N k s set) ⟨q, q1, q2⟩]
      · rw [if_neg q1, cntF_n (p := fun set => dqP T N k s set) (fun z => q1 z.2.1)]
    · rw [if_neg q, i00, cntF_n (p := fun set => fitP T N k set) q, cntF_n (p := fun set => dqP T N k s set) (fun z => q z.1)]
  · show f_Mo_next_b71 S k48 (f_Mo_next_l71 S k48 n) (nI k) x2 x3 x4 (nI s) _ _ (nI (2 ^ nS T)) = _
    simp only [f_Mo_next_b71, e18, g2 hv, cl (show v < 4096 by omega), h.1.2.2.1.2.2.1, hN.2.2.1.1, shl_p _ (show nS T ≤ 12 by omega), if_pos (le_rf _)]
    show (if nI (nDp T N k s) ≤ nI (nAll T N k) - nI (nDp T N k s) then f_Mo_next_b152 S k48 (nI k) x2 x3 x4 (nI s) (nI (nAll T N k)) (nI (nAll T N k) - nI (nDp T N k s)) else f_Mo_next_b152 S k48 (nI k) x2 x3 x4 (nI s) (nI (nAll T N k)) (nI (nDp T N k s))) = _
    unfold hlf
    split <;> rfl
theorem JArr_fill (ao af an : Nat) (han : an < 4096) (x : Int32) (S : Mem) : f_JArr_fill ao af an x S = some (pA S ao af (cpF 0 an (fun _ => x) (S.2.1 ao af))) := by
  have := lq_4 (f_JArr_fill_b5 ao af an) (f_JArr_fill_l5 ao af an) (fun _ => rfl) (fun _ => x) nI (fun _ => nI an) (fun j => pA S ao af (cpF 0 j (fun _ => x) (S.2.1 ao af))) an (some (pA S ao af (cpF 0 an (fun _ => x) (S.2.1 ao af)))) (fun k j hj => ?_) (fun k => ?_) 5000 (by omega)
  · rw [cpF_0, pA_self] at this; exact this
  · simp only [f_JArr_fill_b5, if_neg (le_nI (show ¬ an ≤ j by omega) (by omega) (by omega)), gIn_n hj (by omega), letS_e, nI_1]
    rw [sA_p, cl (by omega)]
    have e := cpF_s 0 j (fun _ => x) (S.2.1 ao af)
    rw [Nat.zero_add] at e
    rw [← e]
  · simp only [f_JArr_fill_b5, if_pos (le_rf _)]
theorem CT.p9 {T : TX} {tx : Nat} {S : Mem} (h : CT T tx S) (h20 : 20 ≤ tx) (g : Nat → Int32) : CT T tx (pA S 9 4 g) := h.of rfl (fun f _ => by rw [pA_2, if_neg (by omega)])
theorem Nt_countDeeper {tx : Nat} {T : TX} {N : NX} {S : Mem} (hN : TN T) (h : CT T tx S) (h20 : 20 ≤ tx) (hn : mN N (S.1 9 0) (S.2.1 9 1) (S.2.1 9 2) (S.2.1 9 3)) (hg : ∀ i, i < N.1 → (∃ w, w < nW T ∧ N.2 0 i = nI w) ∧ ∃ s, s < 2 ^ nS T ∧ N.2 1 i = nI s) {k : Nat} (hk : k ≤ N.1) : ∃ g, f_Nt_countDeeper tx (nI k) S = some (nI (nAll T N k), pA S 9 4 g) ∧ ∀ s, s < nS T → g s = nI (nDp T N k s) := by
  have h8 := hN.2.2.1.2
  have p := p2_12 (nS T) (by omega)
  unfold f_Nt_countDeeper f_Nt_countDeeper_b0
  rw [JArr_fill 9 4 8 (by decide), bind_e]
  refine lpN (P := fun n j => ∀ g, (∀ s, s < nS T → g s = nI (cntF (fun set => dqP T N k s set) j)) → ∃ g', f_Nt_countDeeper_l13 tx n (nI k) (nI (cntF (fun set => fitP T N k set) j)) (nI j) (pA S 9 4 g) = some (nI (nAll T N k), pA S 9 4 g') ∧ ∀ s, s < nS T → g' s = nI (nDp T N k s)) (2 ^ nS T) (fun n j hj ih g hgs => ?_) (fun n g hgs => ?_) 5000 0 (by omega) (by omega) _ (fun s hs => ?_)
  · show ∃ g', f_Nt_countDeeper_b13 tx (f_Nt_countDeeper_l13 tx n) (nI k) _ (nI j) (pA S 9 4 g) = _ ∧ _
    have hc := h.p9 h20 g
    have hn' : mN N ((pA S 9 4 g).1 9 0) ((pA S 9 4 g).2.1 9 1) ((pA S 9 4 g).2.1 9 2) ((pA S 9 4 g).2.1 9 3) := hn
    simp only [f_Nt_countDeeper_b13, hc.1.2.2.1, hN.2.2.1.1, shl_p _ (show nS T ≤ 12 by omega), if_neg (le_nI (show ¬ 2 ^ nS T ≤ j by omega) (by omega) (by omega)), Nt_fits hN hc hn' hg hk, bind_e, nI_1]
    by_cases q : fitP T N k j
    · rw [if_pos q, i10]
      rw [cntF_y (p := fun set => fitP T N k set) q] at ih
      have inner : ∀ g, (∀ u, u < nS T → g u = nI (if u < 0 then cntF (fun set => dqP T N k u set) (j + 1) else cntF (fun set => dqP T N k u set) j)) → ∃ g', f_Nt_countDeeper_l44 tx (f_Nt_countDeeper_l13 tx n) 5000 (nI k) (nI (cntF (fun set => fitP T N k set) j + 1)) (nI j) (nI 0) (pA S 9 4 g) = f_Nt_countDeeper_l13 tx n (nI k) (nI (cntF (fun set => fitP T N k set) j + 1)) (nI (j + 1)) (pA S 9 4 g') ∧ ∀ u, u < nS T → g' u = nI (cntF (fun set => dqP T N k u set) (j + 1)) := by
        refine lpN (P := fun m s => ∀ g, (∀ u, u < nS T → g u = nI (if u < s then cntF (fun set => dqP T N k u set) (j + 1) else cntF (fun set => dqP T N k u set) j)) → ∃ g', f_Nt_countDeeper_l44 tx (f_Nt_countDeeper_l13 tx n) m (nI k) (nI (cntF (fun set => fitP T N k set) j + 1)) (nI j) (nI s) (pA S 9 4 g) = f_Nt_countDeeper_l13 tx n (nI k) (nI (cntF (fun set => fitP T N k set) j + 1)) (nI (j + 1)) (pA S 9 4 g') ∧ ∀ u, u < nS T → g' u = nI (cntF (fun set => dqP T N k u set) (j + 1))) (nS T) (fun m s hs ih2 g hu => ?_) (fun m g hu => ?_) 5000 0 (by omega) (by omega)
        · show ∃ g', f_Nt_countDeeper_b44 tx (f_Nt_countDeeper_l13 tx n) (f_Nt_countDeeper_l44 tx (f_Nt_countDeeper_l13 tx n) m) (nI k) _ (nI j) (nI s) (pA S 9 4 g) = _ ∧ _
          have hc := h.p9 h20 g
          have e9 : (pA S 9 4 g).2.1 9 4 = g := rfl
          simp only [f_Nt_countDeeper_b44, hc.1.2.2.1, hN.2.2.1.1, if_neg (le_nI (show ¬ nS T ≤ s by omega) (by omega) (by omega)), show ((nI j >>> (nI s &&& 31)) &&& 1) = bitOf (nI j) s from rfl, g8 (show s < 8 by omega), cl (show s < 4096 by omega), (hc.2.2.2.2.2.1 s hs).2, letS_e, nI_1, e9]
          rw [show shr (T 5 s) (bits (T 7 s)) (T 0 1) = dTl T s from rfl]
          have step : ∀ g2 : Nat → Int32, (∀ u, u ≠ s → g2 u = g u) → g2 s = nI (cntF (fun set => dqP T N k s set) (j + 1)) → ∀ u, u < nS T → g2 u = nI (if u < s + 1 then cntF (fun set => dqP T N k u set) (j + 1) else cntF (fun set => dqP T N k u set) j) := by
            intro g2 h1 h2 u hu'
            by_cases qu : u = s
            · subst qu; rw [if_pos (by omega)]; exact h2
            · rw [h1 u qu, hu u hu']
              by_cases qs : u < s
              · rw [if_pos qs, if_pos (by omega)]
              · rw [if_neg qs, if_neg (by omega)]
          have gs : g s = nI (cntF (fun set => dqP T N k s set) j) := by rw [hu s hs, if_neg (by omega)]
          rcases bit01 (nI j) s with q1 | q1
          · rw [if_pos q1]
            refine ih2 g (step g (fun _ _ => rfl) ?_)
            rw [gs, cntF_n (p := fun set => dqP T N k s set) (fun z => absurd (q1.symm.trans z.2.1) (by decide))]
          · rw [if_neg (by rw [q1]; decide)]
            by_cases q2 : dTl T s ≤ 0
            · rw [if_pos q2]
              refine ih2 g (step g (fun _ _ => rfl) ?_)
              rw [gs, cntF_n (p := fun set => dqP T N k s set) (fun z => z.2.2 q2)]
            · rw [if_neg q2, sA_p, cl (by omega)]
              refine ih2 _ (step _ (fun u hu => by rw [upd_at, if_neg hu]) ?_)
              rw [upd_at, if_pos rfl, gs, nI_1, cntF_y (p := fun set => dqP T N k s set) ⟨q, q1, q2⟩]
        · refine ⟨g, ?_, fun u hu' => by rw [hu u hu', if_pos hu']⟩
          show f_Nt_countDeeper_b44 tx (f_Nt_countDeeper_l13 tx n) (f_Nt_countDeeper_l44 tx (f_Nt_countDeeper_l13 tx n) m) (nI k) _ (nI j) (nI (nS T)) (pA S 9 4 g) = _
          simp only [f_Nt_countDeeper_b44, (h.p9 h20 g).1.2.2.1, hN.2.2.1.1, if_pos (le_rf _), nI_1]
      obtain ⟨g', e', hg'⟩ := inner g (fun u hu => by rw [if_neg (by omega)]; exact hgs u hu)
      obtain ⟨g2, e2, hg2⟩ := ih g' hg'
      exact ⟨g2, e'.trans e2, hg2⟩
    · rw [if_neg q, i00]
      rw [cntF_n (p := fun set => fitP T N k set) q] at ih
      exact ih g (fun s hs => by rw [cntF_n (p := fun set => dqP T N k s set) (fun z => q z.1)]; exact hgs s hs)
  · refine ⟨g, ?_, hgs⟩
    show f_Nt_countDeeper_b13 tx (f_Nt_countDeeper_l13 tx n) (nI k) _ (nI (2 ^ nS T)) (pA S 9 4 g) = _
    simp only [f_Nt_countDeeper_b13, (h.p9 h20 g).1.2.2.1, hN.2.2.1.1, shl_p _ (show nS T ≤ 12 by omega), if_pos (le_rf _)]
    rfl
  · unfold cpF; rw [if_pos (by omega)]; rfl
theorem COK.p9 {tx : Nat} {T : TX} {F : LF} {r : RW} {U : UX} {H : HX} {N : NX} {B : BX} {P : Int32} {S : Mem} (h : COK tx T F r U H N B P S) (g : Nat → Int32) : COK tx T F r U H N B P (pA S 9 4 g) := by
  obtain ⟨⟨h1, h2, h3, h4, h5, h6, h7⟩, hB, hM, hR⟩ := h
  exact ⟨⟨h1.of (fun a ha => rfl) (fun a f ha hf => by rw [pA_2, if_neg (by omega)]) rfl rfl, h2, h3, h4, h5, h6, h7⟩, hB, hM, hR⟩
theorem S_next {SC SM : Mem} (h : Rel SC SM) (x1 x2 : Int32) : ∃ a SC', f_Co_next x1 x2 SC = some (a, SC') ∧ f_Mo_next x1 x2 SM = some a ∧ Rel SC' SM := by
  have h0 := h
  obtain ⟨v, tx, T, F, r, U, H, N, B, P, w, hM, hC⟩ := h
  have hN := w.1.1
  have h8 := hN.2.2.1.2
  have h4 := hN.1.2
  have p := p2_12 (nS T) (by omega)
  have hX := hC.1.1
  have hv := hM.1.1.1
  unfold f_Co_next f_Co_next_b0 f_Mo_next f_Mo_next_b0
  rcases kb_c hM hC x1 with ⟨k, hk, rfl, e1, e2⟩ | ⟨e1, e2⟩
  case inr => rw [e1, e2, bind_e, bind_e, i00, i00]; exact ⟨_, _, rfl, rfl, h0⟩
  rw [e1, e2, bind_e, bind_e, i10, i10]
  rcases rg x2 (n := 2) (by decide) with ⟨x, hx, rfl⟩ | ⟨q, q2⟩
  case inr =>
    rw [in_c (n := 2) (by decide) (by decide) q, bind_e, i00]
    rcases q2 with q2 | ⟨q2, q3, q4⟩
    · rw [if_pos q2]; exact ⟨_, _, rfl, rfl, h0⟩
    · rw [if_neg q2, if_neg (gt_n (M := 1) (m := 1) rfl (by decide) q2 q3 (by decide) (by decide)).2]; exact ⟨_, _, rfl, rfl, h0⟩
  rw [in_d (n := 2) (by decide) (by decide) hx, bind_e, i10, if_neg (nI_pos (by omega)), if_pos (show nI x ≤ (1 : Int32) from nI_le (b := 1) (by omega) (by decide)), hX.2.2.2.1, gTx_t hX.2.1, gTx_t hX.2.1, cl hX.tx, hX.1.2.1.1.1, hM.1.1.2.1, g2 hv, cl (by omega), hM.1.1.2.2.1.1]
  by_cases qw : T 0 0 = 0
  · rw [if_pos qw, if_pos qw]; exact ⟨_, _, rfl, rfl, h0⟩
  rw [if_neg qw, if_neg qw]
  obtain ⟨g, eg, hg⟩ := Nt_countDeeper hN hX.1.2.1 hX.1.1 hC.1.2.2.2.1 w.2.2.2.2.1 hk
  have hC' := hC.p9 g
  have hrel : Rel (pA SC 9 4 g) SM := ⟨v, tx, T, F, r, U, H, N, B, P, w, hM, hC'⟩
  unfold f_Nt_tellsMost f_Nt_tellsMost_b0
  rw [eg, bind_e, letS_e]
  have hal : nAll T N k ≤ 4096 := Nat.le_trans (cntF_le _ _) p.2
  by_cases qa : nI (nAll T N k) = 0
  · rw [if_pos qa, bind_e]
    refine ⟨-2, _, rfl, ?_, hrel⟩
    refine lpN (P := fun n j => f_Mo_next_l48 SM n (nI k) (nI x) (-2) (-2) (nI j) = some (-2)) (nS T) (fun n j hj ih => ?_) (fun n => ?_) 5000 0 (by omega) (by omega)
    · show f_Mo_next_b48 SM (f_Mo_next_l48 SM n) (nI k) (nI x) (-2) (-2) (nI j) = _
      simp only [f_Mo_next_b48, hM.1.1.2.1, g2 hv, cl (show v < 4096 by omega), hM.1.1.2.2.1.2.2.1, hN.2.2.1.1, if_neg (le_nI (show ¬ nS T ≤ j by omega) (by omega) (by omega))]
      rw [Mo_next71 hN hM.1 hM.2.2.2.2.1 w.2.2.2.2.1 hk _ _ _ _ hj]
      unfold f_Mo_next_b152
      rw [if_pos qa, nI_1]; exact ih
    · show f_Mo_next_b48 SM (f_Mo_next_l48 SM n) (nI k) (nI x) (-2) (-2) (nI (nS T)) = _
      simp only [f_Mo_next_b48, hM.1.1.2.1, g2 hv, cl (show v < 4096 by omega), hM.1.1.2.2.1.2.2.1, hN.2.2.1.1, if_pos (le_rf _)]
      split <;> rfl
  · rw [if_neg qa]
    have key : ∃ a, f_Mo_next_l48 SM 5000 (nI k) (nI x) (-2) (-2) 0 = some a ∧ f_Nt_tellsMost_l25 tx 5000 (nI x) (nI (nAll T N k)) (-1) 0 0 (pA SC 9 4 g) = some (a, pA SC 9 4 g) := by
      refine lpN (P := fun n j => ∀ x3 x4 x5 x6, ((x3 = -2 ∧ x4 = -2 ∧ x5 = -1) ∨ (∃ b, b < 8 ∧ x3 = nI b ∧ x5 = nI b ∧ x4 = x6)) → ∃ a, f_Mo_next_l48 SM n (nI k) (nI x) x3 x4 (nI j) = some a ∧ f_Nt_tellsMost_l25 tx n (nI x) (nI (nAll T N k)) x5 x6 (nI j) (pA SC 9 4 g) = some (a, pA SC 9 4 g)) (nS T) (fun n j hj ih x3 x4 x5 x6 hr => ?_) (fun n x3 x4 x5 x6 hr => ?_) 5000 0 (by omega) (by omega) _ _ _ _ (Or.inl ⟨rfl, rfl, rfl⟩)
      · show ∃ a, f_Mo_next_b48 SM (f_Mo_next_l48 SM n) (nI k) (nI x) x3 x4 (nI j) = _ ∧ f_Nt_tellsMost_b25 tx (f_Nt_tellsMost_l25 tx n) (nI x) (nI (nAll T N k)) x5 x6 (nI j) (pA SC 9 4 g) = _
        have e9 : (pA SC 9 4 g).2.1 9 4 = g := rfl
        simp only [f_Mo_next_b48, hM.1.1.2.1, g2 hv, cl (show v < 4096 by omega), hM.1.1.2.2.1.2.2.1, hN.2.2.1.1, if_neg (le_nI (show ¬ nS T ≤ j by omega) (by omega) (by omega)), f_Nt_tellsMost_b25, hC'.1.1.1.2.1.1.2.2.1, g8 (show j < 8 by omega), cl (show j < 4096 by omega), e9, hg j hj, letS_e]
        rw [Mo_next71 hN hM.1 hM.2.2.2.2.1 w.2.2.2.2.1 hk _ _ _ _ hj]
        have ehl : jMmax (nI (nDp T N k j)) (nI (nAll T N k) - nI (nDp T N k j)) = hlf T N k j := by
          unfold jMmax hlf
          by_cases z : nI (nDp T N k j) < nI (nAll T N k) - nI (nDp T N k j)
          · rw [if_pos z, if_pos (Int32.le_of_lt z)]
          · rw [if_neg z]
            by_cases y : nI (nDp T N k j) ≤ nI (nAll T N k) - nI (nDp T N k j)
            · rw [if_pos y]; exact Int32.le_antisymm y (Int32.not_lt.mp z)
            · rw [if_neg y]
        rw [ehl]
        unfold f_Mo_next_b152
        rw [if_neg qa]
        rcases hr with ⟨r1, r2, r3⟩ | ⟨b, hb, r1, r2, r3⟩
        · subst r1 r2 r3
          rw [if_pos (show (-2 : Int32) < 0 by decide), if_pos rfl, nI_1]
          exact ih _ _ _ _ (Or.inr ⟨j, by omega, rfl, rfl, rfl⟩)
        · subst r1 r2 r3
          rw [if_neg (nI_pos (by omega)), if_neg (show ¬ nI b = -1 from fun z => nI_pos (n := b) (by omega) (by rw [z]; decide)), nI_1]
          by_cases z : hlf T N k j < x4
          · rw [if_pos z, if_neg (Int32.not_le.mpr z)]
            exact ih _ _ _ _ (Or.inr ⟨j, by omega, rfl, rfl, rfl⟩)
          · rw [if_neg z, if_pos (Int32.not_lt.mp z)]
            exact ih _ _ _ _ (Or.inr ⟨b, hb, rfl, rfl, rfl⟩)
      · show ∃ a, f_Mo_next_b48 SM (f_Mo_next_l48 SM n) (nI k) (nI x) x3 x4 (nI (nS T)) = _ ∧ f_Nt_tellsMost_b25 tx (f_Nt_tellsMost_l25 tx n) (nI x) (nI (nAll T N k)) x5 x6 (nI (nS T)) (pA SC 9 4 g) = _
        simp only [f_Mo_next_b48, hM.1.1.2.1, g2 hv, cl (show v < 4096 by omega), hM.1.1.2.2.1.2.2.1, hN.2.2.1.1, if_pos (le_rf _), f_Nt_tellsMost_b25, hC'.1.1.1.2.1.1.2.2.1]
        rcases hr with ⟨r1, r2, r3⟩ | ⟨b, hb, r1, r2, r3⟩
        · subst r1 r2 r3
          refine ⟨-2, ?_, by rw [if_pos rfl]⟩
          split <;> rfl
        · subst r1 r2 r3
          rw [if_neg (show ¬ nI b = -1 from fun z => nI_pos (n := b) (by omega) (by rw [z]; decide))]
          by_cases z : nI x = 0
          · rw [if_pos z, if_pos z]; exact ⟨_, rfl, rfl⟩
          · rw [if_neg z, if_neg z]; exact ⟨_, rfl, rfl⟩
    obtain ⟨a, k1, k2⟩ := key
    exact ⟨a, _, by rw [k2, bind_e], k1, hrel⟩
