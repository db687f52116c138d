/-! BOTH: odds and deaths by seeds. -/
theorem in1_y {j : Nat} (h1 : 1 ≤ j) (h2 : j ≤ 20) : f_Mo_in (nI j) 1 20 = some 1 := by
  unfold f_Mo_in f_Mo_in_b0
  rw [if_neg (show ¬ nI j < (1 : Int32) from nI_nlt (b := 1) h1 (by omega)), if_neg (show ¬ (20 : Int32) < nI j from nI_nlt (a := 20) h2 (by decide))]
theorem in1_n {x : Int32} (h : ∀ j, 1 ≤ j → j ≤ 20 → x ≠ nI j) : f_Mo_in x 1 20 = some 0 ∧ (x < 1 ∨ (¬ x < 1 ∧ (20 : Int32) < x)) := by
  unfold f_Mo_in f_Mo_in_b0
  by_cases q : x < 1
  · rw [if_pos q]; exact ⟨rfl, Or.inl q⟩
  · have q0 : ¬ x < 0 := fun z => q (Int32.lt_trans z (by decide))
    obtain ⟨j, hj, rfl⟩ := nI_of q0
    have h1 : 1 ≤ j := by
      rcases Nat.eq_zero_or_pos j with z | z
      · subst z; exact absurd (by decide) q
      · exact z
    have h2 : 20 < j := by
      rcases Nat.lt_or_ge 20 j with z | z
      · exact z
      · exact absurd rfl (h j h1 z)
    have h3 : (20 : Int32) < nI j := nI_lt (a := 20) h2 hj
    rw [if_neg q, if_pos h3]; exact ⟨rfl, Or.inr ⟨q, h3⟩⟩
theorem many_c (x y : Int32) : (∃ n s, n ≤ 100 ∧ 1 ≤ s ∧ s ≤ 20 ∧ x = nI n ∧ y = nI s ∧ f_Mo_areMany x y = some 1 ∧ f_Co_isSeeds x y = some 1) ∨ (f_Mo_areMany x y = some 0 ∧ f_Co_isSeeds x y = some 0) := by
  unfold f_Mo_areMany f_Mo_areMany_b0 f_Co_isSeeds f_Co_isSeeds_b0
  rcases rg x (n := 101) (by decide) with ⟨n, hn, rfl⟩ | ⟨q, q2⟩
  case inr =>
    rw [in_c (n := 101) (by decide) (by decide) q, bind_e, i00]
    rcases q2 with q2 | ⟨q2, q3, q4⟩
    · rw [if_pos q2]; exact Or.inr ⟨rfl, rfl⟩
    · rw [if_neg q2, if_pos (gt_n (M := 100) (m := 100) rfl (by decide) q2 q3 (by decide) (by decide)).1]; exact Or.inr ⟨rfl, rfl⟩
  rw [in_d (n := 101) (by decide) (by decide) hn, bind_e, i10, if_neg (nI_pos (by omega)), if_neg (show ¬ (100 : Int32) < nI n from nI_nlt (a := 100) (by omega) (by decide))]
  by_cases z : ∃ s, 1 ≤ s ∧ s ≤ 20 ∧ y = nI s
  · obtain ⟨s, h1, h2, rfl⟩ := z
    rw [in1_y h1 h2, bind_e, i10, if_neg (show ¬ nI s < (1 : Int32) from nI_nlt (b := 1) h1 (by omega)), if_neg (show ¬ (20 : Int32) < nI s from nI_nlt (a := 20) h2 (by decide))]
    exact Or.inl ⟨n, s, by omega, h1, h2, rfl, rfl, rfl, rfl⟩
  · obtain ⟨e, q | ⟨q, q2⟩⟩ := in1_n (x := y) (fun j h1 h2 e => z ⟨j, h1, h2, e⟩)
    · rw [e, bind_e, i00, if_pos q]; exact Or.inr ⟨rfl, rfl⟩
    · rw [e, bind_e, i00, if_neg q, if_pos q2]; exact Or.inr ⟨rfl, rfl⟩
theorem sc58 : scI 58 := by unfold scI; decide
theorem Mo_goesBy {v : Nat} {T : TX} {F : LF} {r : RW} {U : UX} {H : HX} {N : NX} {B : BX} {P : Int32} {S : Mem} (hT : TG T F) (hG : GR T r) (h : MOK v T F r U H N B P S) {n : Nat} (hn : n < 4096) (k : Int32) : Ok (fun S' => MOK v T F r U H N B P S' ∧ MR (days T F (T 0 6 + k) n r) S') (f_Mo_goesBy k (nI n) S) := by
  unfold f_Mo_goesBy f_Mo_goesBy_b0
  refine h.cp.b (fun q hq => ?_)
  rw [letS_e, hq.2.2]
  have k1 := hq.1.fr (Fr.I (x := T 0 6 + k) sc58)
  have k2 : MR r (pI q 0 58 (T 0 6 + k)) := hq.2.1
  have k3 : (pI q 0 58 (T 0 6 + k)).1 0 58 = T 0 6 + k := rfl
  generalize pI q 0 58 (T 0 6 + k) = Q at k1 k2 k3 ⊢
  refine (Mo_ahead hT hG k1 k2 hn).b (fun c hc => Ok.i ⟨hc.1, ?_⟩)
  rw [k3] at hc
  exact hc.2.1
theorem S_odds {SC SM : Mem} (h : Rel SC SM) (x1 x2 x3 x4 : Int32) : Sim (f_Co_odds x1 x2 x3 x4 SC) (f_Mo_odds x1 x2 x3 x4 SM) := by
  obtain ⟨v, tx, T, F, r, U, H, N, B, P, w, hM, hC⟩ := h
  have hN := w.1.1
  have h7 := hN.2.1.2
  have h8 := hN.2.2.1.2
  have hX := hC.1.1
  have no : ∀ x y, x = some ((-1 : Int32), SC) → y = some ((-1 : Int32), SM) → Sim x y := fun x y hx hy => Sim.ok w (Ok.e hx ⟨rfl, hC⟩) (Ok.e hy ⟨rfl, hM⟩)
  unfold f_Co_odds f_Co_odds_b0 f_Mo_odds f_Mo_odds_b0
  rcases rg x1 (n := nM T) (by omega) with ⟨a, ha, rfl⟩ | ⟨q, -⟩
  case inr => rw [Mo_isMan_n hN hM.1 q, Co_isMan_n hN hX q, bind_e, bind_e, i00, i00]; exact no _ _ rfl rfl
  rw [Mo_isMan_y hN hM.1 ha, Co_isMan_y hN hX ha, bind_e, bind_e, i10, i10]
  rcases rg x2 (n := nS T) (by omega) with ⟨s, hs, rfl⟩ | ⟨q, -⟩
  case inr => rw [Mo_isSecret_n hN hM.1 q, Co_isSecret_n hN hX q, bind_e, bind_e, i00, i00]; exact no _ _ rfl rfl
  rw [Mo_isSecret_y hN hM.1 hs, Co_isSecret_y hN hX hs, bind_e, bind_e, i10, i10]
  rcases many_c x3 x4 with ⟨n, m, hn, hm1, hm2, rfl, rfl, e1, e2⟩ | ⟨e1, e2⟩
  case inr => rw [e1, e2, bind_e, bind_e, i00, i00]; exact no _ _ rfl rfl
  rw [e1, e2, bind_e, bind_e, i10, i10]
  refine Sim.ok (a := sumF (fun j => bitOf (days T F (T 0 6 + nI j) n r (26 + a)) s) m) (v := v) (tx := tx) (P := P) w ?_ ?_
  · refine li_7 f_Co_odds_b33 f_Co_odds_l33 (fun _ => rfl) (fun _ => nI a) (fun _ => nI s) (fun _ => nI n) (fun _ => nI m) (sumF (fun j => bitOf (days T F (T 0 6 + nI j) n r (26 + a)) s)) nI (fun j S' => COK tx T F r U H N B P S') m _ (fun k j y hj hy => ?_) (fun k y hy => ?_) 5000 (by omega) SC hC
    · obtain ⟨c, ec, hc, gc⟩ := Co_lookAhead w.1 w.2.1 hy (n := n) (by omega) (T 0 6 + nI j)
      simp only [f_Co_odds_b33, if_neg (le_nI (show ¬ m ≤ j by omega) (by omega) (by omega)), hy.1.1.2.2.2.1, gTx_t hy.1.1.2.1, cl hy.1.1.tx, hy.1.1.1.2.1.2.1.2.2, ec, bind_e, St_isKnownTo hN gc.2.2.2.1 ha, nI_1]
      refine ⟨c, hc, ?_⟩
      rcases bit01 (days T F (T 0 6 + nI j) n r (26 + a)) s with e | e
      · rw [if_pos e, sumF_0 (f := fun j => bitOf (days T F (T 0 6 + nI j) n r (26 + a)) s) e]
      · rw [if_neg (by rw [e]; decide)]; simp only [sumF, e]
    · simp only [f_Co_odds_b33, if_pos (le_rf _)]
      exact Ok.i ⟨rfl, hy⟩
  · refine li_7 f_Mo_odds_b33 f_Mo_odds_l33 (fun _ => rfl) (fun _ => nI a) (fun _ => nI s) (fun _ => nI n) (fun _ => nI m) (sumF (fun j => bitOf (days T F (T 0 6 + nI j) n r (26 + a)) s)) nI (fun j S' => MOK v T F r U H N B P S') m _ (fun k j y hj hy => ?_) (fun k y hy => ?_) 5000 (by omega) SM hM
    · obtain ⟨c, ec, hc, gc⟩ := Mo_goesBy w.1 w.2.1 hy (n := n) (by omega) (nI j)
      simp only [f_Mo_odds_b33, if_neg (le_nI (show ¬ m ≤ j by omega) (by omega) (by omega)), ec, bind_e, Mo_knows gc (show a < 7 by omega), nI_1]
      refine ⟨c, hc, ?_⟩
      rcases bit01 (days T F (T 0 6 + nI j) n r (26 + a)) s with e | e
      · rw [if_pos e, sumF_0 (f := fun j => bitOf (days T F (T 0 6 + nI j) n r (26 + a)) s) e]
      · rw [if_neg (by rw [e]; decide)]; simp only [sumF, e]
    · simp only [f_Mo_odds_b33, if_pos (le_rf _)]
      exact Ok.i ⟨rfl, hy⟩
theorem S_deaths {SC SM : Mem} (h : Rel SC SM) (x3 x4 : Int32) : Sim (f_Co_deaths x3 x4 SC) (f_Mo_deaths x3 x4 SM) := by
  obtain ⟨v, tx, T, F, r, U, H, N, B, P, w, hM, hC⟩ := h
  have hN := w.1.1
  have h7 := hN.2.1.2
  unfold f_Co_deaths f_Co_deaths_b0 f_Mo_deaths f_Mo_deaths_b0
  rcases many_c x3 x4 with ⟨n, m, hn, hm1, hm2, rfl, rfl, e1, e2⟩ | ⟨e1, e2⟩
  case inr => rw [e1, e2, bind_e, bind_e, i00, i00]; exact Sim.ok w (Ok.e rfl ⟨rfl, hC⟩) (Ok.e rfl ⟨rfl, hM⟩)
  rw [e1, e2, bind_e, bind_e, i10, i10]
  refine Sim.ok (a := sumF (fun j => T 0 1 - bits (days T F (T 0 6 + nI j) n r 33)) m) (v := v) (tx := tx) (P := P) w ?_ ?_
  · refine li_5 f_Co_deaths_b15 f_Co_deaths_l15 (fun _ => rfl) (fun _ => nI n) (fun _ => nI m) (sumF (fun j => T 0 1 - bits (days T F (T 0 6 + nI j) n r 33))) nI (fun j S' => COK tx T F r U H N B P S') m _ (fun k j y hj hy => ?_) (fun k y hy => ?_) 5000 (by omega) SC hC
    · obtain ⟨c, ec, hc, gc⟩ := Co_lookAhead w.1 w.2.1 hy (n := n) (by omega) (T 0 6 + nI j)
      simp only [f_Co_deaths_b15, if_neg (le_nI (show ¬ m ≤ j by omega) (by omega) (by omega)), hy.1.1.2.2.2.1, gTx_t hy.1.1.2.1, cl hy.1.1.tx, hy.1.1.1.2.1.2.1.2.2, ec, bind_e, hc.1.1.2.2.2.1, gc.2.2.2.1.1.2.1, bc12 (alive_12 hN (GR.days (sd := T 0 6 + nI j) w.1 w.2.1 n).1), hc.1.1.1.2.1.1.2.1, letS_e, nI_1]
      exact ⟨c, hc, rfl⟩
    · simp only [f_Co_deaths_b15, if_pos (le_rf _)]
      exact Ok.i ⟨rfl, hy⟩
  · refine li_5 f_Mo_deaths_b15 f_Mo_deaths_l15 (fun _ => rfl) (fun _ => nI n) (fun _ => nI m) (sumF (fun j => T 0 1 - bits (days T F (T 0 6 + nI j) n r 33))) nI (fun j S' => MOK v T F r U H N B P S') m _ (fun k j y hj hy => ?_) (fun k y hy => ?_) 5000 (by omega) SM hM
    · obtain ⟨c, ec, hc, gc⟩ := Mo_goesBy w.1 w.2.1 hy (n := n) (by omega) (nI j)
      have hv := hc.1.1.1
      simp only [f_Mo_deaths_b15, if_neg (le_nI (show ¬ m ≤ j by omega) (by omega) (by omega)), ec, bind_e, hc.1.1.2.1, g2 hv, cl (show v < 4096 by omega), hc.1.1.2.2.1.2.1, g33, ic_33, gc 33 (by decide), Mo_bits, letS_e, nI_1]
      exact ⟨c, hc, rfl⟩
    · simp only [f_Mo_deaths_b15, if_pos (le_rf _)]
      exact Ok.i ⟨rfl, hy⟩
