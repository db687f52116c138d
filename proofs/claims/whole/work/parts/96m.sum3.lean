/-! READ: the reference's sums, both loops at once. -/
variable {kd : Nat → Int32} {pl vl : Nat → Nat} {Q v cb : Nat} {S0 Sb : Mem} {c : Nat → Nat} {p p' : PS} {l : NLt} {T : TX} {S S' : Mem} {w : Nat × Nat} {t0 : Nat}
/-- one that waits more -/
theorem YM.push {W : List Int32} {C : Cd} (h : YM cb (W, C) S) (hW : W.length < 64) {k : Int32} : YM cb (k :: W, C) (pI (sA S 0 51 (nI W.length) (mkK k)) 0 52 (nI (W.length + 1))) := by
  obtain ⟨h1, h2, h3, h4⟩ := h
  have e : (nI W.length).toNatClampNeg = W.length := cl (by omega)
  refine ⟨rfl, ⟨?_, ?_⟩, h3, h4⟩
  · show (upd (S.2.1 0 51) (nI W.length).toNatClampNeg (mkK k)) W.length = _
    rw [e, upd_at, if_pos rfl]
  · show wtG mkK (upd (S.2.1 0 51) (nI W.length).toNatClampNeg (mkK k)) W
    rw [e]; exact wtG_u W h2 (Nat.le_refl _)
theorem YM.i12 {y : List Int32 × Cd} (h : YM cb y S) (x : Int32) : YM cb y (pI S 0 12 x) := h
theorem Ex_a (E : EV kd pl vl Q) (h1 : 420 * (1 - v) ≤ cb) (h2 : cb ≤ 420 * (1 - v) + t0) {n : Nat} (ihA : ∀ o t S m m', IV kd pl vl Q v S0 Sb cb c l T w t0 o true t S → Q + 2 - t ≤ n → Q + 2 - t ≤ m → Q + 2 - t ≤ m' → Ok (XP kd pl vl Q v S0 Sb cb c l T w t0 (smF kd n o true t)) (f_Mo_expression_l23 (f_Mo_expression_l12 m') m 0 S)) (ihB : ∀ o t S m m', IV kd pl vl Q v S0 Sb cb c l T w t0 o false t S → Q + 2 - t ≤ n → Q + 2 - t ≤ m → Q + 2 - t ≤ m' → Ok (XP kd pl vl Q v S0 Sb cb c l T w t0 (smF kd n o false t)) (f_Mo_expression_l96 (f_Mo_expression_l12 m') m 0 S)) : ∀ o t S m m', IV kd pl vl Q v S0 Sb cb c l T w t0 o true t S → Q + 2 - t ≤ n + 1 → Q + 2 - t ≤ m → Q + 2 - t ≤ m' → Ok (XP kd pl vl Q v S0 Sb cb c l T w t0 (smF kd (n + 1) o true t)) (f_Mo_expression_l23 (f_Mo_expression_l12 m') m 0 S) := by
  intro o t S m m' h hn hm hm'
  obtain ⟨hR, hY, hI, ho, ht, e12, hlen⟩ := h
  have tQ : t ≤ Q := hR.tQ
  have hq := E.1.1
  have hv := hR.hv
  have wl := hI.len ho
  obtain ⟨m, rfl⟩ : ∃ k, m = k + 1 := ⟨m - 1, by omega⟩
  have hys := yAll_s (kd := kd) (vl := vl) ht
  generalize hyy : yAll kd vl t0 (t - t0) = y at hY hI hlen wl hys
  show Ok _ (f_Mo_expression_b23 (f_Mo_expression_l12 m') (f_Mo_expression_l23 (f_Mo_expression_l12 m') m) 0 S)
  unfold f_Mo_expression_b23
  rw [show (6 : Int32) = mkK 40 from by decide, hR.is E (by decide), bind_e]
  show Ok _ (if (if (0 : Nat) = 0 ∧ kd t = 40 then (1 : Int32) else 0) = 0 then _ else _)
  unfold smF
  rw [if_pos rfl]
  by_cases q : kd t = 40
  · rw [show (if (0 : Nat) = 0 ∧ kd t = 40 then (1 : Int32) else 0) = 1 from if_pos ⟨rfl, q⟩, i10, if_pos q, e12]
    unfold f_Mo_expression_b46
    by_cases q6 : o = 6
    · rw [if_pos (show nI o = mkK 40 by rw [q6]; decide), if_neg (by omega)]
      refine (show Ok _ (f_Mo_fail 2 S) from hR.fail (e := 2) E (Or.inr rfl)).b (fun S1 g1 => ?_)
      obtain ⟨g1, f1⟩ := g1
      have g1 : RE kd pl vl Q v S0 Sb cb c ((2, t), w) l T S1 := g1
      have Y1 := hY.pf f1
      rw [letS_e]
      refine ((g1.i (k := 12) (Or.inl rfl) (S1.1 0 12 + 1)).goesF E (show ¬ (2 : Nat) = 0 by decide)).b (fun S2 g2 => ?_)
      obtain ⟨g2, f2⟩ := g2
      have Y2 := (Y1.i12 (S1.1 0 12 + 1)).pf f2
      rw [Y2.1, gIn_n (show y.1.length < 64 by omega) (by decide), letS_e]
      rw [show (sA S2 0 51 (nI y.1.length) 6).1 0 52 = nI y.1.length from Y2.1, letS_e, nI_1]
      have g3 := (g2.w (nI y.1.length) 6).i (k := 52) (Or.inr (Or.inl rfl)) (nI (y.1.length + 1))
      have Y3 := (show YM cb (y.1, y.2) S2 from Y2).push (k := 40) (by omega)
      rw [show mkK 40 = (6 : Int32) from by decide] at Y3
      obtain ⟨m, rfl⟩ : ∃ k, m = k + 1 := ⟨m - 1, by omega⟩
      refine (sumAf E g3 (show ¬ (2 : Nat) = 0 by decide) _ m 0).m (fun S4 g4 => ⟨g4.1, ⟨cb + y.2.length, (Y3.pf g4.2).2.2.1, by omega, by show cb + y.2.length ≤ 420 * (1 - v) + t + 1; omega⟩, fun z => absurd z (show ¬ (2 : Nat) = 0 by decide)⟩)
    · rw [if_neg (show ¬ nI o = mkK 40 from fun z => q6 ((nI_eq (by omega) (show 6 < 2 ^ 31 by decide)).mp z)), if_pos (by omega), tk_gOn (show ((0 : Nat), t).1 = 0 from rfl) q, gOn_0, letS_e, e12, nI_1]
      have gi := hR.i (k := 12) (Or.inl rfl) (nI (o + 1))
      refine (gi.goes E rfl (by show ¬ (kd t = 0 ∨ kd t = 1); rw [q]; decide)).b (fun S2 g2 => ?_)
      obtain ⟨g2, f2⟩ := g2
      have Y2 := (hY.i12 (nI (o + 1))).pf f2
      rw [Y2.1, gIn_n (show y.1.length < 64 by omega) (by decide), letS_e]
      rw [show (sA S2 0 51 (nI y.1.length) 6).1 0 52 = nI y.1.length from Y2.1, letS_e, nI_1]
      have g3 := (g2.w (nI y.1.length) 6).i (k := 52) (Or.inr (Or.inl rfl)) (nI (y.1.length + 1))
      have Y3 := (show YM cb (y.1, y.2) S2 from Y2).push (k := 40) (by omega)
      rw [show mkK 40 = (6 : Int32) from by decide] at Y3
      have g3 : RE kd pl vl Q v S0 Sb cb c (gOn (0, t), w) l T _ := g3
      rw [gOn_0] at g3
      by_cases t4 : t < 400
      · rw [if_pos t4] at g3 ⊢
        rw [if_pos rfl]
        have ey : yOne (kd t) (vl t) y = (40 :: y.1, y.2) := by rw [q]; unfold yOne; rw [if_pos rfl]
        refine ihA (o + 1) (t + 1) _ m m' ⟨g3, by rw [hys, ey]; exact Y3, by rw [hys, q]; exact hI.opn _, by omega, by omega, ?_, ?_⟩ (by omega) (by omega) (by omega)
        · show S2.1 0 12 = _
          rw [f2.1 12 (by unfold reg; omega)]; rfl
        · rw [hys, ey]; show y.1.length + 1 + y.2.length ≤ t + 1 - t0; omega
      · rw [if_neg t4] at g3 ⊢
        rw [if_neg (show ¬ (2 : Nat) = 0 by decide)]
        obtain ⟨m, rfl⟩ : ∃ k, m = k + 1 := ⟨m - 1, by omega⟩
        refine (sumAf E g3 (show ¬ (2 : Nat) = 0 by decide) _ m 0).m (fun S4 g4 => ⟨g4.1, ⟨cb + y.2.length, (Y3.pf g4.2).2.2.1, by omega, by show cb + y.2.length ≤ 420 * (1 - v) + t + 1; omega⟩, fun z => absurd z (show ¬ (2 : Nat) = 0 by decide)⟩)
  · rw [show (if (0 : Nat) = 0 ∧ kd t = 40 then (1 : Int32) else 0) = 0 from if_neg (fun z => q z.2), i00, if_neg q]
    by_cases iv : isVl (kd t)
    · rw [if_pos iv, tk_gOn (show ((0 : Nat), t).1 = 0 from rfl) rfl, gOn_0]
      refine (hR.unit E hY hI ho h1 (by omega) rfl iv).b (fun S1 g1 => ?_)
      obtain ⟨g1, Y1, e1⟩ := g1
      have g1 : RE kd pl vl Q v S0 Sb cb c (gOn (0, t), w) l T S1 := g1
      have Y1 : YM cb (yOne (kd t) (vl t) y) S1 := Y1
      have hI1 : yI o false (yOne (kd t) (vl t) y) ∧ (yOne (kd t) (vl t) y).1.length + (yOne (kd t) (vl t) y).2.length = y.1.length + y.2.length + 1 := by
        rcases iv with iv | ⟨iv1, iv2⟩
        · rw [iv]
          refine ⟨hI.val ho (E.2.2.2.2.1 t tQ iv), ?_⟩
          unfold yOne
          rfl
        · obtain ⟨a1, a2⟩ := hI.vari ho iv1 iv2 (vl t)
          refine ⟨a1, ?_⟩
          rw [a2]; rfl
      rw [gOn_0] at g1
      by_cases t4 : t < 400
      · rw [if_pos t4] at g1 ⊢
        rw [if_pos rfl, g1.f0 rfl, if_pos (show (0 : Int32) ≤ 0 by decide)]
        refine ihB o (t + 1) S1 5000 m' ⟨g1, by rw [hys]; exact Y1, by rw [hys]; exact hI1.1, ho, by omega, e1.trans e12, by rw [hys, hI1.2]; omega⟩ (by omega) (by omega) (by omega)
      · rw [if_neg t4] at g1 ⊢
        rw [if_neg (show ¬ (2 : Nat) = 0 by decide), if_neg (g1.f1 (show ¬ (2 : Nat) = 0 by decide)).1]
        have := hI1.2
        exact Ok.i ⟨g1, ⟨_, Y1.2.2.1, by omega, by show cb + _ ≤ 420 * (1 - v) + t + 1; omega⟩, fun z => absurd z (show ¬ (2 : Nat) = 0 by decide)⟩
    · rw [if_neg iv]
      refine (hR.unitN E (fun _ => iv)).b (fun S1 g1 => ?_)
      obtain ⟨g1, f1⟩ := g1
      have g1 : RE kd pl vl Q v S0 Sb cb c ((1, t), w) l T S1 := g1
      rw [if_neg (g1.f1 (show ¬ (1 : Nat) = 0 by decide)).1]
      exact Ok.i ⟨g1, ⟨_, (hY.pf f1).2.2.1, by omega, by show cb + y.2.length ≤ 420 * (1 - v) + t + 1; omega⟩, fun z => absurd z (show ¬ (1 : Nat) = 0 by decide)⟩
