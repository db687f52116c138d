/-! READ: the reference's sums, behind a value; the whole. -/
variable {kd : Nat → Int32} {pl vl : Nat → Nat} {Q v cb : Nat} {S0 Sb : Mem} {c : Nat → Nat} {p p' : PS} {l : NLt} {T : TX} {S S' : Mem} {w : Nat × Nat} {t0 : Nat}
theorem sn_k : ∀ k, k ∈ kinds → isSn k → ¬ (k = 0 ∨ k = 1) ∧ ¬ k = 41 ∧ (¬ (k = 42 ∨ k = 47) → yRk k = 1) ∧ ((k = 42 ∨ k = 47) → yRk k = 2) ∧ ¬ k = 40 := by decide +kernel
theorem Ex_b (E : EV kd pl vl Q) (h1 : 420 * (1 - v) ≤ cb) (h2 : cb ≤ 420 * (1 - v) + t0) {n : Nat} (ihA : ∀ o t S m m', IV kd pl vl Q v S0 Sb cb c l T w t0 o true t S → Q + 2 - t ≤ n → Q + 2 - t ≤ m → Q + 2 - t ≤ m' → Ok (XP kd pl vl Q v S0 Sb cb c l T w t0 (smF kd n o true t)) (f_Mo_expression_l23 (f_Mo_expression_l12 m') m 0 S)) (ihB : ∀ o t S m m', IV kd pl vl Q v S0 Sb cb c l T w t0 o false t S → Q + 2 - t ≤ n → Q + 2 - t ≤ m → Q + 2 - t ≤ m' → Ok (XP kd pl vl Q v S0 Sb cb c l T w t0 (smF kd n o false t)) (f_Mo_expression_l96 (f_Mo_expression_l12 m') m 0 S)) : ∀ o t S m m', IV kd pl vl Q v S0 Sb cb c l T w t0 o false t S → Q + 2 - t ≤ n + 1 → Q + 2 - t ≤ m → Q + 2 - t ≤ m' → Ok (XP kd pl vl Q v S0 Sb cb c l T w t0 (smF kd (n + 1) o false t)) (f_Mo_expression_l96 (f_Mo_expression_l12 m') m 0 S) := by
  intro o t S m m' h hn hm hm'
  obtain ⟨hR, hY, hI, ho, ht, e12, hlen⟩ := h
  have tQ : t ≤ Q := hR.tQ
  have hq := E.1.1
  have hv := hR.hv
  have wl := hI.len ho
  have hkk := E.2.1 _ tQ
  obtain ⟨m, rfl⟩ : ∃ k, m = k + 1 := ⟨m - 1, by omega⟩
  have hys := yAll_s (kd := kd) (vl := vl) ht
  have hyc : yCode kd vl t0 t = (yPop 1 (yAll kd vl t0 (t - t0)).1 (yAll kd vl t0 (t - t0)).2).2 := rfl
  generalize hyy : yAll kd vl t0 (t - t0) = y at hY hI hlen wl hys hyc
  show Ok _ (f_Mo_expression_b96 (f_Mo_expression_l12 m') (f_Mo_expression_l96 (f_Mo_expression_l12 m') m) 0 S)
  unfold f_Mo_expression_b96
  rw [show (7 : Int32) = mkK 41 from by decide, hR.is E (by decide), bind_e]
  show Ok _ (if (if (0 : Nat) = 0 ∧ kd t = 41 then (1 : Int32) else 0) = 0 then _ else _)
  have e145 : f_Mo_expression_b145 (f_Mo_expression_l12 m') 0 S = f_Mo_expression_b186 (f_Mo_expression_l12 m') 0 (if (0 : Nat) = 0 ∧ isSn (kd t) then 1 else 0) S := sum145 E hR (f_Mo_expression_l12 m') 0
  rw [e145]
  unfold smF
  rw [if_neg (show ¬ false = true by decide)]
  by_cases sn : isSn (kd t)
  · obtain ⟨k01, k41, kr1, kr2, k40⟩ := sn_k _ hkk sn
    rw [show (if (0 : Nat) = 0 ∧ kd t = 41 then (1 : Int32) else 0) = 0 from if_neg (fun z => k41 z.2), i00, show (if (0 : Nat) = 0 ∧ isSn (kd t) then (1 : Int32) else 0) = 1 from if_pos ⟨rfl, sn⟩, if_pos sn, tk_gOn (show ((0 : Nat), t).1 = 0 from rfl) rfl, gOn_0]
    unfold f_Mo_expression_b186
    rw [i10]
    obtain ⟨j1, j2, j3, j4, j5⟩ := hI.join sn (vl t)
    have pl2 : (yPop (yRk (kd t)) y.1 y.2).1.length ≤ 20 := by
      have a := yLen _ j5
      have b := yTop_b (yPop (yRk (kd t)) y.1 y.2).1
      omega
    have main : ∀ x, (x = 1 ∨ x = 2) → yRk (kd t) = x → Ok (XP kd pl vl Q v S0 Sb cb c l T w t0 (if (if t < 400 then (0, t + 1) else (2, t)).1 = 0 then smF kd n o true (t + 1) else if t < 400 then (0, t + 1) else (2, t))) (f_Mo_expression_b234 (f_Mo_expression_l12 m') 0 1 (nI (x - 1)) S) := fun x hx ex => by
      unfold f_Mo_expression_b234
      refine (RE.out hx h1 y.1 y.2 5000 S hR hY hI.1 (by omega) (by omega) (by omega)).b (fun S1 g1 => ?_)
      obtain ⟨g1, Y1, e1⟩ := g1
      rw [← ex] at Y1
      have Y1 : YM cb ((yPop (yRk (kd t)) y.1 y.2).1, (yPop (yRk (kd t)) y.1 y.2).2) S1 := Y1
      have t0' : S1.1 0 11 = nI t := g1.t0 rfl
      have e52 : S1.1 0 52 = nI (yPop (yRk (kd t)) y.1 y.2).1.length := Y1.1
      rw [t0', gIn_n (show t < 403 by omega) (by decide), e52, gIn_n (show (yPop (yRk (kd t)) y.1 y.2).1.length < 64 by omega) (by decide), letS_e, cl (show t < 4096 by omega), (g1.tkk t tQ).1]
      rw [show (sA S1 0 51 (nI (yPop (yRk (kd t)) y.1 y.2).1.length) (mkK (kd t))).1 0 52 = nI (yPop (yRk (kd t)) y.1 y.2).1.length from e52, letS_e, nI_1]
      have g2 := (g1.w (nI (yPop (yRk (kd t)) y.1 y.2).1.length) (mkK (kd t))).i (k := 52) (Or.inr (Or.inl rfl)) (nI ((yPop (yRk (kd t)) y.1 y.2).1.length + 1))
      have Y2 := Y1.push (k := kd t) (by omega)
      refine (g2.goes E rfl k01).b (fun S3 g3 => ?_)
      obtain ⟨g3, f3⟩ := g3
      have Y3 := Y2.pf f3
      have g3 : RE kd pl vl Q v S0 Sb cb c (gOn (0, t), w) l T S3 := g3
      rw [gOn_0] at g3
      obtain ⟨m', rfl⟩ : ∃ k, m' = k + 1 := ⟨m' - 1, by omega⟩
      show Ok _ (f_Mo_expression_b12 (f_Mo_expression_l12 m') 0 1 S3)
      unfold f_Mo_expression_b12
      rw [i10]
      have len : (kd t :: (yPop (yRk (kd t)) y.1 y.2).1).length + (yPop (yRk (kd t)) y.1 y.2).2.length = y.1.length + y.2.length + 1 := by
        show (yPop (yRk (kd t)) y.1 y.2).1.length + 1 + _ = _
        omega
      by_cases t4 : t < 400
      · rw [if_pos t4] at g3 ⊢
        rw [if_pos rfl, if_pos (g3.f0 rfl)]
        refine ihA o (t + 1) S3 5000 m' ⟨g3, by rw [hys, j2]; exact Y3, by rw [hys]; exact j1, ho, by omega, ?_, by rw [hys, j2, len]; omega⟩ (by omega) (by omega) (by omega)
        rw [f3.1 12 (by unfold reg; omega)]
        show S1.1 0 12 = _
        rw [e1, e12]
      · rw [if_neg t4] at g3 ⊢
        rw [if_neg (show ¬ (2 : Nat) = 0 by decide), if_neg (g3.f1 (show ¬ (2 : Nat) = 0 by decide)).2.1]
        exact Ok.i ⟨g3, ⟨_, Y3.2.2.1, by omega, by show cb + (yPop (yRk (kd t)) y.1 y.2).2.length ≤ 420 * (1 - v) + t + 1; omega⟩, fun z => absurd z (show ¬ (2 : Nat) = 0 by decide)⟩
    rw [show (10 : Int32) = mkK 42 from by decide, hR.is E (by decide), bind_e, show (15 : Int32) = mkK 47 from by decide, hR.is E (by decide), bind_e]
    show Ok _ (if (if (0 : Nat) = 0 ∧ kd t = 42 then (1 : Int32) else 0) = 0 then (if (if (0 : Nat) = 0 ∧ kd t = 47 then (1 : Int32) else 0) = 0 then _ else _) else _)
    by_cases a : kd t = 42
    · rw [show (if (0 : Nat) = 0 ∧ kd t = 42 then (1 : Int32) else 0) = 1 from if_pos ⟨rfl, a⟩, i10]
      exact main 2 (Or.inr rfl) (kr2 (Or.inl a))
    rw [show (if (0 : Nat) = 0 ∧ kd t = 42 then (1 : Int32) else 0) = 0 from if_neg (fun z => a z.2), i00]
    by_cases b : kd t = 47
    · rw [show (if (0 : Nat) = 0 ∧ kd t = 47 then (1 : Int32) else 0) = 1 from if_pos ⟨rfl, b⟩, i10]
      exact main 2 (Or.inr rfl) (kr2 (Or.inr b))
    rw [show (if (0 : Nat) = 0 ∧ kd t = 47 then (1 : Int32) else 0) = 0 from if_neg (fun z => b z.2), i00]
    exact main 1 (Or.inl rfl) (kr1 (fun z => z.elim a b))
  · rw [show (if (0 : Nat) = 0 ∧ isSn (kd t) then (1 : Int32) else 0) = 0 from if_neg (fun z => sn z.2), if_neg sn, e12]
    by_cases o0 : o = 0
    · subst o0
      rw [if_pos rfl, if_pos (show nI 0 ≤ 0 by decide), ite_self]
      obtain ⟨d1, d2, d3, d4⟩ := hI.done
      refine (sumEnd E hR hY hI.1 (by omega) h1 (by omega) (f_Mo_expression_l12 m') (x1 := 0)).m (fun S1 g1 => ?_)
      obtain ⟨g1, Y1, e1⟩ := g1
      rw [if_pos (show S.1 0 12 ≤ 0 by rw [e12]; decide)] at g1
      have Y1 : YM cb ([], yCode kd vl t0 t) S1 := by
        rw [hyc, ← d1]; exact Y1
      have len : (yCode kd vl t0 t).length ≤ t - t0 := by rw [hyc, d4]; exact hlen
      refine ⟨g1, ⟨_, Y1.2.2.1, by omega, by show cb + (yCode kd vl t0 t).length ≤ 420 * (1 - v) + t + 1; omega⟩, fun _ => ⟨e1.trans e12, Y1, by show yWf (yCode kd vl t0 t); rw [hyc]; exact d2, by show yDep (yCode kd vl t0 t) = 1; rw [hyc]; exact d3, ht, len⟩⟩
    · rw [if_neg o0, if_neg (show ¬ nI o ≤ 0 from nI_nle (by omega) (by omega))]
      by_cases k41 : kd t = 41
      · rw [show (if (0 : Nat) = 0 ∧ kd t = 41 then (1 : Int32) else 0) = 1 from if_pos ⟨rfl, k41⟩, i10, if_pos k41, tk_gOn (show ((0 : Nat), t).1 = 0 from rfl) k41, gOn_0]
        obtain ⟨o, rfl⟩ : ∃ k, o = k + 1 := ⟨o - 1, by omega⟩
        obtain ⟨s1, ⟨W', s2, s3⟩, s4⟩ := hI.shut (vl t)
        refine (show Ok _ (f_Mo_comesOut 0 S) from RE.out (x := 1) (Or.inl rfl) h1 y.1 y.2 5000 S hR hY hI.1 (by omega) (by omega) (by omega)).b (fun S1 g1 => ?_)
        obtain ⟨g1, Y1, e1⟩ := g1
        have Y1 : YM cb (40 :: W', (yPop 1 y.1 y.2).2) S1 := by rw [← s2]; exact Y1
        have e52 : S1.1 0 52 = nI (W'.length + 1) := Y1.1
        have len : W'.length + 1 + (yPop 1 y.1 y.2).2.length = y.1.length + y.2.length := by rw [← s4, s2]; rfl
        rw [e52, nI_pred, letS_e]
        rw [show (pI S1 0 52 (nI W'.length)).1 0 12 = nI (o + 1) from e1.trans e12, nI_pred, letS_e]
        have g2 := (g1.i (k := 52) (Or.inr (Or.inl rfl)) (nI W'.length)).i (k := 12) (Or.inl rfl) (nI o)
        have Y2 : YM cb (W', (yPop 1 y.1 y.2).2) (pI (pI S1 0 52 (nI W'.length)) 0 12 (nI o)) := ⟨rfl, Y1.2.1.2, Y1.2.2.1, Y1.2.2.2⟩
        refine (g2.goes E rfl (by show ¬ (kd t = 0 ∨ kd t = 1); rw [k41]; decide)).b (fun S3 g3 => ?_)
        obtain ⟨g3, f3⟩ := g3
        have Y3 := Y2.pf f3
        have g3 : RE kd pl vl Q v S0 Sb cb c (gOn (0, t), w) l T S3 := g3
        rw [gOn_0] at g3
        rw [← k41] at s1 s3
        by_cases t4 : t < 400
        · rw [if_pos t4] at g3 ⊢
          rw [if_pos rfl]
          refine ihB o (t + 1) S3 m m' ⟨g3, by rw [hys, s3]; exact Y3, by rw [hys]; exact s1, by omega, by omega, ?_, by rw [hys, s3]; show W'.length + (yPop 1 y.1 y.2).2.length ≤ t + 1 - t0; omega⟩ (by omega) (by omega) (by omega)
          rw [f3.1 12 (by unfold reg; omega)]; rfl
        · rw [if_neg t4] at g3 ⊢
          rw [if_neg (show ¬ (2 : Nat) = 0 by decide)]
          obtain ⟨m, rfl⟩ : ∃ k, m = k + 1 := ⟨m - 1, by omega⟩
          have ok' : yOk W' := by rw [s3] at s1; exact s1.1
          have len' : W'.length ≤ 20 := by have := s1.len (by omega); rw [s3] at this; exact this
          have wf' : yWf (yPop 1 y.1 y.2).2 ∧ yDep (yPop 1 y.1 y.2).2 = yOp W' + 1 := by rw [s3] at s1; exact ⟨s1.2.1, s1.2.2.2⟩
          obtain ⟨-, -, -, -, b5, -, -⟩ := yPop_k (x := 1) (Nat.le_refl _) W' (yPop 1 y.1 y.2).2 ok' wf'.1 wf'.2
          refine (sumBf E g3 (show ¬ (2 : Nat) = 0 by decide) Y3 ok' (by show W'.length ≤ 64; omega) h1 (by show cb + (yPop 1 y.1 y.2).2.length + W'.length ≤ _; omega) (f_Mo_expression_l12 m') m (x1 := 0)).m (fun S4 g4 => ⟨g4.1, ⟨_, g4.2.2.2.1, by omega, ?_⟩, fun z => absurd z (show ¬ (2 : Nat) = 0 by decide)⟩)
          show cb + (yPop 1 W' (yPop 1 y.1 y.2).2).2.length ≤ 420 * (1 - v) + t + 1
          omega
      · rw [show (if (0 : Nat) = 0 ∧ kd t = 41 then (1 : Int32) else 0) = 0 from if_neg (fun z => k41 z.2), i00, if_neg k41]
        obtain ⟨-, -, -, -, b5, -, -⟩ := yPop_k (x := 1) (Nat.le_refl _) y.1 y.2 hI.1 hI.2.1 hI.2.2.2
        refine (sumEnd E hR hY hI.1 (by omega) h1 (by omega) (f_Mo_expression_l12 m') (x1 := 0)).m (fun S1 g1 => ?_)
        obtain ⟨g1, Y1, e1⟩ := g1
        rw [if_neg (show ¬ S.1 0 12 ≤ 0 by rw [e12]; exact nI_nle (by omega) (by omega))] at g1
        have g1 : RE kd pl vl Q v S0 Sb cb c ((1, t), w) l T S1 := g1
        refine ⟨g1, ⟨_, Y1.2.2.1, by omega, ?_⟩, fun z => absurd z (show ¬ (1 : Nat) = 0 by decide)⟩
        show cb + (yPop 1 y.1 y.2).2.length ≤ 420 * (1 - v) + t + 1
        omega
theorem Ex_ab (E : EV kd pl vl Q) (h1 : 420 * (1 - v) ≤ cb) (h2 : cb ≤ 420 * (1 - v) + t0) : ∀ n, (∀ o t S m m', IV kd pl vl Q v S0 Sb cb c l T w t0 o true t S → Q + 2 - t ≤ n → Q + 2 - t ≤ m → Q + 2 - t ≤ m' → Ok (XP kd pl vl Q v S0 Sb cb c l T w t0 (smF kd n o true t)) (f_Mo_expression_l23 (f_Mo_expression_l12 m') m 0 S)) ∧ (∀ o t S m m', IV kd pl vl Q v S0 Sb cb c l T w t0 o false t S → Q + 2 - t ≤ n → Q + 2 - t ≤ m → Q + 2 - t ≤ m' → Ok (XP kd pl vl Q v S0 Sb cb c l T w t0 (smF kd n o false t)) (f_Mo_expression_l96 (f_Mo_expression_l12 m') m 0 S))
  | 0 => ⟨fun o t S m m' h hn => absurd hn (by have : t ≤ Q := h.1.tQ; omega), fun o t S m m' h hn => absurd hn (by have : t ≤ Q := h.1.tQ; omega)⟩
  | n + 1 => ⟨Ex_a E h1 h2 (Ex_ab E h1 h2 n).1 (Ex_ab E h1 h2 n).2, Ex_b E h1 h2 (Ex_ab E h1 h2 n).1 (Ex_ab E h1 h2 n).2⟩
theorem smP_0 (t : Nat) : smP kd (0, t) = smF kd 402 0 true t := if_pos rfl
theorem l12_s (m : Nat) : f_Mo_expression_l12 (m + 1) = f_Mo_expression_b12 (f_Mo_expression_l12 m) := rfl
/-- a sum, whole -/
theorem Mo_expression0 (E : EV kd pl vl Q) {t : Nat} (hR : RE kd pl vl Q v S0 Sb cb c ((0, t), w) l T S) (h1 : 420 * (1 - v) ≤ cb) (h2 : cb ≤ 420 * (1 - v) + t) (e12 : S.1 0 12 = 0) (e48 : S.1 0 48 = nI cb) : Ok (XP kd pl vl Q v S0 Sb cb c l T w t (smF kd 402 0 true t)) (f_Mo_expression S) := by
  have hq := E.1.1
  have tQ : t ≤ Q := hR.tQ
  unfold f_Mo_expression f_Mo_expression_b0
  rw [letS_e, letS_e, show (pI S 0 52 0).1 0 12 = 0 from e12, show (5000 : Nat) = 4999 + 1 from rfl, l12_s]
  unfold f_Mo_expression_b12
  have hR2 := hR.i (k := 52) (Or.inr (Or.inl rfl)) 0
  rw [i10, if_pos (hR2.f0 rfl)]
  refine (Ex_ab (w := w) (t0 := t) (S0 := S0) (Sb := Sb) (c := c) (l := l) (T := T) E h1 h2 402).1 0 t (pI S 0 52 0) 5000 4999 ⟨hR2, ?_, ?_, by omega, by omega, e12, ?_⟩ (by omega) (by omega) (by omega)
  · rw [show t - t = 0 by omega]
    exact ⟨rfl, trivial, e48, trivial⟩
  · rw [show t - t = 0 by omega]
    exact ⟨trivial, trivial, rfl, rfl⟩
  · rw [show t - t = 0 by omega]
    exact Nat.zero_le _
theorem Mo_expression (E : EV kd pl vl Q) (hR : RE kd pl vl Q v S0 Sb cb c p l T S) (h0 : p.1.1 = 0) (h1 : 420 * (1 - v) ≤ cb) (h2 : cb ≤ 420 * (1 - v) + p.1.2) (e12 : S.1 0 12 = 0) (e48 : S.1 0 48 = nI cb) : Ok (XP kd pl vl Q v S0 Sb cb c l T p.2 p.1.2 (smP kd p.1)) (f_Mo_expression S) := by
  have e : p.1 = (0, p.1.2) := Prod.ext h0 rfl
  rw [e, smP_0]
  have hR : RE kd pl vl Q v S0 Sb cb c ((0, p.1.2), p.2) l T S := by rw [← e]; exact hR
  exact Mo_expression0 E hR h1 h2 e12 e48
