/-! READ: the reference's laws: branches told. -/
variable {kd : Nat → Int32} {pl vl : Nat → Nat} {Q v cb b : Nat} {S0 Sb : Mem} {c : Nat → Nat} {p p' : PS} {l : NLt} {T : TX} {S S' : Mem}
/-- a branch: what it asks, if it does, and what it says -/
abbrev BrT : Type := Option (Cd × Cd) × Cd
def tmM (b a cb : Nat) (C : Cd) (S : Mem) : Prop := S.2.1 0 46 b = nI a ∧ S.2.1 0 47 b = nI (a + C.length) ∧ cdG mOp a (S.2.1 0 49) (S.2.1 0 50) C ∧ a + C.length ≤ cb
def brM (lo b cb : Nat) (S : Mem) : BrT → Prop
  | (none, C) => S.2.1 0 43 b = 0 ∧ ∃ a, lo ≤ a ∧ tmM b a cb C S
  | (some x, C) => S.2.1 0 43 b = 1 ∧ ∃ a, lo ≤ a ∧ S.2.1 0 44 b = nI a ∧ S.2.1 0 45 b = nI (a + x.1.length) ∧ cdG mOp a (S.2.1 0 49) (S.2.1 0 50) x.1 ∧ cdG mOp (a + x.1.length) (S.2.1 0 49) (S.2.1 0 50) x.2 ∧ tmM b (a + x.1.length + x.2.length) cb C S
def bsM (lo b cb : Nat) (S : Mem) : List BrT → Prop
  | [] => True
  | x :: r => brM lo (b + r.length) cb S x ∧ bsM lo b cb S r
def cW (C : Cd) : Prop := yWf C ∧ yDep C = 1
def brW : BrT → Prop
  | (none, C) => cW C
  | (some x, C) => cW x.1 ∧ cW x.2 ∧ cW C
theorem cdG_e {g : Int32 → Int32} {a m : Nat} {f1 f2 g1 g2 : Nat → Int32} (h : ∀ i, i < m → g1 i = f1 i ∧ g2 i = f2 i) : ∀ C : Cd, cdG g a f1 f2 C → a + C.length ≤ m → cdG g a g1 g2 C
  | [], _, _ => trivial
  | x :: C, hc, hm => by
    have hm : a + (C.length + 1) ≤ m := hm
    obtain ⟨e1, e2⟩ := h (a + C.length) (by omega)
    exact ⟨by rw [e1]; exact hc.1, by rw [e2]; exact hc.2.1, cdG_e h C hc.2.2 (by omega)⟩
theorem brM_f {lo b' cb' : Nat} (hf : FW b cb S S') (hb : b' < b) (hc : cb ≤ cb') : ∀ x : BrT, brM lo b' cb S x → brM lo b' cb' S' x := by
  have hcd : ∀ i, i < cb → S'.2.1 0 49 i = S.2.1 0 49 i ∧ S'.2.1 0 50 i = S.2.1 0 50 i := fun i hi => ⟨hf.2.2 49 i (Or.inl rfl) hi, hf.2.2 50 i (Or.inr rfl) hi⟩
  have tm : ∀ a C, tmM b' a cb C S → tmM b' a cb' C S' := fun a C h => by
    obtain ⟨h1, h2, h3, h4⟩ := h
    exact ⟨by rw [hf.2.1 46 b' (by omega) (by omega) hb]; exact h1, by rw [hf.2.1 47 b' (by omega) (by omega) hb]; exact h2, cdG_e hcd C h3 h4, by omega⟩
  intro x h
  obtain ⟨q, C⟩ := x
  cases q with
  | none =>
    obtain ⟨h1, a, h2, h3⟩ := h
    exact ⟨by rw [hf.2.1 43 b' (by omega) (by omega) hb]; exact h1, a, h2, tm a C h3⟩
  | some x =>
    obtain ⟨h1, a, h2, h3, h4, h5, h6, h7⟩ := h
    have l7 := h7.2.2.2
    exact ⟨by rw [hf.2.1 43 b' (by omega) (by omega) hb]; exact h1, a, h2, by rw [hf.2.1 44 b' (by omega) (by omega) hb]; exact h3, by rw [hf.2.1 45 b' (by omega) (by omega) hb]; exact h4, cdG_e hcd x.1 h5 (by omega), cdG_e hcd x.2 h6 (by omega), tm _ C h7⟩
theorem bsM_f {lo b' cb' : Nat} (hf : FW b cb S S') (hc : cb ≤ cb') : ∀ r : List BrT, b' + r.length ≤ b → bsM lo b' cb S r → bsM lo b' cb' S' r
  | [], _, _ => trivial
  | x :: r, hb, h => by
    have hb : b' + (r.length + 1) ≤ b := hb
    exact ⟨brM_f hf (by omega) hc x h.1, bsM_f hf hc r (by omega) h.2⟩
/-- a term within a law -/
theorem LwS.tm (E : EV kd pl vl Q) (h : LwS kd pl vl Q v S0 c l T b cb p S) (hb : b + 1 < 130 * (1 - v) + 130) : Ok (fun S' => ∃ j, LwS kd pl vl Q v S0 c l T (b + 1) j (smP kd p.1, p.2) S' ∧ TF b cb S S' ∧ cb ≤ j ∧ ((smP kd p.1).1 = 0 → tmM b cb j (yCode kd vl p.1.2 (smP kd p.1).2) S' ∧ cW (yCode kd vl p.1.2 (smP kd p.1).2))) (f_Mo_term S) := by
  obtain ⟨h1, h2, h3, h4, h5, h6, h7, h8, h9⟩ := h
  refine (Mo_tm (cb := cb) (b := b) E h1 h2 h8 h9 h3 h6 (fun z => (h5 z).2) h7 (fun z => (h5 z).1) h4).m (fun S' g => ?_)
  obtain ⟨r1, r2, r3, r4, j, j1, j2, j3, j4⟩ := g
  refine ⟨j, ⟨r1, r2, r4, j1, fun z => ?_, by omega, j3, by omega, hb⟩, r3, j2, fun z => ?_⟩
  · obtain ⟨b1, b2, b3, b4, b5, b6, b7, b8⟩ := j4 z
    exact ⟨b1, b8⟩
  · obtain ⟨b1, b2, b3, b4, b5, b6, b7, b8⟩ := j4 z
    exact ⟨⟨b2, by rw [← b4]; exact b3, b5, by omega⟩, b6, b7⟩
/-- a branch that asks, from its tokens -/
def brC (kd : Nat → Int32) (vl : Nat → Nat) (z : Nat × Nat) : BrT :=
  (some (yCode kd vl (tk kd 139 z).2 (smP kd (tk kd 139 z)).2, yCode kd vl (tk kd 60 (smP kd (tk kd 139 z))).2 (smP kd (tk kd 60 (smP kd (tk kd 139 z)))).2), yCode kd vl (tk kd 140 (smP kd (tk kd 60 (smP kd (tk kd 139 z))))).2 (smP kd (tk kd 140 (smP kd (tk kd 60 (smP kd (tk kd 139 z)))))).2)
theorem Mo_case (E : EV kd pl vl Q) (h : LwS kd pl vl Q v S0 c l T b cb p S) (hb : b + 1 < 130 * (1 - v) + 130) (h0 : p.1.1 = 0) (hk : kd p.1.2 = 139) {R : Mem → Prop} {K : Int32 → Int32 → Int32 → Mem → Option Mem} {x1 x2 x3 : Int32} (hK : ∀ S' j, LwS kd pl vl Q v S0 c l T (b + 1) j (csP kd p.1, p.2) S' → FW b cb S S' → cb ≤ j → ((csP kd p.1).1 = 0 → brM (420 * (1 - v)) b j S' (brC kd vl p.1) ∧ brW (brC kd vl p.1)) → Ok R (K x1 x2 (x3 + 1) S')) : Ok R (f_Mo_tellLaw_b38 K x1 x2 x3 S) := by
  have hv := h.1.hv
  have hbl := h.2.2.2.2.2.2.2.1
  have hcl := h.2.2.2.2.2.1
  unfold f_Mo_tellLaw_b38
  rw [h.1.f0 h0, if_pos (show (0 : Int32) ≤ 0 by decide)]
  refine (h.goes E h0 hk (by decide)).b (fun S1 g1 => ?_)
  obtain ⟨g1, f1⟩ := g1
  rw [g1.2.2.1, gIn_n (show b < 260 by omega) (by decide), letS_e, nar1]
  rw [show (sA S1 0 43 (nI b) 1).1 0 42 = nI b from g1.2.2.1, show (sA S1 0 43 (nI b) 1).1 0 48 = nI cb from g1.2.2.2.1, gIn_n (show b < 260 by omega) (by decide), letS_e]
  have g2 := (g1.br (f := 43) (by omega) 1).br (f := 44) (by omega) (nI cb)
  have eb : (nI b).toNatClampNeg = b := cl (by omega)
  have c43 : (sA (sA S1 0 43 (nI b) 1) 0 44 (nI b) (nI cb)).2.1 0 43 b = 1 := by
    rw [sA_2, if_neg (by omega), sA_2, if_pos ⟨rfl, rfl⟩, eb, upd_at, if_pos rfl]
  have c44 : (sA (sA S1 0 43 (nI b) 1) 0 44 (nI b) (nI cb)).2.1 0 44 b = nI cb := by
    rw [sA_2, if_pos ⟨rfl, rfl⟩, eb, upd_at, if_pos rfl]
  have F2 : FW b cb S (sA (sA S1 0 43 (nI b) 1) 0 44 (nI b) (nI cb)) := (FW.pf f1).tr ((FW.br (f := 43) (by omega) (Nat.le_refl b) (by omega) 1).tr (FW.br (f := 44) (by omega) (Nat.le_refl b) (by omega) (nI cb)) (Nat.le_refl _) (Nat.le_refl _)) (Nat.le_refl _) (Nat.le_refl _)
  generalize sA (sA S1 0 43 (nI b) 1) 0 44 (nI b) (nI cb) = S2 at g2 c43 c44 F2 ⊢
  -- the first sum
  have a3 : Ok (fun S3 => ∃ j, LwS kd pl vl Q v S0 c l T b j (smP kd (tk kd 139 p.1), p.2) S3 ∧ LQ cb S2 S3 ∧ cb ≤ j ∧ ((smP kd (tk kd 139 p.1)).1 = 0 → j = cb + (brC kd vl p.1).1.get!.1.length ∧ cdG mOp cb (S3.2.1 0 49) (S3.2.1 0 50) (brC kd vl p.1).1.get!.1 ∧ cW (brC kd vl p.1).1.get!.1)) (f_Mo_expression S2) := by
    by_cases z : (tk kd 139 p.1).1 = 0
    · refine (g2.ex E z).m (fun S3 y => ?_)
      obtain ⟨j, y1, y2, y3, y4⟩ := y
      exact ⟨j, y1, y2, y3, fun w => ⟨(y4 w).1, (y4 w).2.1, (y4 w).2.2⟩⟩
    · have es : smP kd (tk kd 139 p.1) = tk kd 139 p.1 := by unfold smP; rw [if_neg z]
      rw [es]
      exact (g2.exF z).m (fun S3 y => ⟨cb, y.1, y.2, Nat.le_refl _, fun w => absurd w z⟩)
  refine a3.b (fun S3 y3 => ?_)
  obtain ⟨j1, g3, q3, lj1, w3⟩ := y3
  refine (show Ok _ (f_Mo_must 13 S3) from g3.must (k := 60) E (by decide) (by decide)).b (fun S4 y4 => ?_)
  obtain ⟨g4, f4⟩ := y4
  rw [g4.2.2.1, gIn_n (show b < 260 by omega) (by decide), letS_e, g4.2.2.2.1]
  have g5 := g4.br (f := 45) (by omega) (nI j1)
  have c45 : (sA S4 0 45 (nI b) (nI j1)).2.1 0 45 b = nI j1 := by
    rw [sA_2, if_pos ⟨rfl, rfl⟩, eb, upd_at, if_pos rfl]
  have d43 : (sA S4 0 45 (nI b) (nI j1)).2.1 0 43 b = 1 := by
    rw [sA_2, if_neg (by omega), f4.2, q3.1 43 (by omega)]; exact c43
  have d44 : (sA S4 0 45 (nI b) (nI j1)).2.1 0 44 b = nI cb := by
    rw [sA_2, if_neg (by omega), f4.2, q3.1 44 (by omega)]; exact c44
  have dc : (sA S4 0 45 (nI b) (nI j1)).2.1 0 49 = S3.2.1 0 49 ∧ (sA S4 0 45 (nI b) (nI j1)).2.1 0 50 = S3.2.1 0 50 := by
    constructor <;> rw [sA_2, if_neg (by omega), f4.2]
  have F5 : FW b cb S (sA S4 0 45 (nI b) (nI j1)) := F2.tr ((FW.lq q3).tr ((FW.pf f4).tr (FW.br (f := 45) (by omega) (Nat.le_refl b) (by omega) (nI j1)) (Nat.le_refl _) (Nat.le_refl cb)) (Nat.le_refl _) (Nat.le_refl _)) (Nat.le_refl _) (Nat.le_refl _)
  generalize sA S4 0 45 (nI b) (nI j1) = S5 at g5 c45 d43 d44 dc F5 ⊢
  -- the second
  have a6 : ∀ z2, z2 = tk kd 60 (smP kd (tk kd 139 p.1)) → LwS kd pl vl Q v S0 c l T b j1 (z2, p.2) S5 → Ok R (if S5.1 0 13 = 0 then Option.bind (f_Mo_expression S5) (fun q107 => f_Mo_tellLaw_b110 K x1 x2 (x3 + 1) q107) else f_Mo_tellLaw_b110 K x1 x2 (x3 + 1) S5) := fun z2 ez g5 => by
    have rest : ∀ S6 j2, LwS kd pl vl Q v S0 c l T b j2 (smP kd z2, p.2) S6 → LQ j1 S5 S6 → j1 ≤ j2 → ((smP kd z2).1 = 0 → j2 = j1 + (brC kd vl p.1).1.get!.2.length ∧ cdG mOp j1 (S6.2.1 0 49) (S6.2.1 0 50) (brC kd vl p.1).1.get!.2 ∧ cW (brC kd vl p.1).1.get!.2) → Ok R (f_Mo_tellLaw_b110 K x1 x2 (x3 + 1) S6) := fun S6 j2 g6 q6 lj2 w6 => by
      unfold f_Mo_tellLaw_b110
      refine (show Ok _ (f_Mo_must 32 S6) from g6.must (k := 140) E (by decide) (by decide)).b (fun S7 y7 => ?_)
      obtain ⟨g7, f7⟩ := y7
      refine (g7.tm E hb).b (fun S8 y8 => ?_)
      obtain ⟨j3, g8, t8, lj3, w8⟩ := y8
      refine (show Ok _ (f_Mo_must 33 S8) from g8.must (k := 141) E (by decide) (by decide)).b (fun S9 y9 => ?_)
      obtain ⟨g9, f9⟩ := y9
      have F9 : FW b cb S S9 := F5.tr ((FW.lq q6).tr ((FW.pf f7).tr ((FW.tf t8).tr (FW.pf f9) (Nat.le_refl b) (Nat.le_refl j2)) (Nat.le_refl b) lj2) (Nat.le_refl b) (Nat.le_refl j1)) (Nat.le_refl b) lj1
      subst ez
      refine hK S9 j3 g9 F9 (by omega) (fun z9 => ?_)
      have z8 := (tk_0 (show (tk kd 141 (smP kd (tk kd 140 (smP kd (tk kd 60 (smP kd (tk kd 139 p.1))))))).1 = 0 from z9)).1
      have z7 := smP_00 z8
      have z6 := (tk_0 z7).1
      have z5 := smP_00 z6
      have z4 := (tk_0 z5).1
      obtain ⟨u1, u2, u3⟩ := w3 z4
      obtain ⟨v1, v2, v3⟩ := w6 z6
      obtain ⟨t1, t2⟩ := w8 z8
      have cc : ∀ i, i < j1 → S9.2.1 0 49 i = S5.2.1 0 49 i ∧ S9.2.1 0 50 i = S5.2.1 0 50 i := fun i hi => by
        rw [f9.2]
        exact ⟨by rw [t8.2.2 49 i (Or.inl rfl) (by omega), f7.2, q6.2.2 49 i (Or.inl rfl) hi], by rw [t8.2.2 50 i (Or.inr rfl) (by omega), f7.2, q6.2.2 50 i (Or.inr rfl) hi]⟩
      have cc2 : ∀ i, i < j2 → S9.2.1 0 49 i = S6.2.1 0 49 i ∧ S9.2.1 0 50 i = S6.2.1 0 50 i := fun i hi => by
        rw [f9.2]
        exact ⟨by rw [t8.2.2 49 i (Or.inl rfl) hi, f7.2], by rw [t8.2.2 50 i (Or.inr rfl) hi, f7.2]⟩
      have cell : ∀ f, 40 ≤ f → f ≤ 45 → S9.2.1 0 f = S5.2.1 0 f := fun f a1 a2 => by
        rw [f9.2, t8.1 f a1 a2, f7.2, q6.1 f (by omega)]
      refine ⟨⟨by rw [cell 43 (by omega) (by omega)]; exact d43, cb, hcl, by rw [cell 44 (by omega) (by omega)]; exact d44, ?_, ?_, ?_, ?_⟩, u3, v3, t2⟩
      · rw [cell 45 (by omega) (by omega), c45, u1]; rfl
      · exact cdG_e cc _ (by rw [dc.1, dc.2]; exact u2) (by show cb + (brC kd vl p.1).1.get!.1.length ≤ j1; omega)
      · have := cdG_e cc2 _ v2 (by omega)
        rw [u1] at this; exact this
      · have e2 : cb + (brC kd vl p.1).1.get!.1.length + (brC kd vl p.1).1.get!.2.length = j2 := by omega
        show tmM b (cb + (brC kd vl p.1).1.get!.1.length + (brC kd vl p.1).1.get!.2.length) j3 _ S9
        rw [e2]
        unfold tmM
        rw [f9.2]; exact t1
    by_cases z : z2.1 = 0
    · rw [if_pos (g5.1.f0 z)]
      refine (g5.ex E z).b (fun S6 y => ?_)
      obtain ⟨j, y1, y2, y3, y4⟩ := y
      refine rest S6 j y1 y2 y3 (fun w => ?_)
      subst ez
      exact ⟨(y4 w).1, (y4 w).2.1, (y4 w).2.2⟩
    · have es : smP kd z2 = z2 := by unfold smP; rw [if_neg z]
      rw [if_neg (g5.1.f1 z).2.1]
      exact rest S5 j1 (by rw [es]; exact g5) (LQ.rf _ _) (Nat.le_refl _) (fun w => absurd (by rw [es] at w; exact w) z)
  exact a6 _ rfl g5
