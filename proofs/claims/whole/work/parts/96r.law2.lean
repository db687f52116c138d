/-! READ: the reference's laws, whole. -/
variable {kd : Nat → Int32} {pl vl : Nat → Nat} {Q v cb b b0 c0 k : Nat} {S0 Sb : Mem} {c : Nat → Nat} {p p' : PS} {l : NLt} {T : TX} {S S' : Mem} {r : List BrT}
/-- a law's branches, from its tokens (last first) -/
def lwB (kd : Nat → Int32) (vl : Nat → Nat) : Nat → Nat × Nat → List BrT → List BrT
  | 0, z, r => (none, yCode kd vl z.2 (smP kd z).2) :: r
  | n + 1, z, r => if kd z.2 = 139 then lwB kd vl n (csP kd z) (brC kd vl z :: r) else (none, yCode kd vl z.2 (smP kd z).2) :: r
/-- of laws only law k is changed, branches from b, code from cb on -/
def FWk (a b cb : Nat) (S S' : Mem) : Prop := (∀ f i, f = 40 ∨ f = 41 → i ≠ a → S'.2.1 0 f i = S.2.1 0 f i) ∧ (∀ f i, 43 ≤ f → f ≤ 47 → i < b → S'.2.1 0 f i = S.2.1 0 f i) ∧ ∀ f i, (f = 49 ∨ f = 50) → i < cb → S'.2.1 0 f i = S.2.1 0 f i
theorem FW.kk {a : Nat} (h : FW b cb S S') : FWk a b cb S S' := ⟨fun f i hf _ => by rw [h.1 f hf], h.2.1, h.2.2⟩
theorem brM_e {lo : Nat} (e : ∀ f, 43 ≤ f → S'.2.1 0 f = S.2.1 0 f) : ∀ x : BrT, brM lo b cb S x → brM lo b cb S' x
  | (none, C), h => by
    simp only [brM, tmM] at h ⊢
    rw [e 43 (by omega), e 46 (by omega), e 47 (by omega), e 49 (by omega), e 50 (by omega)]; exact h
  | (some x, C), h => by
    simp only [brM, tmM] at h ⊢
    rw [e 43 (by omega), e 44 (by omega), e 45 (by omega), e 46 (by omega), e 47 (by omega), e 49 (by omega), e 50 (by omega)]; exact h
theorem bsM_e {lo : Nat} (e : ∀ f, 43 ≤ f → S'.2.1 0 f = S.2.1 0 f) : ∀ r : List BrT, bsM lo b cb S r → bsM lo b cb S' r
  | [], _ => trivial
  | x :: r, h => ⟨brM_e e x h.1, bsM_e e r h.2⟩
def LwP (kd : Nat → Int32) (pl vl : Nat → Nat) (Q v : Nat) (S0 Sb : Mem) (c : Nat → Nat) (l : NLt) (T : TX) (k b0 c0 b cb n : Nat) (z : Nat × Nat) (w : Nat × Nat) (r : List BrT) (S' : Mem) : Prop :=
  ∃ b' j, LwS kd pl vl Q v S0 c l T b' j (z, w) S' ∧ cb ≤ j ∧ FWk (3 * (1 - v) + k) b0 c0 Sb S' ∧ b' ≤ b + n ∧ (z.1 = 0 → S'.2.1 0 40 (3 * (1 - v) + k) = nI b0 ∧ S'.2.1 0 41 (3 * (1 - v) + k) = nI b' ∧ b' = b0 + r.length ∧ bsM (420 * (1 - v)) b0 j S' r ∧ ∀ x, x ∈ r → brW x)
theorem LwS.law (h : LwS kd pl vl Q v S0 c l T b cb p S) {f i : Nat} (hf : f = 40 ∨ f = 41) (hi : i < 3) (x : Int32) : LwS kd pl vl Q v S0 c l T b cb p (sA S 0 f (nI (3 * (1 - v) + i)) x) := by
  obtain ⟨h1, h2, h3, h4, h5, h6, h7, h8, h9⟩ := h
  have hv := h1.hv
  have es : sdF f = 3 := by rcases hf with rfl | rfl <;> decide
  refine ⟨h1.w (by omega) _ x ?_, by rw [txM_w (by omega)]; exact h2, h3, h4, h5, h6, h7, h8, h9⟩
  have := LVm.s (S := S) (f := f) (i := i) hv (by omega) (by omega) x
  rw [es] at this; exact this
theorem Mo_fin (E : EV kd pl vl Q) (h : LwS kd pl vl Q v S0 c l T b cb p S) (hb : b + 1 < 130 * (1 - v) + 130) (hk : k < 3) (hF : FW b0 c0 Sb S) (hb0 : b = b0 + r.length) (hc : c0 ≤ cb) (hr : p.1.1 = 0 → bsM (420 * (1 - v)) b0 cb S r ∧ ∀ x, x ∈ r → brW x) : Ok (LwP kd pl vl Q v S0 Sb c l T k b0 c0 b cb 1 (fnP kd p.1) p.2 ((none, yCode kd vl p.1.2 (smP kd p.1).2) :: r)) (f_Mo_tellLaw_b129 (nI k) (nI b0) S) := by
  have hv := h.1.hv
  have hbl := h.2.2.2.2.2.2.2.1
  have hcl := h.2.2.2.2.2.1
  unfold f_Mo_tellLaw_b129
  rw [h.2.2.1, gIn_n (show b < 260 by omega) (by decide), letS_e, nar0]
  have eb : (nI b).toNatClampNeg = b := cl (by omega)
  have g1 := h.br (f := 43) (by omega) 0
  have c43 : (sA S 0 43 (nI b) 0).2.1 0 43 b = 0 := by
    rw [sA_2, if_pos ⟨rfl, rfl⟩, eb, upd_at, if_pos rfl]
  have F1 : FW b cb S (sA S 0 43 (nI b) 0) := FW.br (f := 43) (by omega) (Nat.le_refl b) (by omega) 0
  generalize sA S 0 43 (nI b) 0 = S1 at g1 c43 F1 ⊢
  refine (g1.tm E hb).b (fun S2 y2 => ?_)
  obtain ⟨j, g2, t2, lj, w2⟩ := y2
  refine (show Ok _ (f_Mo_must 4 S2) from g2.must (k := 59) E (by decide) (by decide)).b (fun S3 y3 => ?_)
  obtain ⟨g3, f3⟩ := y3
  have g3 : LwS kd pl vl Q v S0 c l T (b + 1) j (fnP kd p.1, p.2) S3 := g3
  have F3 : FW b cb S S3 := F1.tr ((FW.tf t2).tr (FW.pf f3) (Nat.le_refl b) (Nat.le_refl cb)) (Nat.le_refl _) (Nat.le_refl _)
  have FB : FW b0 c0 Sb S3 := hF.tr F3 (by omega) hc
  by_cases z : (fnP kd p.1).1 = 0
  · have z2 := (tk_0 (show (tk kd 59 (smP kd p.1)).1 = 0 from z)).1
    have z1 := smP_00 z2
    obtain ⟨hr1, hr2⟩ := hr z1
    rw [g3.1.f0 z, if_pos (show (0 : Int32) ≤ 0 by decide), g3.1.s19, show (3 : Int32) = nI 3 from rfl, iM, iA, gIn_n (show 3 * (1 - v) + k < 6 by omega) (by decide), letS_e]
    have g4 := g3.law (f := 40) (Or.inl rfl) hk (nI b0)
    rw [g4.1.s19, iM, iA, gIn_n (show 3 * (1 - v) + k < 6 by omega) (by decide), letS_e, g4.2.2.1]
    have g5 := g4.law (f := 41) (Or.inr rfl) hk (nI (b + 1))
    have ek : (nI (3 * (1 - v) + k)).toNatClampNeg = 3 * (1 - v) + k := cl (by omega)
    have o45 : ∀ f, f ≠ 40 → f ≠ 41 → (sA (sA S3 0 40 (nI (3 * (1 - v) + k)) (nI b0)) 0 41 (nI (3 * (1 - v) + k)) (nI (b + 1))).2.1 0 f = S3.2.1 0 f := fun f a1 a2 => by
      rw [sA_2, if_neg (by omega), sA_2, if_neg (by omega)]
    obtain ⟨t3, t4⟩ := w2 z2
    refine Ok.i ⟨b + 1, j, g5, lj, ⟨fun f i hf hi => ?_, fun f i a1 a2 a3 => ?_, fun f i a1 a2 => ?_⟩, Nat.le_refl _, fun _ => ⟨?_, ?_, by show b + 1 = b0 + (r.length + 1); omega, ⟨?_, ?_⟩, fun x hx => ?_⟩⟩
    · rcases hf with rfl | rfl
      · rw [sA_2, if_neg (by omega), sA_2, if_pos ⟨rfl, rfl⟩, ek, upd_at, if_neg hi, FB.1 40 (Or.inl rfl)]
      · rw [sA_2, if_pos ⟨rfl, rfl⟩, ek, upd_at, if_neg hi, sA_2, if_neg (by omega), FB.1 41 (Or.inr rfl)]
    · rw [o45 f (by omega) (by omega)]; exact FB.2.1 f i a1 a2 a3
    · rw [o45 f (by omega) (by omega)]; exact FB.2.2 f i a1 a2
    · rw [sA_2, if_neg (by omega), sA_2, if_pos ⟨rfl, rfl⟩, ek, upd_at, if_pos rfl]
    · rw [sA_2, if_pos ⟨rfl, rfl⟩, ek, upd_at, if_pos rfl]
    · rw [← hb0]
      refine ⟨by rw [o45 43 (by omega) (by omega), f3.2, t2.1 43 (by omega) (by omega)]; exact c43, cb, hcl, ?_⟩
      unfold tmM
      rw [o45 46 (by omega) (by omega), o45 47 (by omega) (by omega), o45 49 (by omega) (by omega), o45 50 (by omega) (by omega), f3.2]
      exact t3
    · exact bsM_e (fun f hf => o45 f (by omega) (by omega)) r (bsM_f F3 lj r (by omega) hr1)
    · rcases List.mem_cons.mp hx with e | e
      · rw [e]; exact t4
      · exact hr2 x e
  · rw [if_neg (g3.1.f1 z).1]
    exact Ok.i ⟨b + 1, j, g3, lj, FB.kk, Nat.le_refl _, fun w => absurd w z⟩
