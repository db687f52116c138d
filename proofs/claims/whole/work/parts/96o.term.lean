/-! READ: the reference's terms of laws. -/
variable {kd : Nat → Int32} {pl vl : Nat → Nat} {Q v cb b : Nat} {S0 Sb : Mem} {c : Nat → Nat} {p p' : PS} {l : NLt} {T : TX} {S S' : Mem}
theorem RQ.s19 (h : RQ kd pl vl Q v S0 c p l S) : S.1 0 19 = nI (1 - v) := h.2.2.2.2.1
theorem RQ.hv (h : RQ kd pl vl Q v S0 c p l S) : v < 2 := h.2.2.2.2.2.1
theorem RQ.f0 (h : RQ kd pl vl Q v S0 c p l S) (z : p.1.1 = 0) : S.1 0 13 = 0 := (h.1.2.2.1 z).1
theorem RQ.f1 (h : RQ kd pl vl Q v S0 c p l S) (z : ¬ p.1.1 = 0) : ¬ S.1 0 13 ≤ 0 ∧ ¬ S.1 0 13 = 0 ∧ 0 < S.1 0 13 := by
  have h2 := h.1.2.1
  rw [(h.1.2.2.2.1 z).1]
  exact ⟨nI_nle (by omega) (by omega), nI_ne0 (by omega) (by omega), nI_lt (a := 0) (by omega) (by omega)⟩
/-- a branch's cell written -/
theorem RQ.br (h : RQ kd pl vl Q v S0 c p l S) {f : Nat} (hf : 43 ≤ f ∧ f ≤ 47) (h1 : 130 * (1 - v) ≤ b) (h2 : b < 130 * (1 - v) + 130) (x : Int32) : RQ kd pl vl Q v S0 c p l (sA S 0 f (nI b) x) := by
  have hv := h.hv
  have es : sdF f = 130 := by
    rcases (show f = 43 ∨ f = 44 ∨ f = 45 ∨ f = 46 ∨ f = 47 by omega) with rfl | rfl | rfl | rfl | rfl <;> decide
  refine h.w (by omega) _ x ?_
  have := LVm.s (S := S) (f := f) (i := b - 130 * (1 - v)) hv (by omega) (by omega) x
  rw [es, show 130 * (1 - v) + (b - 130 * (1 - v)) = b by omega] at this
  exact this
/-- a sum, with what it leaves -/
def exP (kd : Nat → Int32) (pl vl : Nat → Nat) (Q v : Nat) (S0 : Mem) (cb : Nat) (c : Nat → Nat) (p : PS) (l : NLt) (T : TX) (S S' : Mem) : Prop :=
  RQ kd pl vl Q v S0 c (smP kd p.1, p.2) l S' ∧ txM (1 - v) S' = T ∧ LQ cb S S' ∧ ∃ j, S'.1 0 48 = nI j ∧ cb ≤ j ∧ j ≤ 420 * (1 - v) + (smP kd p.1).2 + 1 ∧ ((smP kd p.1).1 = 0 → S'.1 0 12 = 0 ∧ j = cb + (yCode kd vl p.1.2 (smP kd p.1).2).length ∧ cdG mOp cb (S'.2.1 0 49) (S'.2.1 0 50) (yCode kd vl p.1.2 (smP kd p.1).2) ∧ yWf (yCode kd vl p.1.2 (smP kd p.1).2) ∧ yDep (yCode kd vl p.1.2 (smP kd p.1).2) = 1 ∧ j ≤ 420 * (1 - v) + (smP kd p.1).2)
theorem Mo_ex (E : EV kd pl vl Q) (h : RQ kd pl vl Q v S0 c p l S) (hT : txM (1 - v) S = T) (h0 : p.1.1 = 0) (h1 : 420 * (1 - v) ≤ cb) (h2 : cb ≤ 420 * (1 - v) + p.1.2) (e12 : S.1 0 12 = 0) (e48 : S.1 0 48 = nI cb) : Ok (exP kd pl vl Q v S0 cb c p l T S) (f_Mo_expression S) := by
  refine (Mo_expression E (show RE kd pl vl Q v S0 S cb c p l T S from ⟨h, hT, LQ.rf cb S⟩) h0 h1 h2 e12 e48).m (fun S1 g => ?_)
  obtain ⟨g1, ⟨j, j1, j2, j3⟩, g3⟩ := g
  refine ⟨g1.1, g1.2.1, g1.2.2, j, j1, j2, j3, fun z => ?_⟩
  obtain ⟨a1, a2, a3, a4, a5, a6⟩ := g3 z
  have ej : j = cb + (yCode kd vl p.1.2 (smP kd p.1).2).length := by
    have e := a2.2.2.1
    rw [j1] at e
    have hv := h.hv
    have hQ := g1.1.1.1
    have hq := E.1.1
    have hQ : (smP kd p.1).2 ≤ Q := hQ
    exact (nI_eq (by omega) (by show cb + (yCode kd vl p.1.2 (smP kd p.1).2).length < _; omega)).mp e
  exact ⟨a1, ej, a2.2.2.2, a3, a4, by omega⟩
/-- what a term leaves of laws -/
def TF (b cb : Nat) (S S' : Mem) : Prop := (∀ f, 40 ≤ f → f ≤ 45 → S'.2.1 0 f = S.2.1 0 f) ∧ (∀ f i, (f = 46 ∨ f = 47) → i ≠ b → S'.2.1 0 f i = S.2.1 0 f i) ∧ ∀ f i, (f = 49 ∨ f = 50) → i < cb → S'.2.1 0 f i = S.2.1 0 f i
theorem Mo_tm (E : EV kd pl vl Q) (h : RQ kd pl vl Q v S0 c p l S) (hT : txM (1 - v) S = T) (hb1 : 130 * (1 - v) ≤ b) (hb2 : b < 130 * (1 - v) + 130) (e42 : S.1 0 42 = nI b) (h1 : 420 * (1 - v) ≤ cb) (h2 : p.1.1 = 0 → cb ≤ 420 * (1 - v) + p.1.2) (h2' : cb ≤ 420 * (1 - v) + p.1.2 + 1) (e12 : p.1.1 = 0 → S.1 0 12 = 0) (e48 : S.1 0 48 = nI cb) : Ok (fun S' => RQ kd pl vl Q v S0 c (smP kd p.1, p.2) l S' ∧ txM (1 - v) S' = T ∧ TF b cb S S' ∧ S'.1 0 42 = nI (b + 1) ∧ ∃ j, S'.1 0 48 = nI j ∧ cb ≤ j ∧ j ≤ 420 * (1 - v) + (smP kd p.1).2 + 1 ∧ ((smP kd p.1).1 = 0 → S'.1 0 12 = 0 ∧ S'.2.1 0 46 b = nI cb ∧ S'.2.1 0 47 b = nI j ∧ j = cb + (yCode kd vl p.1.2 (smP kd p.1).2).length ∧ cdG mOp cb (S'.2.1 0 49) (S'.2.1 0 50) (yCode kd vl p.1.2 (smP kd p.1).2) ∧ yWf (yCode kd vl p.1.2 (smP kd p.1).2) ∧ yDep (yCode kd vl p.1.2 (smP kd p.1).2) = 1 ∧ j ≤ 420 * (1 - v) + (smP kd p.1).2)) (f_Mo_term S) := by
  have hv := h.hv
  unfold f_Mo_term f_Mo_term_b0
  rw [e42, gIn_n (show b < 260 by omega) (by decide), letS_e, e48]
  have g1 := h.br (f := 46) (by omega) hb1 hb2 (nI cb)
  have T1 : txM (1 - v) (sA S 0 46 (nI b) (nI cb)) = T := by rw [txM_w (by omega)]; exact hT
  have eb : (nI b).toNatClampNeg = b := cl (by omega)
  -- the end
  have fin : ∀ S2 j, RQ kd pl vl Q v S0 c (smP kd p.1, p.2) l S2 → txM (1 - v) S2 = T → LQ cb (sA S 0 46 (nI b) (nI cb)) S2 → S2.1 0 48 = nI j → RQ kd pl vl Q v S0 c (smP kd p.1, p.2) l (pI (sA S2 0 47 (nI b) (nI j)) 0 42 (nI (b + 1))) ∧ txM (1 - v) (pI (sA S2 0 47 (nI b) (nI j)) 0 42 (nI (b + 1))) = T ∧ TF b cb S (pI (sA S2 0 47 (nI b) (nI j)) 0 42 (nI (b + 1))) ∧ S2.2.1 0 46 b = nI cb ∧ f_Mo_term_b24 S2 = some (pI (sA S2 0 47 (nI b) (nI j)) 0 42 (nI (b + 1))) := fun S2 j r1 r2 r3 r4 => by
    have e2 : S2.1 0 42 = nI b := r3.2.1.trans e42
    refine ⟨(r1.br (f := 47) (by omega) hb1 hb2 (nI j)).i (by omega) _, ?_, ⟨fun f a1 a2 => ?_, fun f i a1 a2 => ?_, fun f i a1 a2 => ?_⟩, ?_, ?_⟩
    · rw [show ∀ (M : Mem) k x, txM (1 - v) (pI M 0 k x) = txM (1 - v) M from fun _ _ _ => rfl, txM_w (by omega)]; exact r2
    · rw [pI_2, sA_2, if_neg (by omega), r3.1 f (by omega), sA_2, if_neg (by omega)]
    · rw [pI_2, sA_2]
      by_cases e : f = 47
      · subst e
        rw [if_pos ⟨rfl, rfl⟩, eb, upd_at, if_neg a2, r3.1 47 (by omega), sA_2, if_neg (by omega)]
      · have : f = 46 := by omega
        subst this
        rw [if_neg (by omega), r3.1 46 (by omega), sA_2, if_pos ⟨rfl, rfl⟩, eb, upd_at, if_neg a2]
    · rw [pI_2, sA_2, if_neg (by omega), r3.2.2 f i a1 a2, sA_2, if_neg (by omega)]
    · rw [r3.1 46 (by omega), sA_2, if_pos ⟨rfl, rfl⟩, eb, upd_at, if_pos rfl]
    · unfold f_Mo_term_b24
      rw [e2, gIn_n (show b < 260 by omega) (by decide), letS_e, r4]
      rw [show (sA S2 0 47 (nI b) (nI j)).1 0 42 = nI b from e2, letS_e, nI_1]
  by_cases z : p.1.1 = 0
  · rw [if_pos (g1.f0 z)]
    refine (Mo_ex (cb := cb) E g1 T1 z h1 (h2 z) (e12 z) e48).b (fun S2 g2 => ?_)
    obtain ⟨r1, r2, r3, j, j1, j2, j3, j4⟩ := g2
    obtain ⟨f1, f2, f3, f4, f5⟩ := fin S2 j r1 r2 r3 j1
    refine ⟨_, f5, f1, f2, f3, rfl, j, j1, j2, j3, fun w => ?_⟩
    obtain ⟨a1, a2, a3, a4, a5, a6⟩ := j4 w
    refine ⟨a1, ?_, ?_, a2, ?_, a4, a5, a6⟩
    · rw [pI_2, sA_2, if_neg (by omega)]; exact f4
    · rw [pI_2, sA_2, if_pos ⟨rfl, rfl⟩, eb, upd_at, if_pos rfl]
    · rw [pI_2, sA_2, if_neg (by omega), sA_2, if_neg (by omega)]; exact a3
  · have es : smP kd p.1 = p.1 := by unfold smP; rw [if_neg z]
    rw [es] at fin ⊢
    obtain ⟨f1, f2, f3, f4, f5⟩ := fin (sA S 0 46 (nI b) (nI cb)) cb g1 T1 (LQ.rf _ _) e48
    rw [if_neg (g1.f1 z).2.1]
    exact ⟨_, f5, f1, f2, f3, rfl, cb, e48, Nat.le_refl _, h2', fun w => absurd w z⟩
