/-! READ: the reference's branches of laws: states and steps. -/
variable {kd : Nat → Int32} {pl vl : Nat → Nat} {Q v cb b : Nat} {S0 Sb : Mem} {c : Nat → Nat} {p p' : PS} {l : NLt} {T : TX} {S S' : Mem}
theorem smF_gt {n o t : Nat} (h : (smF kd (n + 1) o true t).1 = 0) : t + 1 ≤ (smF kd (n + 1) o true t).2 := by
  have e0 : ∀ k, (tk kd k (0, t)).1 = 0 → t + 1 ≤ (tk kd k (0, t)).2 := fun k hk => by
    obtain ⟨-, -, -, e⟩ := tk_0 hk
    rw [e]; exact Nat.le_refl _
  unfold smF at h ⊢
  rw [if_pos rfl] at h ⊢
  by_cases q : kd t = 40
  · rw [if_pos q] at h ⊢
    by_cases q2 : o + 1 ≤ 6
    · rw [if_pos q2] at h ⊢
      by_cases q3 : (tk kd 40 (0, t)).1 = 0
      · rw [if_pos q3]; exact smF_le _ _ _ _
      · rw [if_neg q3] at h; exact absurd h q3
    · rw [if_neg q2] at h; exact absurd h (show ¬ (2 : Nat) = 0 by decide)
  · rw [if_neg q] at h ⊢
    by_cases q2 : isVl (kd t)
    · rw [if_pos q2] at h ⊢
      by_cases q3 : (tk kd (kd t) (0, t)).1 = 0
      · rw [if_pos q3]; exact smF_le _ _ _ _
      · rw [if_neg q3] at h; exact absurd h q3
    · rw [if_neg q2] at h; exact absurd h (show ¬ (1 : Nat) = 0 by decide)
theorem smP_00 {z : Nat × Nat} (h : (smP kd z).1 = 0) : z.1 = 0 := by
  unfold smP at h
  by_cases q : z.1 = 0
  · exact q
  · rw [if_neg q] at h; exact h
theorem smP_gt {z : Nat × Nat} (h : (smP kd z).1 = 0) : z.2 + 1 ≤ (smP kd z).2 := by
  have h0 := smP_00 h
  have e : smP kd z = smF kd (401 + 1) 0 true z.2 := by unfold smP; rw [if_pos h0]
  rw [e] at h ⊢
  exact smF_gt h
def FW (b cb : Nat) (S S' : Mem) : Prop := (∀ f, f = 40 ∨ f = 41 → S'.2.1 0 f = S.2.1 0 f) ∧ (∀ f i, 43 ≤ f → f ≤ 47 → i < b → S'.2.1 0 f i = S.2.1 0 f i) ∧ ∀ f i, (f = 49 ∨ f = 50) → i < cb → S'.2.1 0 f i = S.2.1 0 f i
theorem FW.rf (b cb : Nat) (S : Mem) : FW b cb S S := ⟨fun _ _ => rfl, fun _ _ _ _ _ => rfl, fun _ _ _ _ => rfl⟩
theorem FW.tr {b' cb' : Nat} {A B C : Mem} (h1 : FW b cb A B) (h2 : FW b' cb' B C) (hb : b ≤ b') (hc : cb ≤ cb') : FW b cb A C := ⟨fun f h => (h2.1 f h).trans (h1.1 f h), fun f i a1 a2 a3 => (h2.2.1 f i a1 a2 (by omega)).trans (h1.2.1 f i a1 a2 a3), fun f i a1 a2 => (h2.2.2 f i a1 (by omega)).trans (h1.2.2 f i a1 a2)⟩
theorem FW.lq (h : LQ cb S S') : FW b cb S S' := ⟨fun f hf => h.1 f (by omega), fun f i a1 a2 _ => by rw [h.1 f (by omega)], h.2.2⟩
theorem FW.tf (h : TF b cb S S') : FW b cb S S' := ⟨fun f hf => h.1 f (by omega) (by omega), fun f i a1 a2 a3 => by
  by_cases q : f ≤ 45
  · rw [h.1 f (by omega) q]
  · exact h.2.1 f i (by omega) (by omega), h.2.2⟩
theorem FW.pf (h : PF S S') : FW b cb S S' := ⟨fun f _ => by rw [h.2], fun f i _ _ _ => by rw [h.2], fun f i _ _ => by rw [h.2]⟩
theorem FW.br {f b' : Nat} (hf : 43 ≤ f ∧ f ≤ 47) (hb : b ≤ b') (hb2 : b' < 4096) (x : Int32) : FW b cb S (sA S 0 f (nI b') x) := ⟨fun f' h => by rw [sA_2, if_neg (by omega)], fun f' i a1 a2 a3 => by
  rw [sA_2]
  by_cases e : (0 : Nat) = 0 ∧ f' = f
  · rw [if_pos e, cl hb2, upd_at, if_neg (by omega), e.2]
  · rw [if_neg e], fun f' i a1 a2 => by rw [sA_2, if_neg (by omega)]⟩
/-- within a law -/
def LwS (kd : Nat → Int32) (pl vl : Nat → Nat) (Q v : Nat) (S0 : Mem) (c : Nat → Nat) (l : NLt) (T : TX) (b cb : Nat) (p : PS) (S : Mem) : Prop := RQ kd pl vl Q v S0 c p l S ∧ txM (1 - v) S = T ∧ S.1 0 42 = nI b ∧ S.1 0 48 = nI cb ∧ (p.1.1 = 0 → S.1 0 12 = 0 ∧ cb ≤ 420 * (1 - v) + p.1.2) ∧ 420 * (1 - v) ≤ cb ∧ cb ≤ 420 * (1 - v) + p.1.2 + 1 ∧ 130 * (1 - v) ≤ b ∧ b < 130 * (1 - v) + 130
theorem LwS.pf (h : LwS kd pl vl Q v S0 c l T b cb p S) (hf : PF S S') (hm : MP pl Q p' S') (hw : wOk p') (h0 : p'.1.1 = 0 → p.1.1 = 0) (hle : p.1.2 ≤ p'.1.2) : LwS kd pl vl Q v S0 c l T b cb p' S' := by
  obtain ⟨h1, h2, h3, h4, h5, h6, h7, h8, h9⟩ := h
  refine ⟨h1.pf hf hm hw, (txM_e (by rw [hf.2])).trans h2, by rw [hf.1 42 (by unfold reg; omega)]; exact h3, by rw [hf.1 48 (by unfold reg; omega)]; exact h4, fun z => ?_, h6, by omega, h8, h9⟩
  obtain ⟨a1, a2⟩ := h5 (h0 z)
  exact ⟨by rw [hf.1 12 (by unfold reg; omega)]; exact a1, by omega⟩
theorem LwS.must (E : EV kd pl vl Q) (h : LwS kd pl vl Q v S0 c l T b cb p S) {k : Int32} (hk : k ∈ kinds) (hk0 : ¬ (k = 0 ∨ k = 1)) : Ok (fun S' => LwS kd pl vl Q v S0 c l T b cb (tk kd k p.1, p.2) S' ∧ PF S S') (f_Mo_must (mkK k) S) :=
  (Mo_must E.1 E.2.1 h.1.2.2.2.2.2.2.1 h.1.1 hk hk0).m (fun _ z => ⟨h.pf z.1 z.2 h.1.2.1.t (fun w => (tk_0 w).1) (tk_le _), z.1⟩)
theorem gOn_00 {z : Nat × Nat} (h : (gOn z).1 = 0) : z.1 = 0 := by
  unfold gOn at h
  by_cases q : z.1 = 0
  · exact q
  · rw [if_neg q] at h; exact h
theorem LwS.goes (E : EV kd pl vl Q) (h : LwS kd pl vl Q v S0 c l T b cb p S) (h0 : p.1.1 = 0) {k : Int32} (hk : kd p.1.2 = k) (hk0 : ¬ (k = 0 ∨ k = 1)) : Ok (fun S' => LwS kd pl vl Q v S0 c l T b cb (tk kd k p.1, p.2) S' ∧ PF S S') (f_Mo_goesOn S) :=
  (Mo_goesOn E.1 h.1.2.2.2.2.2.2.1 h.1.1 h0 (by rw [hk]; exact hk0)).m (fun S' z => by
    rw [← tk_gOn h0 hk] at z
    exact ⟨h.pf z.1 z.2 h.1.2.1.t (fun w => (tk_0 w).1) (tk_le _), z.1⟩)
theorem LwS.br (h : LwS kd pl vl Q v S0 c l T b cb p S) {f : Nat} (hf : 43 ≤ f ∧ f ≤ 47) (x : Int32) : LwS kd pl vl Q v S0 c l T b cb p (sA S 0 f (nI b) x) := by
  obtain ⟨h1, h2, h3, h4, h5, h6, h7, h8, h9⟩ := h
  exact ⟨h1.br hf h8 h9 x, by rw [txM_w (by omega)]; exact h2, h3, h4, h5, h6, h7, h8, h9⟩
/-- a sum within a law, read or left out -/
theorem LwS.ex (E : EV kd pl vl Q) (h : LwS kd pl vl Q v S0 c l T b cb p S) (h0 : p.1.1 = 0) : Ok (fun S' => ∃ j, LwS kd pl vl Q v S0 c l T b j (smP kd p.1, p.2) S' ∧ LQ cb S S' ∧ cb ≤ j ∧ ((smP kd p.1).1 = 0 → j = cb + (yCode kd vl p.1.2 (smP kd p.1).2).length ∧ cdG mOp cb (S'.2.1 0 49) (S'.2.1 0 50) (yCode kd vl p.1.2 (smP kd p.1).2) ∧ yWf (yCode kd vl p.1.2 (smP kd p.1).2) ∧ yDep (yCode kd vl p.1.2 (smP kd p.1).2) = 1)) (f_Mo_expression S) := by
  obtain ⟨h1, h2, h3, h4, h5, h6, h7, h8, h9⟩ := h
  obtain ⟨a1, a2⟩ := h5 h0
  refine (Mo_ex (cb := cb) E h1 h2 h0 h6 a2 a1 h4).m (fun S' g => ?_)
  obtain ⟨r1, r2, r3, j, j1, j2, j3, j4⟩ := g
  refine ⟨j, ⟨r1, r2, r3.2.1.trans h3, j1, fun z => ?_, by omega, j3, h8, h9⟩, r3, j2, fun z => ?_⟩
  · obtain ⟨b1, b2, b3, b4, b5, b6⟩ := j4 z
    exact ⟨b1, b6⟩
  · obtain ⟨b1, b2, b3, b4, b5, b6⟩ := j4 z
    exact ⟨b2, b3, b4, b5⟩
theorem LwS.exF (h : LwS kd pl vl Q v S0 c l T b cb p S) (h0 : ¬ p.1.1 = 0) : Ok (fun S' => LwS kd pl vl Q v S0 c l T b cb p S' ∧ LQ cb S S') (f_Mo_expression S) := by
  obtain ⟨h1, h2, h3, h4, h5, h6, h7, h8, h9⟩ := h
  unfold f_Mo_expression f_Mo_expression_b0
  rw [letS_e, letS_e, show (5000 : Nat) = 4999 + 1 from rfl, l12_s]
  unfold f_Mo_expression_b12
  have g := h1.i (k := 52) (by omega) 0
  rw [i10, if_neg (g.f1 h0).2.1]
  exact Ok.i ⟨⟨g, h2, h3, h4, fun z => absurd z h0, h6, h7, h8, h9⟩, fun _ _ => rfl, rfl, fun _ _ _ _ => rfl⟩
