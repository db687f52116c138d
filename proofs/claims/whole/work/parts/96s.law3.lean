/-! READ: the reference's laws, the loop. -/
variable {kd : Nat → Int32} {pl vl : Nat → Nat} {Q v cb b b0 c0 k : Nat} {S0 Sb : Mem} {c : Nat → Nat} {p p' : PS} {l : NLt} {T : TX} {S S' : Mem} {r : List BrT}
theorem LwS.fail (E : EV kd pl vl Q) (h : LwS kd pl vl Q v S0 c l T b cb p S) {e : Nat} (he : e = 1 ∨ e = 2) (h0 : p.1.1 = 0) : Ok (fun S' => LwS kd pl vl Q v S0 c l T b cb ((e, p.1.2), p.2) S' ∧ PF S S') (f_Mo_fail (nI e) S) :=
  (Mo_fail E.1.1 h.1.2.2.2.2.2.2.1 h.1.1 he).m (fun _ z => by
    rw [if_pos h0] at z
    exact ⟨h.pf z.1 z.2 (fun w => absurd (show e = 0 from w) (by omega)) (fun _ => h0) (Nat.le_refl _), z.1⟩)
theorem lwF_f {n : Nat} {z : Nat × Nat} (h : ¬ z.1 = 0) : lwF kd n z = z := by
  cases n with
  | zero => unfold lwF; rw [if_neg h]
  | succ n => unfold lwF; rw [if_neg h]
theorem fnP_f {z : Nat × Nat} (h : ¬ z.1 = 0) : fnP kd z = z := by
  unfold fnP smP
  rw [if_neg h, tk_f h]
theorem lwF_n {n : Nat} {z : Nat × Nat} (h : z.1 = 0) (hk : ¬ kd z.2 = 139) : lwF kd n z = fnP kd z := by
  cases n with
  | zero => unfold lwF; rw [if_pos h, if_neg hk]
  | succ n => unfold lwF; rw [if_pos h, if_neg hk]
theorem lwB_n {n : Nat} {z : Nat × Nat} (hk : ¬ kd z.2 = 139) : lwB kd vl n z r = (none, yCode kd vl z.2 (smP kd z).2) :: r := by
  cases n with
  | zero => rfl
  | succ n => unfold lwB; rw [if_neg hk]
theorem Mo_law12 (E : EV kd pl vl Q) (hk : k < 3) : ∀ (n i m b cb : Nat) (p : PS) (S : Mem) (r : List BrT), n + i = 4 → n < m → LwS kd pl vl Q v S0 c l T b cb p S → b + n + 2 < 130 * (1 - v) + 130 → FW b0 c0 Sb S → b = b0 + r.length → c0 ≤ cb → (p.1.1 = 0 → bsM (420 * (1 - v)) b0 cb S r ∧ ∀ x, x ∈ r → brW x) → Ok (LwP kd pl vl Q v S0 Sb c l T k b0 c0 b cb (n + 1) (lwF kd n p.1) p.2 (lwB kd vl n p.1 r)) (f_Mo_tellLaw_l12 m (nI k) (nI b0) (nI i) S) := by
  intro n
  induction n with
  | zero =>
    intro i m b cb p S r hi hm h hb hF hb0 hc hr
    obtain ⟨m, rfl⟩ : ∃ j, m = j + 1 := ⟨m - 1, by omega⟩
    have ei : i = 4 := by omega
    subst ei
    show Ok _ (f_Mo_tellLaw_b12 (f_Mo_tellLaw_l12 m) (nI k) (nI b0) (nI 4) S)
    unfold f_Mo_tellLaw_b12
    by_cases q : p.1.1 = 0
    · rw [if_pos (h.1.f0 q), show (31 : Int32) = mkK 139 from by decide, Mo_is E.1.1 E.2.1 h.1.2.2.2.2.2.2.1 h.1.1 (by decide), bind_e]
      by_cases y : kd p.1.2 = 139
      · rw [show (if p.1.1 = 0 ∧ kd p.1.2 = 139 then (1 : Int32) else 0) = 1 from if_pos ⟨q, y⟩, i10, if_pos (show nI 4 = 4 from rfl)]
        refine (show Ok _ (f_Mo_fail 2 S) from h.fail (e := 2) E (Or.inr rfl) q).b (fun S1 g1 => ?_)
        obtain ⟨g1, f1⟩ := g1
        unfold f_Mo_tellLaw_b38
        rw [if_neg (g1.1.f1 (show ¬ (2 : Nat) = 0 by decide)).1]
        have e : lwF kd 0 p.1 = (2, p.1.2) := by unfold lwF; rw [if_pos q, if_pos y]
        rw [e]
        exact Ok.i ⟨b, cb, g1, Nat.le_refl _, (hF.tr (FW.pf f1) (Nat.le_refl b0) (Nat.le_refl c0)).kk, by omega, fun w => absurd w (show ¬ (2 : Nat) = 0 by decide)⟩
      · rw [show (if p.1.1 = 0 ∧ kd p.1.2 = 139 then (1 : Int32) else 0) = 0 from if_neg (fun z => y z.2), i00, lwF_n q y]
        exact Mo_fin E h (by omega) hk hF hb0 hc hr
    · rw [if_neg (h.1.f1 q).2.1, lwF_f q, ← fnP_f (kd := kd) q]
      rw [fnP_f q]
      have := Mo_fin E h (by omega) hk hF hb0 hc hr
      rw [fnP_f q] at this
      exact this
  | succ n ih =>
    intro i m b cb p S r hi hm h hb hF hb0 hc hr
    obtain ⟨m, rfl⟩ : ∃ j, m = j + 1 := ⟨m - 1, by omega⟩
    show Ok _ (f_Mo_tellLaw_b12 (f_Mo_tellLaw_l12 m) (nI k) (nI b0) (nI i) S)
    unfold f_Mo_tellLaw_b12
    have fin : ∀ z r', LwP kd pl vl Q v S0 Sb c l T k b0 c0 b cb 1 z p.2 r' = LwP kd pl vl Q v S0 Sb c l T k b0 c0 b cb 1 z p.2 r' := fun _ _ => rfl
    have up : ∀ z r' S', LwP kd pl vl Q v S0 Sb c l T k b0 c0 b cb 1 z p.2 r' S' → LwP kd pl vl Q v S0 Sb c l T k b0 c0 b cb (n + 1 + 1) z p.2 r' S' := fun z r' S' y => by
      obtain ⟨b', j, y1, y2, y3, y4, y5⟩ := y
      exact ⟨b', j, y1, y2, y3, by omega, y5⟩
    by_cases q : p.1.1 = 0
    · rw [if_pos (h.1.f0 q), show (31 : Int32) = mkK 139 from by decide, Mo_is E.1.1 E.2.1 h.1.2.2.2.2.2.2.1 h.1.1 (by decide), bind_e]
      by_cases y : kd p.1.2 = 139
      · rw [show (if p.1.1 = 0 ∧ kd p.1.2 = 139 then (1 : Int32) else 0) = 1 from if_pos ⟨q, y⟩, i10, if_neg (show ¬ nI i = 4 from fun z => by have := (nI_eq (show i < 2 ^ 31 by omega) (show 4 < 2 ^ 31 by decide)).mp z; omega)]
        have e : lwF kd (n + 1) p.1 = lwF kd n (csP kd p.1) := by conv => lhs; unfold lwF; rw [if_pos q, if_pos y]
        have e2 : lwB kd vl (n + 1) p.1 r = lwB kd vl n (csP kd p.1) (brC kd vl p.1 :: r) := by conv => lhs; unfold lwB; rw [if_pos y]
        rw [e, e2]
        refine Mo_case E h (by omega) q y (fun S' j g1 g2 g3 g4 => ?_)
        rw [nI_1]
        refine (ih (i + 1) m (b + 1) j (csP kd p.1, p.2) S' (brC kd vl p.1 :: r) (by omega) (by omega) g1 (by omega) (hF.tr g2 (by omega) hc) (by show b + 1 = b0 + (r.length + 1); omega) (by omega) (fun z => ?_)).m (fun S2 g => ?_)
        · obtain ⟨hr1, hr2⟩ := hr q
          obtain ⟨a1, a2⟩ := g4 z
          refine ⟨⟨by rw [← hb0]; exact a1, bsM_f g2 g3 r (by omega) hr1⟩, fun x hx => ?_⟩
          rcases List.mem_cons.mp hx with e | e
          · rw [e]; exact a2
          · exact hr2 x e
        · obtain ⟨b', j', y1, y2, y3, y4, y5⟩ := g
          exact ⟨b', j', y1, by omega, y3, by omega, y5⟩
      · rw [show (if p.1.1 = 0 ∧ kd p.1.2 = 139 then (1 : Int32) else 0) = 0 from if_neg (fun z => y z.2), i00, lwF_n q y, lwB_n y]
        exact (Mo_fin E h (by omega) hk hF hb0 hc hr).m (fun S' g => up _ _ S' g)
    · rw [if_neg (h.1.f1 q).2.1, lwF_f q]
      have := Mo_fin E h (by omega) hk hF hb0 hc hr
      rw [fnP_f q] at this
      refine this.m (fun S' g => ?_)
      obtain ⟨b', j, y1, y2, y3, y4, y5⟩ := g
      exact ⟨b', j, y1, y2, y3, by omega, fun w => absurd w q⟩
/-- a law, whole -/
theorem Mo_tellLaw (E : EV kd pl vl Q) (hk : k < 3) (h : LwS kd pl vl Q v S0 c l T b cb p S) (hb : b + 6 < 130 * (1 - v) + 130) : Ok (LwP kd pl vl Q v S0 S c l T k b cb b cb 5 (lwP kd p.1) p.2 (lwB kd vl 4 (tk kd 61 p.1) [])) (f_Mo_tellLaw (nI k) S) := by
  unfold f_Mo_tellLaw f_Mo_tellLaw_b0
  refine (show Ok _ (f_Mo_must 5 S) from h.must (k := 61) E (by decide) (by decide)).b (fun S1 g1 => ?_)
  obtain ⟨g1, f1⟩ := g1
  rw [letS_e, g1.2.2.1]
  exact Mo_law12 E hk 4 0 5000 b cb (tk kd 61 p.1, p.2) S1 [] rfl (by omega) g1 (by omega) (FW.pf f1) rfl (Nat.le_refl _) (fun _ => ⟨trivial, fun x hx => absurd hx (List.not_mem_nil)⟩)
