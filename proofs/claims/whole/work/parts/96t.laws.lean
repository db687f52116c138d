/-! READ: the reference's laws, all three, between tells. -/
variable {kd : Nat → Int32} {pl vl : Nat → Nat} {Q v cb b b0 c0 k : Nat} {S0 Sb : Mem} {c c' : Nat → Nat} {p p' : PS} {l l' : NLt} {T T' : TX} {S S' : Mem} {r : List BrT}
abbrev LwG : Type := Nat → Option (List BrT)
/-- law k as memory holds it -/
def lawM (u k b cb : Nat) (S : Mem) : Option (List BrT) → Prop
  | none => S.2.1 0 40 (3 * u + k) = 0 ∧ S.2.1 0 41 (3 * u + k) = 0
  | some r => ∃ b0, S.2.1 0 40 (3 * u + k) = nI b0 ∧ S.2.1 0 41 (3 * u + k) = nI (b0 + r.length) ∧ 130 * u ≤ b0 ∧ b0 + r.length ≤ b ∧ bsM (420 * u) b0 cb S r ∧ r ≠ [] ∧ ∀ x, x ∈ r → brW x
def lawsM (u b cb : Nat) (S : Mem) (G : LwG) : Prop := ∀ k, k < 3 → lawM u k b cb S (G k)
def updG (G : LwG) (k : Nat) (r : List BrT) : LwG := fun i => if i = k then some r else G i
theorem lawM_e {u : Nat} (e : ∀ f, 40 ≤ f → f ≤ 50 → S'.2.1 0 f = S.2.1 0 f) : ∀ x, lawM u k b cb S x → lawM u k b cb S' x
  | none, h => by
    simp only [lawM] at h ⊢
    rw [e 40 (by omega) (by omega), e 41 (by omega) (by omega)]; exact h
  | some r, h => by
    obtain ⟨b0, h1, h2, h3, h4, h5, h6⟩ := h
    refine ⟨b0, by rw [e 40 (by omega) (by omega)]; exact h1, by rw [e 41 (by omega) (by omega)]; exact h2, h3, h4, ?_, h6⟩
    refine bsM_f (b := b) (cb := cb) (S := S) ⟨fun f hf => e f (by omega) (by omega), fun f i a1 a2 _ => by rw [e f (by omega) (by omega)], fun f i a1 _ => by rw [e f (by omega) (by omega)]⟩ (Nat.le_refl _) r h4 h5
theorem lawsM.lk {u : Nat} {G : LwG} (h : lawsM u b cb S G) (e : LK S S') : lawsM u b cb S' G := fun k hk => lawM_e e.2 _ (h k hk)
/-- the branches of a law, where only law k, branches from b and code from cb on were written -/
theorem brM_k {lo a b' cb' : Nat} (hf : FWk a b cb S S') (hb : b' < b) (hc : cb ≤ cb') : ∀ x : BrT, brM lo b' cb S x → brM lo b' cb' S' x := by
  have hcd : ∀ i, i < cb → S'.2.1 0 49 i = S.2.1 0 49 i ∧ S'.2.1 0 50 i = S.2.1 0 50 i := fun i hi => ⟨hf.2.2 49 i (Or.inl rfl) hi, hf.2.2 50 i (Or.inr rfl) hi⟩
  have tm : ∀ a C, tmM b' a cb C S → tmM b' a cb' C S' := fun a C h => by
    obtain ⟨h1, h2, h3, h4⟩ := h
    exact ⟨by rw [hf.2.1 46 b' (by omega) (by omega) hb]; exact h1, by rw [hf.2.1 47 b' (by omega) (by omega) hb]; exact h2, cdG_e hcd C h3 h4, by omega⟩
  intro x h
  obtain ⟨q, C⟩ := x
  cases q with
  | none =>
    obtain ⟨h1, a, h2, h3⟩ := h
    exact ⟨by rw [hf.2.1 43 b' (by omega) (by omega) hb]; exact h1, a, h2, tm a C h3⟩
  | some x =>
    obtain ⟨h1, a, h2, h3, h4, h5, h6, h7⟩ := h
    have l7 := h7.2.2.2
    exact ⟨by rw [hf.2.1 43 b' (by omega) (by omega) hb]; exact h1, a, h2, by rw [hf.2.1 44 b' (by omega) (by omega) hb]; exact h3, by rw [hf.2.1 45 b' (by omega) (by omega) hb]; exact h4, cdG_e hcd x.1 h5 (by omega), cdG_e hcd x.2 h6 (by omega), tm _ C h7⟩
theorem bsM_k {lo a b' cb' : Nat} (hf : FWk a b cb S S') (hc : cb ≤ cb') : ∀ r : List BrT, b' + r.length ≤ b → bsM lo b' cb S r → bsM lo b' cb' S' r
  | [], _, _ => trivial
  | x :: r, hb, h => by
    have hb : b' + (r.length + 1) ≤ b := hb
    exact ⟨brM_k hf (by omega) hc x h.1, bsM_k hf hc r (by omega) h.2⟩
theorem lawM_k {u a b' cb' : Nat} (hf : FWk a b cb S S') (ha : 3 * u + k ≠ a) (hb : b ≤ b') (hc : cb ≤ cb') : ∀ x, lawM u k b cb S x → lawM u k b' cb' S' x
  | none, h => by
    obtain ⟨h1, h2⟩ := h
    exact ⟨by rw [hf.1 40 _ (Or.inl rfl) ha]; exact h1, by rw [hf.1 41 _ (Or.inr rfl) ha]; exact h2⟩
  | some r, h => by
    obtain ⟨b0, h1, h2, h3, h4, h5, h6⟩ := h
    exact ⟨b0, by rw [hf.1 40 _ (Or.inl rfl) ha]; exact h1, by rw [hf.1 41 _ (Or.inr rfl) ha]; exact h2, h3, by omega, bsM_k hf hc r h4 h5, h6⟩
theorem lwB_ne : ∀ (n : Nat) (z : Nat × Nat) (r : List BrT), lwB kd vl n z r ≠ []
  | 0, z, r => List.cons_ne_nil _ _
  | n + 1, z, r => by
    unfold lwB
    split
    · exact lwB_ne n _ _
    · exact List.cons_ne_nil _ _
/-- behind a law that was told -/
theorem LwP.laws {G : LwG} {n : Nat} {z w : Nat × Nat} (h : LwP kd pl vl Q v S0 S c l T k b cb b cb n z w r S') (hG : lawsM (1 - v) b cb S G) (hbl : 130 * (1 - v) ≤ b) (hr : r ≠ []) : ∃ b' j, LwS kd pl vl Q v S0 c l T b' j (z, w) S' ∧ b' ≤ b + n ∧ (z.1 = 0 → lawsM (1 - v) b' j S' (updG G k r) ∧ b' = b + r.length) := by
  obtain ⟨b', j, h1, h2, h3, h4, h5⟩ := h
  refine ⟨b', j, h1, h4, fun q => ?_⟩
  obtain ⟨a1, a2, a3, a4, a5⟩ := h5 q
  refine ⟨fun i hi => ?_, a3⟩
  unfold updG
  by_cases e : i = k
  · rw [if_pos e, e]
    exact ⟨b, a1, by rw [a2, a3], hbl, by omega, a4, hr, a5⟩
  · rw [if_neg e]
    exact lawM_k h3 (by omega) (by omega) h2 _ (hG i hi)
theorem LwS.ry (h : LwS kd pl vl Q v S0 c l T b cb p S) : RY kd pl vl Q v S0 S c p l T S := ⟨h.1, LK.rf S, h.2.1⟩
theorem RY.lw (g : RY kd pl vl Q v S0 S c' p' l' T' S') (h : LwS kd pl vl Q v S0 c l T b cb p S) (h0 : p'.1.1 = 0 → p.1.1 = 0) (hle : p.1.2 ≤ p'.1.2) : LwS kd pl vl Q v S0 c' l' T' b cb p' S' := by
  obtain ⟨h1, h2, h3, h4, h5, h6, h7, h8, h9⟩ := h
  obtain ⟨g1, ⟨⟨k1, k2, k3⟩, k4⟩, g3⟩ := g
  exact ⟨g1, g3, k1.trans h3, k2.trans h4, fun z => ⟨k3.trans (h5 (h0 z)).1, by have := (h5 (h0 z)).2; omega⟩, h6, by omega, h8, h9⟩
/-- branches cost tokens -/
theorem lwB_len : ∀ (n : Nat) (z : Nat × Nat) (r : List BrT), (lwF kd n z).1 = 0 → 4 * (lwB kd vl n z r).length + z.2 ≤ 4 * r.length + (lwF kd n z).2 + 2 := by
  have fin : ∀ z r, (fnP kd z).1 = 0 → 4 * (((none, yCode kd vl z.2 (smP kd z).2) : BrT) :: r).length + z.2 ≤ 4 * r.length + (fnP kd z).2 + 2 := fun z r h => by
    obtain ⟨a1, a2, a3, a4⟩ := tk_0 (show (tk kd 59 (smP kd z)).1 = 0 from h)
    have := smP_gt a1
    have e : (fnP kd z).2 = (smP kd z).2 + 1 := by show (tk kd 59 (smP kd z)).2 = _; rw [a4]
    rw [e]
    show 4 * (r.length + 1) + z.2 ≤ _
    omega
  intro n
  induction n with
  | zero =>
    intro z r h
    by_cases q : z.1 = 0
    · by_cases y : kd z.2 = 139
      · unfold lwF at h; rw [if_pos q, if_pos y] at h; exact absurd h (show ¬ (2 : Nat) = 0 by decide)
      · rw [lwF_n q y] at h ⊢; exact fin z r h
    · rw [lwF_f q] at h; exact absurd h q
  | succ n ih =>
    intro z r h
    by_cases q : z.1 = 0
    · by_cases y : kd z.2 = 139
      · have e : lwF kd (n + 1) z = lwF kd n (csP kd z) := by conv => lhs; unfold lwF; rw [if_pos q, if_pos y]
        have e2 : lwB kd vl (n + 1) z r = lwB kd vl n (csP kd z) (brC kd vl z :: r) := by conv => lhs; unfold lwB; rw [if_pos y]
        rw [e] at h ⊢
        rw [e2]
        have i1 := ih (csP kd z) (brC kd vl z :: r) h
        have h0 : (csP kd z).1 = 0 := Classical.byContradiction (fun w => by rw [lwF_f w] at h; exact w h)
        have l1 : (brC kd vl z :: r).length = r.length + 1 := rfl
        rw [l1] at i1
        obtain ⟨a1, -, -, a4⟩ := tk_0 (show (tk kd 141 (smP kd (tk kd 140 (smP kd (tk kd 60 (smP kd (tk kd 139 z))))))).1 = 0 from h0)
        obtain ⟨b1, -, -, b4⟩ := tk_0 (smP_00 a1)
        obtain ⟨c1, -, -, c4⟩ := tk_0 (smP_00 b1)
        obtain ⟨d1, -, -, d4⟩ := tk_0 (smP_00 c1)
        have m1 := smP_le (kd := kd) (tk kd 140 (smP kd (tk kd 60 (smP kd (tk kd 139 z)))))
        have m2 := smP_le (kd := kd) (tk kd 60 (smP kd (tk kd 139 z)))
        have m3 := smP_le (kd := kd) (tk kd 139 z)
        have e4 : (csP kd z).2 = (smP kd (tk kd 140 (smP kd (tk kd 60 (smP kd (tk kd 139 z)))))).2 + 1 := by show (tk kd 141 _).2 = _; rw [a4]
        have b5 : (tk kd 140 (smP kd (tk kd 60 (smP kd (tk kd 139 z))))).2 = (smP kd (tk kd 60 (smP kd (tk kd 139 z)))).2 + 1 := by rw [b4]
        have c5 : (tk kd 60 (smP kd (tk kd 139 z))).2 = (smP kd (tk kd 139 z)).2 + 1 := by rw [c4]
        have d5 : (tk kd 139 z).2 = z.2 + 1 := by rw [d4]
        omega
      · rw [lwF_n q y] at h ⊢; rw [lwB_n y]; exact fin z r h
    · rw [lwF_f q] at h; exact absurd h q
