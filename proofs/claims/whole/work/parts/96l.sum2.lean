/-! READ: the reference's sums, the loops. -/
variable {kd : Nat → Int32} {pl vl : Nat → Nat} {Q v cb : Nat} {S0 Sb : Mem} {c : Nat → Nat} {p p' : PS} {l : NLt} {T : TX} {S S' : Mem} {w : Nat × Nat} {t0 : Nat}
def XP (kd : Nat → Int32) (pl vl : Nat → Nat) (Q v : Nat) (S0 Sb : Mem) (cb : Nat) (c : Nat → Nat) (l : NLt) (T : TX) (w : Nat × Nat) (t0 : Nat) (z : Nat × Nat) (S' : Mem) : Prop :=
  RE kd pl vl Q v S0 Sb cb c (z, w) l T S' ∧ (∃ j, S'.1 0 48 = nI j ∧ cb ≤ j ∧ j ≤ 420 * (1 - v) + z.2 + 1) ∧ (z.1 = 0 → S'.1 0 12 = 0 ∧ YM cb ([], yCode kd vl t0 z.2) S' ∧ yWf (yCode kd vl t0 z.2) ∧ yDep (yCode kd vl t0 z.2) = 1 ∧ t0 ≤ z.2 ∧ (yCode kd vl t0 z.2).length ≤ z.2 - t0)
def IV (kd : Nat → Int32) (pl vl : Nat → Nat) (Q v : Nat) (S0 Sb : Mem) (cb : Nat) (c : Nat → Nat) (l : NLt) (T : TX) (w : Nat × Nat) (t0 o : Nat) (due : Bool) (t : Nat) (S : Mem) : Prop :=
  RE kd pl vl Q v S0 Sb cb c ((0, t), w) l T S ∧ YM cb (yAll kd vl t0 (t - t0)) S ∧ yI o due (yAll kd vl t0 (t - t0)) ∧ o ≤ 6 ∧ t0 ≤ t ∧ S.1 0 12 = nI o ∧ (yAll kd vl t0 (t - t0)).1.length + (yAll kd vl t0 (t - t0)).2.length ≤ t - t0
theorem yAll_s {t : Nat} (h : t0 ≤ t) : yAll kd vl t0 (t + 1 - t0) = yOne (kd t) (vl t) (yAll kd vl t0 (t - t0)) := by
  obtain ⟨n, rfl⟩ : ∃ n, t = t0 + n := ⟨t - t0, by omega⟩
  rw [show t0 + n + 1 - t0 = n + 1 by omega, show t0 + n - t0 = n by omega]; rfl
theorem gOn_0 (t : Nat) : gOn (0, t) = if t < 400 then (0, t + 1) else (2, t) := by unfold gOn; rw [if_pos rfl]
theorem sumAf (E : EV kd pl vl Q) (h : RE kd pl vl Q v S0 Sb cb c p l T S) (h0 : ¬ p.1.1 = 0) (K : Int32 → Int32 → Mem → Option Mem) (m : Nat) (x1 : Int32) : Ok (fun S' => RE kd pl vl Q v S0 Sb cb c p l T S' ∧ PF S S') (f_Mo_expression_l23 K (m + 1) x1 S) := by
  show Ok _ (f_Mo_expression_b23 K (f_Mo_expression_l23 K m) x1 S)
  unfold f_Mo_expression_b23
  rw [show (6 : Int32) = mkK 40 from by decide, h.is E (by decide), bind_e, show (if p.1.1 = 0 ∧ kd p.1.2 = 40 then (1 : Int32) else 0) = 0 from if_neg (fun z => h0 z.1), i00]
  refine (h.unitN E (fun z => absurd z h0)).b (fun S1 h1 => ?_)
  rw [if_neg h0] at h1
  rw [if_neg (h1.1.f1 h0).1]
  exact Ok.i h1
theorem sum145 (E : EV kd pl vl Q) (h : RE kd pl vl Q v S0 Sb cb c p l T S) (K : Int32 → Int32 → Mem → Option Mem) (x1 : Int32) : f_Mo_expression_b145 K x1 S = f_Mo_expression_b186 K x1 (if p.1.1 = 0 ∧ isSn (kd p.1.2) then 1 else 0) S := by
  unfold f_Mo_expression_b145
  rw [show (8 : Int32) = mkK 43 from by decide, h.is E (by decide), bind_e, show (9 : Int32) = mkK 45 from by decide, h.is E (by decide), bind_e, show (10 : Int32) = mkK 42 from by decide, h.is E (by decide), bind_e, show (15 : Int32) = mkK 47 from by decide, h.is E (by decide), bind_e]
  have one : ∀ P : Prop, [Decidable P] → P → (if P then (1 : Int32) else 0) = 1 := fun P _ hP => if_pos hP
  have non : ∀ P : Prop, [Decidable P] → ¬ P → (if P then (1 : Int32) else 0) = 0 := fun P _ hP => if_neg hP
  by_cases q : p.1.1 = 0
  · by_cases a : kd p.1.2 = 43
    · rw [one _ ⟨q, a⟩, i10, one _ ⟨q, Or.inl a⟩]
    rw [non (p.1.1 = 0 ∧ kd p.1.2 = 43) (fun z => a z.2), i00]
    by_cases b : kd p.1.2 = 45
    · rw [one _ ⟨q, b⟩, i10, one _ ⟨q, Or.inr (Or.inl b)⟩]
    rw [non (p.1.1 = 0 ∧ kd p.1.2 = 45) (fun z => b z.2), i00]
    by_cases d : kd p.1.2 = 42
    · rw [one _ ⟨q, d⟩, i10, one _ ⟨q, Or.inr (Or.inr (Or.inl d))⟩]
    rw [non (p.1.1 = 0 ∧ kd p.1.2 = 42) (fun z => d z.2), i00]
    by_cases e : kd p.1.2 = 47
    · rw [one _ ⟨q, e⟩, i10, one _ ⟨q, Or.inr (Or.inr (Or.inr e))⟩]
    rw [non (p.1.1 = 0 ∧ kd p.1.2 = 47) (fun z => e z.2), i00, non _ (fun z => z.2.elim a (fun z => z.elim b (fun z => z.elim d e)))]
  · rw [non (p.1.1 = 0 ∧ kd p.1.2 = 43) (fun z => q z.1), non (p.1.1 = 0 ∧ kd p.1.2 = 45) (fun z => q z.1), non (p.1.1 = 0 ∧ kd p.1.2 = 42) (fun z => q z.1), non (p.1.1 = 0 ∧ kd p.1.2 = 47) (fun z => q z.1), non _ (fun z => q z.1)]
    rfl
/-- the end of a sum -/
theorem sumEnd (E : EV kd pl vl Q) (h : RE kd pl vl Q v S0 Sb cb c p l T S) {y : List Int32 × Cd} (hy : YM cb y S) (ho : yOk y.1) (hl : y.1.length ≤ 64) (h1 : 420 * (1 - v) ≤ cb) (h2 : cb + y.2.length + y.1.length ≤ 420 * (1 - v) + 420) (K : Int32 → Int32 → Mem → Option Mem) {x1 : Int32} : Ok (fun S' => RE kd pl vl Q v S0 Sb cb c (if S.1 0 12 ≤ x1 then p else if p.1.1 = 0 then ((1, p.1.2), p.2) else p) l T S' ∧ YM cb (yPop 1 y.1 y.2) S' ∧ S'.1 0 12 = S.1 0 12) (f_Mo_expression_b186 K x1 0 S) := by
  unfold f_Mo_expression_b186
  rw [if_pos rfl]
  unfold f_Mo_expression_b204
  by_cases q : S.1 0 12 ≤ x1
  · rw [if_pos q, if_pos q]
    exact (show Ok _ (f_Mo_comesOut 0 S) from RE.out (x := 1) (Or.inl rfl) h1 y.1 y.2 5000 S h hy ho hl h2 (by omega)).b (fun S1 g => Ok.i g)
  · rw [if_neg q, if_neg q]
    refine (show Ok _ (f_Mo_fail 1 S) from h.fail (e := 1) E (Or.inl rfl)).b (fun S1 g1 => ?_)
    refine (show Ok _ (f_Mo_comesOut 0 S1) from RE.out (x := 1) (Or.inl rfl) h1 y.1 y.2 5000 S1 g1.1 (hy.pf g1.2) ho hl h2 (by omega)).b (fun S2 g => Ok.i ⟨g.1, g.2.1, ?_⟩)
    rw [g.2.2, g1.2.1 12 (by unfold reg; omega)]
theorem sumBf (E : EV kd pl vl Q) (h : RE kd pl vl Q v S0 Sb cb c p l T S) (h0 : ¬ p.1.1 = 0) {y : List Int32 × Cd} (hy : YM cb y S) (ho : yOk y.1) (hl : y.1.length ≤ 64) (h1 : 420 * (1 - v) ≤ cb) (h2 : cb + y.2.length + y.1.length ≤ 420 * (1 - v) + 420) (K : Int32 → Int32 → Mem → Option Mem) (m : Nat) {x1 : Int32} : Ok (fun S' => RE kd pl vl Q v S0 Sb cb c p l T S' ∧ YM cb (yPop 1 y.1 y.2) S') (f_Mo_expression_l96 K (m + 1) x1 S) := by
  show Ok _ (f_Mo_expression_b96 K (f_Mo_expression_l96 K m) x1 S)
  unfold f_Mo_expression_b96
  rw [show (7 : Int32) = mkK 41 from by decide, h.is E (by decide), bind_e, show (if p.1.1 = 0 ∧ kd p.1.2 = 41 then (1 : Int32) else 0) = 0 from if_neg (fun z => h0 z.1), i00, sum145 E h, if_neg (fun z => h0 z.1)]
  refine (sumEnd E h hy ho hl h1 h2 K).m (fun S' g => ⟨?_, g.2.1⟩)
  have := g.1
  rw [if_neg h0] at this
  split at this <;> exact this
