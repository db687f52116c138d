/-! READ: the reference's sums, whole. -/
variable {kd : Nat → Int32} {pl vl : Nat → Nat} {Q v cb : Nat} {S0 Sb : Mem} {c : Nat → Nat} {p p' : PS} {l : NLt} {T : TX} {S S' : Mem}
theorem RE.hv (h : RE kd pl vl Q v S0 Sb cb c p l T S) : v < 2 := h.1.2.2.2.2.2.1
theorem RE.f0 (h : RE kd pl vl Q v S0 Sb cb c p l T S) (z : p.1.1 = 0) : S.1 0 13 = 0 := (h.1.1.2.2.1 z).1
theorem RE.t0 (h : RE kd pl vl Q v S0 Sb cb c p l T S) (z : p.1.1 = 0) : S.1 0 11 = nI p.1.2 := (h.1.1.2.2.1 z).2
theorem RE.f1 (h : RE kd pl vl Q v S0 Sb cb c p l T S) (z : ¬ p.1.1 = 0) : ¬ S.1 0 13 ≤ 0 ∧ ¬ S.1 0 13 = 0 ∧ 0 < S.1 0 13 := by
  have h2 := h.1.1.2.1
  rw [(h.1.1.2.2.2.1 z).1]
  exact ⟨nI_nle (by omega) (by omega), nI_ne0 (by omega) (by omega), nI_lt (a := 0) (by omega) (by omega)⟩
theorem RE.tQ (h : RE kd pl vl Q v S0 Sb cb c p l T S) : p.1.2 ≤ Q := h.1.1.1
theorem RE.wk (h : RE kd pl vl Q v S0 Sb cb c p l T S) : wOk p := h.1.2.1
theorem RE.tkk (h : RE kd pl vl Q v S0 Sb cb c p l T S) : TK kd pl vl Q S := h.1.2.2.2.2.2.2.1
theorem RE.goes (E : EV kd pl vl Q) (h : RE kd pl vl Q v S0 Sb cb c p l T S) (h0 : p.1.1 = 0) (hk : ¬ (kd p.1.2 = 0 ∨ kd p.1.2 = 1)) : Ok (fun S' => RE kd pl vl Q v S0 Sb cb c (gOn p.1, p.2) l T S' ∧ PF S S') (f_Mo_goesOn S) :=
  (Mo_goesOn E.1 h.tkk h.1.1 h0 hk).m (fun _ z => ⟨h.pf z.1 z.2 (by rw [gOn_tk (kd := kd)]; exact h.wk.t), z.1⟩)
theorem RE.fail (E : EV kd pl vl Q) (h : RE kd pl vl Q v S0 Sb cb c p l T S) {e : Nat} (he : e = 1 ∨ e = 2) : Ok (fun S' => RE kd pl vl Q v S0 Sb cb c (if p.1.1 = 0 then ((e, p.1.2), p.2) else p) l T S' ∧ PF S S') (f_Mo_fail (nI e) S) :=
  (Mo_fail E.1.1 h.tkk h.1.1 he).m (fun _ z => ⟨h.pf z.1 z.2 (by
    by_cases q : p.1.1 = 0
    · rw [if_pos q]; intro w; exact absurd (show e = 0 from w) (by omega)
    · rw [if_neg q]; exact h.wk), z.1⟩)
theorem RE.goesF (E : EV kd pl vl Q) (h : RE kd pl vl Q v S0 Sb cb c p l T S) (h0 : ¬ p.1.1 = 0) : Ok (fun S' => RE kd pl vl Q v S0 Sb cb c p l T S' ∧ PF S S') (f_Mo_goesOn S) := by
  unfold f_Mo_goesOn f_Mo_goesOn_b0
  by_cases q : S.1 0 11 = 400
  · rw [if_pos q]
    refine (h.fail (e := 2) E (Or.inr rfl)).b (fun S1 h1 => ?_)
    rw [if_neg h0] at h1
    exact Ok.i h1
  · rw [if_neg q, letS_e]
    have f : PF S (pI S 0 11 (S.1 0 11 + 1)) := (PF.rf S).p (by unfold reg; omega) _
    have m : MP pl Q p (pI S 0 11 (S.1 0 11 + 1)) := by
      obtain ⟨h1, h2, h3, h4, h5⟩ := h.1.1
      exact ⟨h1, h2, fun z => absurd z h0, h4, h5⟩
    exact Ok.i ⟨h.pf f m h.wk, f⟩
theorem RE.is (E : EV kd pl vl Q) (h : RE kd pl vl Q v S0 Sb cb c p l T S) {k : Int32} (hk : k ∈ kinds) : f_Mo_is (mkK k) S = some (if p.1.1 = 0 ∧ kd p.1.2 = k then 1 else 0) := Mo_is E.1.1 E.2.1 h.tkk h.1.1 hk
theorem RE.must (E : EV kd pl vl Q) (h : RE kd pl vl Q v S0 Sb cb c p l T S) {k : Int32} (hk : k ∈ kinds) (hk0 : ¬ (k = 0 ∨ k = 1)) : Ok (fun S' => RE kd pl vl Q v S0 Sb cb c (tk kd k p.1, p.2) l T S' ∧ PF S S') (f_Mo_must (mkK k) S) :=
  (Mo_must E.1 E.2.1 h.tkk h.1.1 hk hk0).m (fun _ z => ⟨h.pf z.1 z.2 h.wk.t, z.1⟩)
theorem vl_k : ∀ k, k ∈ kinds → ¬ k = 48 → ((¬ k < 142 ∧ ¬ 149 < k) ↔ (¬ mkK k < 34 ∧ ¬ 41 < mkK k)) ∧ (¬ mkK k = 2) ∧ ((¬ k < 142 ∧ ¬ 149 < k) → mkK k - 34 = k - 142) := by decide +kernel
/-- a value, where there is one -/
theorem RE.unit (E : EV kd pl vl Q) (h : RE kd pl vl Q v S0 Sb cb c p l T S) {o : Nat} {y : List Int32 × Cd} (hy : YM cb y S) (hi : yI o true y) (ho : o ≤ 6) (h1 : 420 * (1 - v) ≤ cb) (h2 : cb + y.2.length < 420 * (1 - v) + 420) (h0 : p.1.1 = 0) (hv : isVl (kd p.1.2)) : Ok (fun S' => RE kd pl vl Q v S0 Sb cb c (gOn p.1, p.2) l T S' ∧ YM cb (yOne (kd p.1.2) (vl p.1.2) y) S' ∧ S'.1 0 12 = S.1 0 12) (f_Mo_unit S) := by
  have tQ := h.tQ
  have hq := E.1.1
  have hkk := E.2.1 _ tQ
  unfold f_Mo_unit f_Mo_unit_b0
  rw [show (2 : Int32) = mkK 48 from by decide, h.is E (by decide), bind_e]
  by_cases q : kd p.1.2 = 48
  · rw [show (if p.1.1 = 0 ∧ kd p.1.2 = 48 then (1 : Int32) else 0) = 1 from if_pos ⟨h0, q⟩, i10, h.t0 h0, gIn_n (show p.1.2 < 403 by omega) (by decide), cl (show p.1.2 < 4096 by omega), (h.tkk _ tQ).2.2.2 q]
    refine (show Ok _ (f_Mo_emit 0 (nI (vl p.1.2)) S) from h.emit (W := y.1) (C := y.2) (k := 0) (b := nI (vl p.1.2)) hy h1 h2).b (fun S1 z1 => ?_)
    refine (z1.1.goes E h0 (by rw [q]; decide)).b (fun S2 z2 => Ok.i ⟨z2.1, ?_, ?_⟩)
    · rw [q]
      exact z1.2.1.pf z2.2
    · rw [z2.2.1 12 (by unfold reg; omega), z1.2.2]
  · obtain ⟨v1, v2, v3⟩ := vl_k _ hkk q
    have hv2 := hv.resolve_left q
    have w := v1.mp hv2
    rw [show (if p.1.1 = 0 ∧ kd p.1.2 = 48 then (1 : Int32) else 0) = 0 from if_neg (fun z => q z.2), i00, if_pos (h.f0 h0), h.t0 h0, gIn_n (show p.1.2 < 403 by omega) (by decide), gIn_n (show p.1.2 < 403 by omega) (by decide), gIn_n (show p.1.2 < 403 by omega) (by decide), cl (show p.1.2 < 4096 by omega), (h.tkk _ tQ).1, if_neg w.1, if_neg w.2, v3 hv2]
    refine (show Ok _ (f_Mo_emit 1 (kd p.1.2 - 142) S) from h.emit (W := y.1) (C := y.2) (k := 1) (b := kd p.1.2 - 142) hy h1 h2).b (fun S1 z1 => ?_)
    have nk : ¬ (kd p.1.2 = 0 ∨ kd p.1.2 = 1) := fun z => hv2.1 (by rcases z with z | z <;> (rw [z]; decide))
    refine (z1.1.goes E h0 nk).b (fun S2 z2 => Ok.i ⟨z2.1, ?_, ?_⟩)
    · rw [(hi.vari ho hv2.1 hv2.2 (vl p.1.2)).2]
      exact z1.2.1.pf z2.2
    · rw [z2.2.1 12 (by unfold reg; omega), z1.2.2]
theorem RE.unitN (E : EV kd pl vl Q) (h : RE kd pl vl Q v S0 Sb cb c p l T S) (hv : p.1.1 = 0 → ¬ isVl (kd p.1.2)) : Ok (fun S' => RE kd pl vl Q v S0 Sb cb c (if p.1.1 = 0 then ((1, p.1.2), p.2) else p) l T S' ∧ PF S S') (f_Mo_unit S) := by
  have tQ := h.tQ
  have hq := E.1.1
  have hkk := E.2.1 _ tQ
  unfold f_Mo_unit f_Mo_unit_b0 f_Mo_unit_b88
  rw [show (2 : Int32) = mkK 48 from by decide, h.is E (by decide), bind_e]
  have end' : Ok (fun S' => RE kd pl vl Q v S0 Sb cb c (if p.1.1 = 0 then ((1, p.1.2), p.2) else p) l T S' ∧ PF S S') (Option.bind (f_Mo_fail 1 S) (fun q90 => some q90)) := (show Ok _ (f_Mo_fail 1 S) from h.fail (e := 1) E (Or.inl rfl)).b (fun S1 h1 => Ok.i h1)
  by_cases h0 : p.1.1 = 0
  · have hv := hv h0
    have q : ¬ kd p.1.2 = 48 := fun z => hv (Or.inl z)
    obtain ⟨v1, v2, v3⟩ := vl_k _ hkk q
    have nv : ¬ (¬ kd p.1.2 < 142 ∧ ¬ 149 < kd p.1.2) := fun z => hv (Or.inr z)
    rw [show (if p.1.1 = 0 ∧ kd p.1.2 = 48 then (1 : Int32) else 0) = 0 from if_neg (fun z => q z.2), i00, if_pos (h.f0 h0), h.t0 h0, gIn_n (show p.1.2 < 403 by omega) (by decide), gIn_n (show p.1.2 < 403 by omega) (by decide), cl (show p.1.2 < 4096 by omega), (h.tkk _ tQ).1]
    by_cases w : mkK (kd p.1.2) < 34
    · rw [if_pos w]; exact end'
    · rw [if_neg w, if_pos (Classical.byContradiction (fun w2 => nv (v1.mpr ⟨w, w2⟩)))]
      exact end'
  · rw [show (if p.1.1 = 0 ∧ kd p.1.2 = 48 then (1 : Int32) else 0) = 0 from if_neg (fun z => h0 z.1), i00, if_neg (h.f1 h0).2.1]
    exact end'
