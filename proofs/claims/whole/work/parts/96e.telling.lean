/-! READ: the reference's tells, one by one. -/
variable {kd : Nat → Int32} {pl vl : Nat → Nat} {Q v : Nat} {S0 Sb : Mem} {c : Nat → Nat} {p p' : PS} {l : NLt} {T : TX} {S S' : Mem}
/-- nothing of laws is changed -/
def LK (S S' : Mem) : Prop := (S'.1 0 42 = S.1 0 42 ∧ S'.1 0 48 = S.1 0 48 ∧ S'.1 0 12 = S.1 0 12) ∧ ∀ f, 40 ≤ f → f ≤ 50 → S'.2.1 0 f = S.2.1 0 f
theorem LK.rf (S : Mem) : LK S S := ⟨⟨rfl, rfl, rfl⟩, fun _ _ _ => rfl⟩
theorem LK.pf (h : LK Sb S) (hf : PF S S') : LK Sb S' := by
  unfold LK
  rw [hf.1 42 (by unfold reg; omega), hf.1 48 (by unfold reg; omega), hf.1 12 (by unfold reg; omega), hf.2]; exact h
theorem LK.a (h : LK Sb S) {f : Nat} (hf : f < 40) (i x : Int32) : LK Sb (sA S 0 f i x) := ⟨h.1, fun f' a b => by rw [sA_2, if_neg (by omega)]; exact h.2 f' a b⟩
def RY (kd : Nat → Int32) (pl vl : Nat → Nat) (Q v : Nat) (S0 Sb : Mem) (c : Nat → Nat) (p : PS) (l : NLt) (T : TX) (S : Mem) : Prop := RQ kd pl vl Q v S0 c p l S ∧ LK Sb S ∧ txM (1 - v) S = T
theorem RY.pf (h : RY kd pl vl Q v S0 Sb c p l T S) (hf : PF S S') (hm : MP pl Q p' S') (hw : wOk p') : RY kd pl vl Q v S0 Sb c p' l T S' := ⟨h.1.pf hf hm hw, h.2.1.pf hf, (txM_e (by rw [hf.2])).trans h.2.2⟩
theorem RY.a (h : RY kd pl vl Q v S0 Sb c p l T S) (g : Nat) {i f m : Nat} (ef : faT g = f) (es : sdF f = m) (h1 : 1 ≤ g) (h9 : g ≤ 9) (hf : 25 ≤ f ∧ f ≤ 39 ∧ f ≠ 27 ∧ f ≠ 30 ∧ f ≠ 34) (hi : i < m) (x : Int32) : RY kd pl vl Q v S0 Sb c p l (upd2 T g i x) (sA S 0 f (nI (m * (1 - v) + i)) x) := by
  have hv := h.1.2.2.2.2.2.1
  have m12 : m ≤ 12 := by have := (faT_1 g h9 h1).2.2.2.2.2; rw [ef, es] at this; exact this
  refine ⟨?_, h.2.1.a (by omega) _ _, ?_⟩
  · rw [← es]; exact h.1.a hf (by omega) x
  · rw [← es, ← ef, txM_a (by omega) h1 h9 (by omega), h.2.2]
theorem RY.vv (h : RY kd pl vl Q v S0 Sb c p l T S) (j : Nat) {f : Nat} (ef : fcT j = f) (es : sdF f = 1) (hj : j ≤ 6) (hf : 37 ≤ f ∧ f ≤ 39) (x : Int32) : RY kd pl vl Q v S0 Sb c p l (upd2 T 0 j x) (sA S 0 f (nI (1 - v)) x) := by
  have hv := h.1.2.2.2.2.2.1
  refine ⟨?_, h.2.1.a (by omega) _ _, ?_⟩
  · have := h.1.a (f := f) (i := 0) (by omega) (by omega) x
    rw [es, Nat.one_mul, Nat.add_zero] at this; exact this
  · rw [← ef, txM_c (by omega) hj, h.2.2]
def cjN (j : Nat) (c : Nat → Nat) : Nat → Nat := fun i => if i = j then c i + 1 else c i
def mst (j : Nat) : Nat := [4, 7, 8, 12].getD j 0
theorem fcT_v : fcT 0 = 24 ∧ fcT 1 = 27 ∧ fcT 2 = 30 ∧ fcT 3 = 34 := by decide
theorem RY.n (h : RY kd pl vl Q v S0 Sb c p l T S) {j f : Nat} (ef : fcT j = f) (hj : j ≤ 3) (hm : c j < mst j) : RY kd pl vl Q v S0 Sb (cjN j c) p l (upd2 T 0 j (nI (c j + 1))) (sA S 0 f (nI (1 - v)) (nI (c j + 1))) := by
  obtain ⟨⟨h1, h2, h3, h4, h5, h6, h7, h8⟩, hk, ht⟩ := h
  have f1 := fcT_1 j (by omega)
  have fb : ∀ j, j ≤ 3 → 24 ≤ fcT j ∧ fcT j ≤ 34 := by decide
  have fb := fb j hj
  rw [ef] at f1 fb
  refine ⟨⟨h1.e (fun _ _ => rfl), h2, ?_, h4.tr ?_, h5, h6, fun i hi => ?_, ?_⟩, hk.a (by omega) _ _, ?_⟩
  · unfold MN
    rw [sA_1, sA_2, if_neg (by omega), sA_2, if_neg (by omega), sA_3]; exact h3
  · have := LVm.s (S := S) (f := f) (i := 0) h6 (by omega) (by omega) (nI (c j + 1))
    rw [f1.2.2.2.1, Nat.one_mul, Nat.add_zero] at this; exact this
  · rw [sA_2, if_neg (by omega), sA_2, if_neg (by omega), sA_2, if_neg (by omega), sA_3]; exact h7 i hi
  · obtain ⟨⟨a1, b1⟩, ⟨a2, b2⟩, ⟨a3, b3⟩, a4, b4⟩ := h8
    unfold cnM cjN
    have e : (nI (1 - v)).toNatClampNeg = 1 - v := cl (by omega)
    rcases (show j = 0 ∨ j = 1 ∨ j = 2 ∨ j = 3 by omega) with rfl | rfl | rfl | rfl
    all_goals
      have ef' : f = _ := ef.symm
      simp only [fcT_v] at ef'
      subst ef'
      simp only [sA_2, e, upd_at, and_true, if_true, true_and]
      have hm' := hm
      simp [mst] at hm' 
      simp [a1, a2, a3, a4, b1, b2, b3, b4]
      omega
  · rw [← ef, txM_c (by omega) (by omega), ht]
theorem RY.must (E : EV kd pl vl Q) (h : RY kd pl vl Q v S0 Sb c p l T S) {k : Int32} (hk : k ∈ kinds) (hk0 : ¬ (k = 0 ∨ k = 1)) : Ok (fun S' => RY kd pl vl Q v S0 Sb c (tk kd k p.1, p.2) l T S') (f_Mo_must (mkK k) S) :=
  (Mo_must E.1 E.2.1 h.1.2.2.2.2.2.2.1 h.1.1 hk hk0).m (fun _ z => h.pf z.1 z.2 h.1.2.1.t)
theorem RY.bounded (E : EV kd pl vl Q) (h : RY kd pl vl Q v S0 Sb c p l T S) {lo hi : Nat} (hlo : lo ≤ 9999) (hhi : hi ≤ 9999) : Ok (fun z : Int32 × Mem => RY kd pl vl Q v S0 Sb c (bdS kd vl lo hi p) l T z.2 ∧ (p.1.1 = 0 → kd p.1.2 = 48 → z.1 = nI (vl p.1.2))) (f_Mo_bounded (nI lo) (nI hi) S) := by
  obtain ⟨h1, h2⟩ := Mo_bounded E.1 E.2.1 E.2.2.1 E.2.2.2.1 h.1.2.2.2.2.2.2.1 E.2.2.2.2.1 h.1.1 h.1.2.1 hlo hhi
  exact h1.m (fun z y => ⟨h.pf y.1 y.2.1 h2, y.2.2⟩)
theorem RY.named (E : EV kd pl vl Q) (h : RY kd pl vl Q v S0 Sb c p l T S) : Ok (fun z : Int32 × Mem => RY kd pl vl Q v S0 Sb c (nwS kd vl l p) l T z.2 ∧ (p.1.1 = 0 → z.1 = nI p.1.2)) (f_Mo_named S) :=
  (Mo_named E.1 E.2.1 E.2.2.1 E.2.2.2.1 h.1.2.2.2.2.2.2.1 E.2.2.2.2.2 h.1.2.2.1 h.1.1 h.1.2.1).m (fun z y => ⟨h.pf y.1 y.2.1 (nwS_w h.1.2.1), y.2.2⟩)
theorem fd_at {s x n k : Nat} (h1 : ∀ j, j < k → ¬ ((l.2 j).1 = x ∧ (s = 3 ∨ (l.2 j).2.1 = s))) (h2 : k < n → (l.2 k).1 = x ∧ (s = 3 ∨ (l.2 k).2.1 = s)) (hk : k ≤ n) : fdN l s x n = k := by
  have b := runF_b (Q := fun j => ¬ ((l.2 j).1 = x ∧ (s = 3 ∨ (l.2 j).2.1 = s))) n 0
  unfold fdN
  rcases Nat.lt_trichotomy (runF (fun j => ¬ ((l.2 j).1 = x ∧ (s = 3 ∨ (l.2 j).2.1 = s))) n 0) k with z | z | z
  · exact absurd (Classical.not_not.mp (runF_s (Q := fun j => ¬ ((l.2 j).1 = x ∧ (s = 3 ∨ (l.2 j).2.1 = s))) (L := n) n 0 rfl (by omega))) (h1 _ z)
  · exact z
  · exact absurd (h2 (by omega)) (runF_in (Q := fun j => ¬ ((l.2 j).1 = x ∧ (s = 3 ∨ (l.2 j).2.1 = s))) n 0 k (by omega) z)
theorem RY.known (E : EV kd pl vl Q) (h : RY kd pl vl Q v S0 Sb c p l T S) {s : Nat} (hs : s ≤ 1) : Ok (fun z : Int32 × Mem => RY kd pl vl Q v S0 Sb c (odS kd vl l s p) l T z.2 ∧ ((tk kd 97 p.1).1 = 0 → z.1 = odV vl l s p)) (f_Mo_known (nI s) S) := by
  unfold f_Mo_known f_Mo_known_b0
  rw [letS_e]
  refine (show Ok _ (f_Mo_must 1 S) from h.must (k := 97) E (by decide) (by decide)).b (fun S1 hS1 => ?_)
  have M1 := hS1.1.1
  have N1 := hS1.1.2.2.1
  have T1 := hS1.1.2.2.2.2.2.2.1
  have hq := E.1.1
  have n19 := N1.2.1
  by_cases z0 : (tk kd 97 p.1).1 = 0
  · obtain ⟨q0, q1, q2, q3⟩ := tk_0 z0
    have tQ : p.1.2 ≤ Q := h.1.1.1
    have xb := E.2.2.2.2.2 _ tQ q1
    rw [(h.1.1.2.2.1 q0).2, (M1.2.2.1 z0).1, if_pos (show (0 : Int32) ≤ 0 by decide)]
    refine lpN (P := fun m k => (∀ j, j < k → ¬ ((l.2 j).1 = vl p.1.2 ∧ (s = 3 ∨ (l.2 j).2.1 = s))) → Ok (fun z : Int32 × Mem => RY kd pl vl Q v S0 Sb c (odS kd vl l s p) l T z.2 ∧ ((tk kd 97 p.1).1 = 0 → z.1 = odV vl l s p)) (f_Mo_known_l21 m (nI s) (nI p.1.2) (nI k) S1)) l.1 (fun m k hk ih g => ?_) (fun m g => ?_) 5000 0 (by omega) (by omega) (fun j hj => absurd hj (by omega))
    · show Ok _ (f_Mo_known_b21 (f_Mo_known_l21 m) (nI s) (nI p.1.2) (nI k) S1)
      obtain ⟨a1, a2, a3, a4, a5, a6⟩ := N1.2.2 k hk
      simp only [f_Mo_known_b21, N1.1, if_neg (le_nI (show ¬ l.1 ≤ k by omega) (by omega) (by omega)), gIn_n (show k < 19 by omega) (by decide), gIn_n (show p.1.2 < 403 by omega) (by decide), cl (show k < 4096 by omega), cl (show p.1.2 < 4096 by omega), a1, a2, a3, (T1 _ tQ).2.2.1 q1, lg_cmp_eq, pk_lEQ (show (l.2 k).1 < 2 ^ 63 by omega) (show vl p.1.2 < 2 ^ 63 by omega), nI_1]
      have no : ¬ ((l.2 k).1 = vl p.1.2 ∧ (s = 3 ∨ (l.2 k).2.1 = s)) → Ok (fun z : Int32 × Mem => RY kd pl vl Q v S0 Sb c (odS kd vl l s p) l T z.2 ∧ ((tk kd 97 p.1).1 = 0 → z.1 = odV vl l s p)) (f_Mo_known_l21 m (nI s) (nI p.1.2) (nI (k + 1)) S1) := fun w => ih (fun j hj => by
        by_cases e : j = k
        · rw [e]; exact w
        · exact g j (by omega))
      by_cases y : (l.2 k).1 = vl p.1.2
      · rw [if_pos y]
        by_cases y2 : (l.2 k).2.1 = s
        · rw [if_pos (by rw [y2])]
          have ef : fdN l s (vl p.1.2) l.1 = k := fd_at g (fun _ => ⟨y, Or.inr y2⟩) (by omega)
          refine Ok.i ⟨?_, fun _ => ?_⟩
          · have : odS kd vl l s p = (tk kd 97 p.1, p.2) := by unfold odS; rw [if_neg (fun w => w.2 (by rw [ef]; exact hk))]
            rw [this]; exact hS1
          · unfold odV; rw [if_pos (by rw [ef]; exact hk), ef]
        · rw [if_neg (fun w => y2 ((nI_eq (by omega) (by omega)).mp w))]
          exact no (fun w => y2 (w.2.resolve_left (by omega)))
      · rw [if_neg y]
        exact no (fun w => y w.1)
    · show Ok _ (f_Mo_known_b21 (f_Mo_known_l21 m) (nI s) (nI p.1.2) (nI l.1) S1)
      simp only [f_Mo_known_b21, N1.1, if_pos (le_rf _)]
      have ef : fdN l s (vl p.1.2) l.1 = l.1 := fd_at g (fun w => absurd w (by omega)) (by omega)
      refine (Mo_wrong (k := 4) E.1.1 E.2.2.1 E.2.2.2.1 T1 M1 (by omega) tQ (fun _ w => Or.inl (h.1.2.1 q0 w))).b (fun S3 h3 => ?_)
      refine Ok.i ⟨?_, fun _ => ?_⟩
      · have e : odS kd vl l s p = (tk kd 97 p.1, (wrS 4 p.1.2 (tk kd 97 p.1, p.2)).2) := by unfold odS; rw [if_pos ⟨z0, by rw [ef]; omega⟩]
        have e2 : (tk kd 97 p.1, (wrS 4 p.1.2 (tk kd 97 p.1, p.2)).2) = wrS 4 p.1.2 (tk kd 97 p.1, p.2) := Prod.ext (wrS_1 4 p.1.2 (tk kd 97 p.1, p.2)).symm rfl
        refine hS1.pf h3.1 ?_ (odS_w h.1.2.1)
        rw [e, e2]; exact h3.2
      · unfold odV; rw [if_neg (by rw [ef]; omega)]
  · have le2 := M1.2.1
    rw [(M1.2.2.2.1 z0).1, if_neg (nI_nle (by show 0 < (tk kd 97 p.1).1; omega) (by show (tk kd 97 p.1).1 < _; have : (tk kd 97 p.1).1 ≤ 2 := le2; omega))]
    refine Ok.i ⟨?_, fun w => absurd w z0⟩
    have : odS kd vl l s p = (tk kd 97 p.1, p.2) := by unfold odS; rw [if_neg (fun w => z0 w.1)]
    rw [this]; exact hS1
/-- one more name -/
def notS (l : NLt) (x s i : Nat) : NLt := (l.1 + 1, fun j => if j = l.1 then (x, s, i) else l.2 j)
theorem RY.notes (E : EV kd pl vl Q) (h : RY kd pl vl Q v S0 Sb c p l T S) (hl : l.1 < 19) {tok s i : Nat} (ht : tok ≤ Q) (hk : kd tok = 97) (hs : s ≤ 2) (hi : i ≤ 20) : Ok (fun S' => RY kd pl vl Q v S0 Sb c p (notS l (vl tok) s i) T S') (f_Mo_notes (nI tok) (nI s) (nI i) S) := by
  obtain ⟨⟨h1, h2, h3, h4, h5, h6, h7, h8⟩, hk2, htx⟩ := h
  have hq := E.1.1
  have e20 := h3.1
  unfold f_Mo_notes f_Mo_notes_b0
  rw [gIn_n (show tok < 403 by omega) (by decide), e20, gIn_n (show l.1 < 19 by omega) (by decide), letS_e]
  rw [show (sL S 0 21 (nI l.1) (S.2.2 0 8 (nI tok).toNatClampNeg)).1 0 20 = nI l.1 from e20, gIn_n (show l.1 < 19 by omega) (by decide), letS_e]
  rw [show (sA (sL S 0 21 (nI l.1) (S.2.2 0 8 (nI tok).toNatClampNeg)) 0 22 (nI l.1) (nI s)).1 0 20 = nI l.1 from e20, gIn_n (show l.1 < 19 by omega) (by decide), letS_e]
  rw [show (sA (sA (sL S 0 21 (nI l.1) (S.2.2 0 8 (nI tok).toNatClampNeg)) 0 22 (nI l.1) (nI s)) 0 23 (nI l.1) (nI i)).1 0 20 = nI l.1 from e20, letS_e, nI_1, cl (show tok < 4096 by omega), (h7 tok ht).2.2.1 hk]
  refine Ok.i ⟨⟨h1.e (fun k hk => ?_), h2, ⟨rfl, hl, fun j hj => ?_⟩, h4.tr (((LVm.l (nI l.1) (lN (vl tok))).tr (LVm.w (Or.inl rfl) (nI l.1) (nI s))).tr ((LVm.w (Or.inr (Or.inl rfl)) (nI l.1) (nI i)).tr (LVm.i (by unfold frI; omega) _))), h5, h6, fun j hj => ?_, h8⟩, ⟨hk2.1, fun f a b => ?_⟩, ?_⟩
  · unfold reg at hk
    rw [pI_1, if_neg (by omega)]; rfl
  · have hj : j < l.1 + 1 := hj
    have eL : ∀ M : Mem, (pI (sA (sA M 0 22 (nI l.1) (nI s)) 0 23 (nI l.1) (nI i)) 0 20 (nI (l.1 + 1))).2.2 0 21 j = M.2.2 0 21 j := fun _ => rfl
    have e22 : ∀ M : Mem, (pI (sA (sA M 0 22 (nI l.1) (nI s)) 0 23 (nI l.1) (nI i)) 0 20 (nI (l.1 + 1))).2.1 0 22 j = upd (M.2.1 0 22) (nI l.1).toNatClampNeg (nI s) j := fun _ => rfl
    have e23 : ∀ M : Mem, (pI (sA (sA M 0 22 (nI l.1) (nI s)) 0 23 (nI l.1) (nI i)) 0 20 (nI (l.1 + 1))).2.1 0 23 j = upd (M.2.1 0 23) (nI l.1).toNatClampNeg (nI i) j := fun _ => rfl
    rw [eL, e22, e23, sL_3, if_pos ⟨rfl, rfl⟩, updL_at, sL_2, cl (show l.1 < 4096 by omega), upd_at, upd_at]
    show _ = lN (notS l (vl tok) s i |>.2 j).1 ∧ _
    unfold notS
    by_cases e : j = l.1
    · simp only [if_pos e]
      exact ⟨trivial, trivial, trivial, E.2.2.2.2.2 _ ht hk, hs, hi⟩
    · simp only [if_neg e]
      exact h3.2.2 j (by omega)
  · exact h7 j hj
  · rw [pI_2, sA_2, if_neg (by omega), sA_2, if_neg (by omega), sL_2]; exact hk2.2 f a b
  · rw [← htx]
    rw [show ∀ (M : Mem) k x, txM (1 - v) (pI M 0 k x) = txM (1 - v) M from fun _ _ _ => rfl, txM_w (by omega), txM_w (by omega)]; rfl
