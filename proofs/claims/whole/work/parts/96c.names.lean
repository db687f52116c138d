/-! READ: names, the reference. NL: how many names; name, sort and place of each. -/
abbrev NLt : Type := Nat × (Nat → Nat × Nat × Nat)
def MN (l : NLt) (S : Mem) : Prop := S.1 0 20 = nI l.1 ∧ l.1 ≤ 19 ∧ ∀ j, j < l.1 → S.2.2 0 21 j = lN (l.2 j).1 ∧ S.2.1 0 22 j = nI (l.2 j).2.1 ∧ S.2.1 0 23 j = nI (l.2 j).2.2 ∧ (l.2 j).1 < 2 ^ 62 ∧ (l.2 j).2.1 ≤ 2 ∧ (l.2 j).2.2 ≤ 20
theorem MN.pf {l : NLt} {S S' : Mem} (h : MN l S) (hf : PF S S') : MN l S' := by
  unfold MN
  rw [hf.1 20 (by unfold reg; omega), hf.2]; exact h
/-- the first of n names that is x and (with s) of that sort -/
def fdN (l : NLt) (s x n : Nat) : Nat := runF (fun j => ¬ ((l.2 j).1 = x ∧ (s = 3 ∨ (l.2 j).2.1 = s))) n 0
/-- a new name taken -/
def nwS (kd : Nat → Int32) (vl : Nat → Nat) (l : NLt) (p : PS) : PS :=
  (tk kd 97 p.1, if (tk kd 97 p.1).1 = 0 ∧ fdN l 3 (vl p.1.2) l.1 < l.1 then (wrS 3 p.1.2 (tk kd 97 p.1, p.2)).2 else p.2)
/-- an old name taken -/
def odS (kd : Nat → Int32) (vl : Nat → Nat) (l : NLt) (s : Nat) (p : PS) : PS :=
  (tk kd 97 p.1, if (tk kd 97 p.1).1 = 0 ∧ ¬ fdN l s (vl p.1.2) l.1 < l.1 then (wrS 4 p.1.2 (tk kd 97 p.1, p.2)).2 else p.2)
def odV (vl : Nat → Nat) (l : NLt) (s : Nat) (p : PS) : Int32 := if fdN l s (vl p.1.2) l.1 < l.1 then nI (l.2 (fdN l s (vl p.1.2) l.1)).2.2 else -1
theorem tk_0 {kd : Nat → Int32} {k : Int32} {z : Nat × Nat} (h : (tk kd k z).1 = 0) : z.1 = 0 ∧ kd z.2 = k ∧ z.2 < 400 ∧ tk kd k z = (0, z.2 + 1) := by
  unfold tk at h ⊢
  by_cases q : z.1 = 0
  · rw [if_pos q] at h ⊢
    by_cases q2 : kd z.2 = k
    · rw [if_pos q2] at h ⊢
      by_cases q3 : z.2 < 400
      · rw [if_pos q3]; exact ⟨q, q2, q3, rfl⟩
      · rw [if_neg q3] at h; exact absurd h (show ¬ (2 : Nat) = 0 by decide)
    · rw [if_neg q2] at h; exact absurd h (show ¬ (1 : Nat) = 0 by decide)
  · rw [if_neg q] at h; exact absurd h q
theorem wOk.w2 {kd : Nat → Int32} {k : Int32} {p : PS} (h : wOk p) (c : Nat) : wOk (tk kd k p.1, (wrS c p.1.2 (tk kd k p.1, p.2)).2) := fun z0 z => by
  obtain ⟨q0, q1, q2, q3⟩ := tk_0 z0
  have e2 : (tk kd k p.1).2 = p.1.2 + 1 := by rw [q3]
  show (wrS c p.1.2 (tk kd k p.1, p.2)).2.2 < (tk kd k p.1).2
  rw [e2]
  by_cases y2 : p.2.1 = 0
  · have : (wrS c p.1.2 (tk kd k p.1, p.2)).2 = (c, p.1.2) := by unfold wrS; rw [if_pos ⟨z0, y2⟩]
    rw [this]; exact Nat.lt_succ_self _
  · have : (wrS c p.1.2 (tk kd k p.1, p.2)).2 = p.2 := by unfold wrS; rw [if_neg (fun z => y2 z.2)]
    rw [this]; have := h q0 y2; omega
theorem nwS_w {kd : Nat → Int32} {vl : Nat → Nat} {l : NLt} {p : PS} (h : wOk p) : wOk (nwS kd vl l p) := by
  unfold nwS
  split
  · exact h.w2 3
  · exact h.t
theorem odS_w {kd : Nat → Int32} {vl : Nat → Nat} {l : NLt} {s : Nat} {p : PS} (h : wOk p) : wOk (odS kd vl l s p) := by
  unfold odS
  split
  · exact h.w2 4
  · exact h.t
theorem Mo_named {kd : Nat → Int32} {pl vl : Nat → Nat} {Q : Nat} {S : Mem} {p : PS} {l : NLt} (hQ : KQ kd Q) (hV : KV kd Q) (hP : PL pl Q) (hB : PB pl Q) (hT : TK kd pl vl Q S) (hX : ∀ i, i ≤ Q → kd i = 97 → vl i < 2 ^ 62) (hN : MN l S) (h : MP pl Q p S) (hw : wOk p) : Ok (fun z : Int32 × Mem => PF S z.2 ∧ MP pl Q (nwS kd vl l p) z.2 ∧ (p.1.1 = 0 → z.1 = nI p.1.2)) (f_Mo_named S) := by
  unfold f_Mo_named f_Mo_named_b0
  rw [letS_e]
  refine (show Ok _ (f_Mo_must 1 S) from Mo_must (k := 97) hQ hV hT h (by decide) (by decide)).b (fun S1 hS1 => ?_)
  obtain ⟨f1, m1⟩ := hS1
  have N1 := hN.pf f1
  have T1 := hT.pf f1
  have hq := hQ.1
  have e11 : p.1.1 = 0 → S.1 0 11 = nI p.1.2 := fun q => (h.2.2.1 q).2
  have n19 := N1.2.1
  generalize S.1 0 11 = tok at e11 ⊢
  by_cases z0 : (tk kd 97 p.1).1 = 0
  · obtain ⟨q0, q1, q2, q3⟩ := tk_0 z0
    have tQ : p.1.2 ≤ Q := h.1
    rw [e11 q0]
    have e97 : kd p.1.2 = 97 := q1
    have xb := hX _ tQ e97
    refine lpN (P := fun m k => ∀ S', PF S S' → MP pl Q (tk kd 97 p.1, (if fdN l 3 (vl p.1.2) k < k then (wrS 3 p.1.2 (tk kd 97 p.1, p.2)).2 else p.2)) S' → Ok (fun z : Int32 × Mem => PF S z.2 ∧ MP pl Q (nwS kd vl l p) z.2 ∧ (p.1.1 = 0 → z.1 = nI p.1.2)) (f_Mo_named_l12 m (nI p.1.2) (nI k) S')) l.1 (fun m k hk ih S' g1 g2 => ?_) (fun m S' g1 g2 => ?_) 5000 0 (by omega) (by omega) S1 f1 (by
      rw [if_neg (by omega)]; exact m1)
    · show Ok _ (f_Mo_named_b12 (f_Mo_named_l12 m) (nI p.1.2) (nI k) S')
      have N2 := hN.pf g1
      have T2 := hT.pf g1
      obtain ⟨a1, a2, a3, a4, a5, a6⟩ := N2.2.2 k hk
      have f0 := (g2.2.2.1 z0).1
      simp only [f_Mo_named_b12, N2.1, if_neg (le_nI (show ¬ l.1 ≤ k by omega) (by omega) (by omega)), f0, gIn_n (show k < 19 by omega) (by decide), gIn_n (show p.1.2 < 403 by omega) (by decide), cl (show k < 4096 by omega), cl (show p.1.2 < 4096 by omega), a1, (T2 _ tQ).2.2.1 e97, lg_cmp_eq, pk_lEQ (show (l.2 k).1 < 2 ^ 63 by omega) (show vl p.1.2 < 2 ^ 63 by omega), nI_1]
      rw [if_pos trivial]
      have stp : (fdN l 3 (vl p.1.2) (k + 1) < k + 1) ↔ (fdN l 3 (vl p.1.2) k < k ∨ (l.2 k).1 = vl p.1.2) := by
        constructor
        · intro y
          have bb := runF_s (Q := fun j => ¬ ((l.2 j).1 = vl p.1.2 ∧ ((3 : Nat) = 3 ∨ (l.2 j).2.1 = 3))) (L := k + 1) (k + 1) 0 rfl y
          have bb := (Classical.not_not.mp bb).1
          by_cases e : fdN l 3 (vl p.1.2) (k + 1) = k
          · right
            have : runF (fun j => ¬ ((l.2 j).1 = vl p.1.2 ∧ ((3 : Nat) = 3 ∨ (l.2 j).2.1 = 3))) (k + 1) 0 = k := e
            rw [this] at bb; exact bb
          · left
            refine Classical.byContradiction (fun w => ?_)
            have bd := runF_b (Q := fun j => ¬ ((l.2 j).1 = vl p.1.2 ∧ ((3 : Nat) = 3 ∨ (l.2 j).2.1 = 3))) k 0
            have ek : runF (fun j => ¬ ((l.2 j).1 = vl p.1.2 ∧ ((3 : Nat) = 3 ∨ (l.2 j).2.1 = 3))) k 0 = k := by
              have : ¬ runF (fun j => ¬ ((l.2 j).1 = vl p.1.2 ∧ ((3 : Nat) = 3 ∨ (l.2 j).2.1 = 3))) k 0 < k := w
              omega
            have := runF_in (Q := fun j => ¬ ((l.2 j).1 = vl p.1.2 ∧ ((3 : Nat) = 3 ∨ (l.2 j).2.1 = 3))) k 0 (fdN l 3 (vl p.1.2) (k + 1)) (by omega) (by rw [ek]; have : fdN l 3 (vl p.1.2) (k + 1) < k + 1 := y; omega)
            exact this ⟨bb, Or.inl rfl⟩
        · intro y
          refine Classical.byContradiction (fun w => ?_)
          have bd := runF_b (Q := fun j => ¬ ((l.2 j).1 = vl p.1.2 ∧ ((3 : Nat) = 3 ∨ (l.2 j).2.1 = 3))) (k + 1) 0
          have ek : runF (fun j => ¬ ((l.2 j).1 = vl p.1.2 ∧ ((3 : Nat) = 3 ∨ (l.2 j).2.1 = 3))) (k + 1) 0 = k + 1 := by
            have : ¬ runF (fun j => ¬ ((l.2 j).1 = vl p.1.2 ∧ ((3 : Nat) = 3 ∨ (l.2 j).2.1 = 3))) (k + 1) 0 < k + 1 := w
            omega
          have all := fun i (hi : i < k + 1) => runF_in (Q := fun j => ¬ ((l.2 j).1 = vl p.1.2 ∧ ((3 : Nat) = 3 ∨ (l.2 j).2.1 = 3))) (k + 1) 0 i (by omega) (by rw [ek]; exact hi)
          rcases y with y | y
          · have bb := (Classical.not_not.mp (runF_s (Q := fun j => ¬ ((l.2 j).1 = vl p.1.2 ∧ ((3 : Nat) = 3 ∨ (l.2 j).2.1 = 3))) (L := k) k 0 rfl y)).1
            exact all _ (by have : fdN l 3 (vl p.1.2) k < k := y; unfold fdN at this; omega) ⟨bb, Or.inl rfl⟩
          · exact all k (by omega) ⟨y, Or.inl rfl⟩
      by_cases y : (l.2 k).1 = vl p.1.2
      · rw [if_pos y]
        refine (Mo_wrong (k := 3) hQ.1 hP hB T2 g2 (by omega) tQ (fun _ w => ?_)).b (fun S3 h3 => ?_)
        · by_cases c : fdN l 3 (vl p.1.2) k < k
          · rw [if_pos c] at w ⊢
            by_cases y2 : p.2.1 = 0
            · have : (wrS 3 p.1.2 (tk kd 97 p.1, p.2)).2 = (3, p.1.2) := by unfold wrS; rw [if_pos ⟨z0, y2⟩]
              rw [this]; exact Or.inr ⟨rfl, Nat.le_refl _⟩
            · have : (wrS 3 p.1.2 (tk kd 97 p.1, p.2)).2 = p.2 := by unfold wrS; rw [if_neg (fun z => y2 z.2)]
              rw [this]; exact Or.inl (hw q0 y2)
          · rw [if_neg c] at w ⊢
            exact Or.inl (hw q0 w)
        · refine ih S3 (g1.tr h3.1) ?_
          rw [if_pos (stp.mpr (Or.inr y))]
          have := h3.2
          by_cases c : fdN l 3 (vl p.1.2) k < k
          · rw [if_pos c] at this
            by_cases y2 : p.2.1 = 0
            · have e1 : (wrS 3 p.1.2 (tk kd 97 p.1, p.2)).2 = (3, p.1.2) := by unfold wrS; rw [if_pos ⟨z0, y2⟩]
              rw [e1] at this ⊢
              have e2 : wrS 3 p.1.2 (tk kd 97 p.1, 3, p.1.2) = (tk kd 97 p.1, 3, p.1.2) := by unfold wrS; rw [if_neg (fun z => absurd z.2 (show ¬ (3 : Nat) = 0 by decide))]
              rw [e2] at this; exact this
            · have e1 : (wrS 3 p.1.2 (tk kd 97 p.1, p.2)).2 = p.2 := by unfold wrS; rw [if_neg (fun z => y2 z.2)]
              rw [e1] at this ⊢
              have e2 : wrS 3 p.1.2 (tk kd 97 p.1, p.2) = (tk kd 97 p.1, p.2) := by unfold wrS; rw [if_neg (fun z => y2 z.2)]
              rw [e2] at this; exact this
          · rw [if_neg c] at this
            rw [show (tk kd 97 p.1, (wrS 3 p.1.2 (tk kd 97 p.1, p.2)).2) = wrS 3 p.1.2 (tk kd 97 p.1, p.2) from Prod.ext (wrS_1 3 p.1.2 (tk kd 97 p.1, p.2)).symm rfl]
            exact this
      · rw [if_neg y]
        refine ih S' g1 ?_
        by_cases c : fdN l 3 (vl p.1.2) k < k
        · rw [if_pos c] at g2; rw [if_pos (stp.mpr (Or.inl c))]; exact g2
        · rw [if_neg c] at g2; rw [if_neg (fun z => (stp.mp z).elim c y)]; exact g2
    · show Ok _ (f_Mo_named_b12 (f_Mo_named_l12 m) (nI p.1.2) (nI l.1) S')
      simp only [f_Mo_named_b12, (hN.pf g1).1, if_pos (le_rf _)]
      refine Ok.i ⟨g1, ?_, fun _ => rfl⟩
      unfold nwS
      by_cases c : fdN l 3 (vl p.1.2) l.1 < l.1
      · rw [if_pos c] at g2; rw [if_pos ⟨z0, c⟩]; exact g2
      · rw [if_neg c] at g2; rw [if_neg (fun z => c z.2)]; exact g2
  · have en : nwS kd vl l p = (tk kd 97 p.1, p.2) := by unfold nwS; rw [if_neg (fun z => z0 z.1)]
    show Ok _ (f_Mo_named_b12 (f_Mo_named_l12 4999) tok 0 S1)
    unfold f_Mo_named_b12
    have f13 := (m1.2.2.2.1 z0).1
    have le2 := m1.2.1
    have c2 : (tk kd 97 p.1).1 ≤ 2 := le2
    have fin : Ok (fun z : Int32 × Mem => PF S z.2 ∧ MP pl Q (nwS kd vl l p) z.2 ∧ (p.1.1 = 0 → z.1 = nI p.1.2)) (some (tok, S1)) := Ok.i ⟨f1, by rw [en]; exact m1, e11⟩
    rw [if_neg (show ¬ S1.1 0 13 = 0 by rw [f13]; exact nI_ne0 (by show 0 < (tk kd 97 p.1).1; omega) (by show (tk kd 97 p.1).1 < _; omega))]
    split <;> exact fin
