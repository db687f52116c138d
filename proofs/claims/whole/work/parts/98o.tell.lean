/-! READ: the class puts down a tell, whichever. -/
variable {kd : Nat → Int32} {pl vl : Nat → Nat} {Q t tx : Nat} {S S' : Mem} {c : Nat → Nat} {l : NLt} {T : TX} {G : LwG} {w : Nat × Nat}
theorem CJ.f3 (h : CJ tx c l T G S) (hf : F3 S S') (h20 : 20 ≤ tx) : CJ tx c l T G S' := by
  obtain ⟨hN, hL, hP, hG, hW⟩ := h
  refine ⟨hN.e (by rw [hf.2]), hL, ?_, hG, hW.e (fun o _ _ => hf.1 o (by omega)) (fun o _ _ => by rw [hf.2])⟩
  unfold CP
  rw [hf.1 tx (by omega), hf.2]; exact hP
theorem tlC.nx {c' : Nat → Nat} {l' : NLt} {T' : TX} {G' : LwG} {w' : Nat × Nat} {t' : Nat} (h20 : 20 ≤ tx) (h : tlC pl tx c' l' T' G' w' t' S S') : tlC pl tx c' l' T' G' w' (t' + 1) S (pI S' 3 3 (nI t' + 1)) := by
  obtain ⟨h1, h2, h3, h4⟩ := h
  have f : F3 S' (pI S' 3 3 (nI t' + 1)) := (F3.rf S').p 3 _
  refine ⟨h1.tr f.o4, h2.nx, ?_, fun z => (h4 z).f3 f h20⟩
  unfold MC
  rw [f.1 tx (by omega)]; exact h3
/-- behind a tell: on by one token -/
theorem Mn_b177 {c' : Nat → Nat} {l' : NLt} {T' : TX} {G' : LwG} {w' : Nat × Nat} {t' : Nat} {S0 : Mem} (h20 : 20 ≤ tx) (f0 : O4 tx S0 S) (h : tlC pl tx c' l' T' G' w' t' S S') : Ok (tlC pl tx c' l' T' G' w' (t' + 1) S0) (f_Mn_putTell_b177 tx S') := by
  unfold f_Mn_putTell_b177
  rw [letS_e, h.2.1.2.2]
  have g := tlC.nx h20 h
  exact Ok.i ⟨f0.tr g.1, g.2⟩
theorem tiS_e (hN : NmC l c S) (hL : cLe c) (h1 : tk kd 97 (0, t) = (0, t + 1)) (h2 : tk kd 97 (0, t + 1) = (0, t + 2)) : (tiS kd vl l ((0, t), w)).2 = tiV vl l t w := by
  unfold tiS tiW tiV
  have e1 : odS kd vl l 1 ((0, t), w) = ((0, t + 1), odW vl l 1 t w) := odS_e h1
  have e2 : odS kd vl l 1 ((0, t + 1), odW vl l 1 t w) = ((0, t + 2), odW vl l 1 (t + 1) (odW vl l 1 t w)) := odS_e h2
  rw [e1, e2]
  show (if (0 : Nat) = 0 ∧ ¬ odX vl l 1 (t + 1) < 0 ∧ odX vl l 1 (t + 1) = odX vl l 1 t then wrS 3 (t + 1) ((0, t + 2), odW vl l 1 (t + 1) (odW vl l 1 t w)) else ((0, t + 2), odW vl l 1 (t + 1) (odW vl l 1 t w))).2 = _
  by_cases q : odX vl l 1 t = odX vl l 1 (t + 1)
  · rw [if_pos q]
    by_cases n : odX vl l 1 (t + 1) < 0
    · rw [if_neg (fun z => z.2.1 n)]
      show odW vl l 1 (t + 1) (odW vl l 1 t w) = wr 3 (t + 1) (odW vl l 1 (t + 1) (odW vl l 1 t w))
      have nf : ¬ (odW vl l 1 (t + 1) (odW vl l 1 t w)).1 = 0 := fun z => by
        have q2 := (odW_0 z).2
        obtain ⟨a, ha, ea⟩ := odX_ok hN (by omega) q2
        rw [ea] at n
        exact nI_pos (by have := hL.2.1; omega) n
      unfold wr; rw [if_neg nf]
    · rw [if_pos ⟨rfl, n, q.symm⟩, wr_e]
  · rw [if_neg q, if_neg (fun z => q z.2.2.symm)]
theorem tl_0 {K : Int32} (hK : kd t = K) (h1 : ¬ (K < 128 ∨ 137 < K)) (hz : (tlP kd c t).1 = 0) (hB : ∀ z, (bdP kd K z).1 = 0 → z.1 = 0) : tlP kd c t = bdP kd K (0, t + 1) ∧ tk kd K (0, t) = (0, t + 1) ∧ ¬ (K ≤ 131 ∧ mostN K < c (srt K) + 1) := by
  unfold tlP at hz ⊢
  rw [hK, if_neg h1] at hz ⊢
  by_cases q : K ≤ 131 ∧ mostN K < c (srt K) + 1
  · rw [if_pos q] at hz; exact absurd hz (show ¬ (2 : Nat) = 0 by decide)
  · rw [if_neg q] at hz ⊢
    obtain ⟨-, -, x⟩ := tk_p rfl (hB _ hz)
    exact ⟨by rw [x], x, q⟩
theorem bdP_00 {K : Int32} (z : Nat × Nat) (h : (bdP kd K z).1 = 0) : z.1 = 0 := Classical.byContradiction (fun y => y (by rw [bdP_f y] at h; exact h))
theorem Mn_putTell (E : EV kd pl vl Q) (h20 : 20 ≤ tx) (hT : TC kd pl vl Q S) (h : CS pl w t S) (hI : CJ tx c l T G S) (ht : t ≤ Q) (hz : (tlP kd c t).1 = 0) : Ok (tlC pl tx (cn1 kd c t) (teD kd vl c l T G t w).2.1 (teD kd vl c l T G t w).2.2.1 (teD kd vl c l T G t w).2.2.2 (teD kd vl c l T G t w).1 (tlP kd c t).2 S) (f_Mn_putTell tx S) := by
  have hQ := E.1.1
  have f0 : F3 S (pI S 3 3 (nI t + 1)) := (F3.rf S).p 3 _
  have o0 : O4 tx S (pI S 3 3 (nI t + 1)) := f0.o4
  have T0 := hT.f3 f0
  have s0 : CS pl w (t + 1) (pI S 3 3 (nI t + 1)) := h.nx
  have I0 := hI.f3 f0 h20
  have hL := hI.2.1
  unfold f_Mn_putTell f_Mn_putTell_b0
  rw [h.2.2, Tp_kindAt hQ hT ht, bind_e, letS_e]
  generalize pI S 3 3 (nI t + 1) = S1 at o0 T0 s0 I0 ⊢
  unfold teD
  by_cases k1 : kd t = 128
  · obtain ⟨e1, x1, x2⟩ := tl_0 k1 (by decide) hz bdP_00
    have q1 := tkQ E.1 (by decide) ht x1
    rw [e1, bd_128] at hz ⊢
    obtain ⟨-, c1, c2, c3, c4, d1, d2, d3, d4⟩ := tk4 hz
    have d1 : tk kd 97 (0, t + 1) = (0, t + 1 + 1) := d1
    rw [d1] at d2 d3
    have d2 : tk kd 48 (0, t + 1 + 1) = (0, t + 1 + 1 + 1) := d2
    rw [d2] at d3
    have d3 : tk kd 48 (0, t + 1 + 1 + 1) = (0, t + 1 + 1 + 1 + 1) := d3
    have q2 := tkQ E.1 (by decide) q1 d1
    have q3 := tkQ E.1 (by decide) q2 d2
    rw [cn1_y (j := 0) k1 (by decide) (by decide) (by decide), d4]
    rw [if_pos k1, if_pos k1, x1]
    have e5 : (wlS kd vl l ((0, t + 1), w)).2 = wlW vl l (t + 1) w := by unfold wlS wlW; rw [nwS_e d1, bdS_e d2, bdS_e d3]
    rw [e5]
    refine (Mn_putWell E h20 T0 s0 I0 (by omega) c1 c2 c3 (Nat.lt_of_not_le (fun y => x2 ⟨by decide, by show 4 < c 0 + 1; omega⟩))).b (fun S2 g => ?_)
    exact Mn_b177 h20 o0 g
  rw [if_neg k1, if_neg k1]
  by_cases k2 : kd t = 129
  · obtain ⟨e1, x1, x2⟩ := tl_0 k2 (by decide) hz bdP_00
    have q1 := tkQ E.1 (by decide) ht x1
    rw [e1, bd_129] at hz ⊢
    obtain ⟨-, c1, c2, c3, c4, d1, d2, d3, d4⟩ := tk4 hz
    have d1 : tk kd 97 (0, t + 1) = (0, t + 1 + 1) := d1
    rw [d1] at d2 d3
    have d2 : tk kd 97 (0, t + 1 + 1) = (0, t + 1 + 1 + 1) := d2
    rw [d2] at d3
    have d3 : tk kd 48 (0, t + 1 + 1 + 1) = (0, t + 1 + 1 + 1 + 1) := d3
    have q2 := tkQ E.1 (by decide) q1 d1
    have q3 := tkQ E.1 (by decide) q2 d2
    rw [cn1_y (j := 1) k2 (by decide) (by decide) (by decide), d4]
    rw [if_pos k2, if_pos k2, x1]
    have e5 : (mnS kd vl l ((0, t + 1), w)).2 = mnW vl l (t + 1) w := by unfold mnS mnW; rw [nwS_e d1, odS_e d2, bdS_e d3]
    have e6 : odV vl l 0 (nwS kd vl l ((0, t + 1), w)) = odX vl l 0 (t + 1 + 1) := by rw [nwS_e d1]; rfl
    simp only [e5, e6]
    refine (Mn_putMan E h20 T0 s0 I0 (by omega) c1 c2 c3 (Nat.lt_of_not_le (fun y => x2 ⟨by decide, by show 7 < c 1 + 1; omega⟩))).b (fun S2 g => ?_)
    exact Mn_b177 h20 o0 g
  rw [if_neg k2, if_neg k2]
  by_cases k3 : kd t = 130
  · obtain ⟨e1, x1, x2⟩ := tl_0 k3 (by decide) hz bdP_00
    have q1 := tkQ E.1 (by decide) ht x1
    rw [e1, bd_130] at hz ⊢
    obtain ⟨-, c1, c2, d1, d2⟩ := seP_0 hz
    have d1 : tk kd 97 (0, t + 1) = (0, t + 1 + 1) := d1
    have d2' : tks kd [97, 48] (0, t + 1) = (0, t + 1 + 2) := d2
    have d2 : tk kd 48 (0, t + 1 + 1) = (0, t + 1 + 1 + 1) := by rw [← d1]; exact d2'
    rw [cn1_y (j := 2) k3 (by decide) (by decide) (by decide)]
    rw [if_pos k3, if_pos k3, x1]
    have eA : seA kd vl l ((0, t + 1), w) = ((0, t + 1 + 2), seW vl l (t + 1) w) := by unfold seA seW; rw [nwS_e d1, bdS_e d2]
    have eK : seK kd vl l ((0, t + 1), w) = seN kd vl l (t + 1) w := by
      unfold seK seN
      rw [eA]
      have : scS kd ((0, t + 1 + 2), seW vl l (t + 1) w) = (scP kd (0, t + 1 + 2), seW vl l (t + 1) w) := by unfold scS scP; split <;> rfl
      rw [this]
    have eL : seL kd vl l ((0, t + 1), w) = if kd (t + 1 + 2) = 138 then 1 else 0 := by
      unfold seL
      rw [eA]
      by_cases y : kd (t + 1 + 2) = 138
      · rw [if_pos ⟨rfl, y⟩, if_pos y]
      · rw [if_neg (fun z => y z.2), if_neg y]
    have eS : (seS kd vl l ((0, t + 1), w)).2 = (seN kd vl l (t + 1) w).1.2 := by unfold seS; rw [eK]
    have eZ : (seP kd (0, t + 1)).2 = (nmsF kd 402 (scP kd (0, t + 1 + 2))).2 + 1 := by
      have z : (tk kd 59 (nmsF kd 402 (scP kd (tks kd [97, 48] (0, t + 1))))).1 = 0 := hz
      have := (tk_0 z).2.2.2
      rw [d2'] at this
      show (tk kd 59 (nmsF kd 402 (scP kd (tks kd [97, 48] (0, t + 1))))).2 = _
      rw [d2', this]
    simp only [eS, eK, eL, eZ]
    refine (Mn_putSecret E h20 T0 s0 I0 q1 hz (Nat.lt_of_not_le (fun y => x2 ⟨by decide, by show 8 < c 2 + 1; omega⟩))).b (fun S2 g => ?_)
    exact Mn_b177 h20 o0 g
  rw [if_neg k3, if_neg k3]
  by_cases k4 : kd t = 131
  · obtain ⟨e1, x1, x2⟩ := tl_0 k4 (by decide) hz bdP_00
    have q1 := tkQ E.1 (by decide) ht x1
    rw [e1, bd_131] at hz ⊢
    obtain ⟨-, c1, c2, c3, d1, d2, d4⟩ := tk3 hz
    have d1 : tk kd 97 (0, t + 1) = (0, t + 1 + 1) := d1
    rw [d1] at d2
    have d2 : tk kd 97 (0, t + 1 + 1) = (0, t + 1 + 1 + 1) := d2
    have q2 := tkQ E.1 (by decide) q1 d1
    rw [cn1_y (j := 3) k4 (by decide) (by decide) (by decide), d4]
    rw [if_pos k4, if_pos k4, x1]
    have e5 := tiS_e (w := w) (vl := vl) hI.1 hL d1 d2
    have e6 : odV vl l 1 ((0, t + 1), w) = odX vl l 1 (t + 1) := rfl
    have e7 : odV vl l 1 (odS kd vl l 1 ((0, t + 1), w)) = odX vl l 1 (t + 1 + 1) := by rw [odS_e d1]; rfl
    simp only [e5, e6, e7]
    refine (Mn_putTie E h20 T0 s0 I0 q2 c1 c2 (Nat.lt_of_not_le (fun y => x2 ⟨by decide, by show 12 < c 3 + 1; omega⟩))).b (fun S2 g => ?_)
    exact Mn_b177 h20 o0 g
  rw [if_neg k4, if_neg k4]
  have num : ∀ (K : Int32) (lo hi f j : Nat), (K = 135 ∨ K = 136 ∨ K = 137) → kd t = K → ¬ (K < 128 ∨ 137 < K) → ¬ (K = 0 ∨ K = 1) → ¬ K ≤ 131 → lo ≤ 9999 → hi ≤ 9999 → ((f = 5 ∧ j = 4 ∧ 1 ≤ lo ∧ hi ≤ 99) ∨ (f = 6 ∧ j = 5 ∧ hi ≤ 99) ∨ (f = 7 ∧ j = 6)) → Ok (tlC pl tx (cn1 kd c t) l (upd2 T 0 j (nI (vl (t + 1)))) G (nbS kd vl lo hi (tk kd K (0, t), w)).2 (tlP kd c t).2 S) (Option.bind (f_Mn_number (nI lo) (nI hi) S1) (fun q => letS (pI q.2 tx f q.1) (fun S145 => f_Mn_putTell_b177 tx S145))) := by
    intro K lo hi f j hK kK nK nK0 n131 hlo hhi hfj
    obtain ⟨e1, x1, x2⟩ := tl_0 kK nK hz bdP_00
    have q1 := tkQ E.1 nK0 ht x1
    have hz2 := hz
    rw [e1, bd_num hK] at hz2
    obtain ⟨-, c1, c2, d1, d4⟩ := tk2 hz2
    have d1 : tk kd 48 (0, t + 1) = (0, t + 1 + 1) := d1
    rw [e1, bd_num hK, d4, x1, cn1_n kK n131]
    have e5 : (nbS kd vl lo hi ((0, t + 1), w)).2 = bdW vl lo hi (t + 1) w := by unfold nbS; rw [bdS_e d1]
    rw [e5]
    refine (Mn_putNum E h20 T0 s0 I0 q1 c1 hlo hhi hfj).b (fun z g => ?_)
    rw [letS_e]
    exact Mn_b177 h20 o0 g
  have law : ∀ (K : Int32) (k : Nat), (K = 132 ∨ K = 133 ∨ K = 134) → kd t = K → ¬ (K < 128 ∨ 137 < K) → ¬ (K = 0 ∨ K = 1) → ¬ K ≤ 131 → k < 3 → srt K - 4 = k → Ok (tlC pl tx (cn1 kd c t) l T (updG G (srt (kd t) - 4) (lwB kd vl 4 (tk kd 61 (tk kd (kd t) (0, t))) [])) w (tlP kd c t).2 S) (Option.bind (f_Mn_putLaw (tx + 1 + k) S1) (fun q => f_Mn_putTell_b177 tx q)) := by
    intro K k hK kK nK nK0 n131 hk es
    obtain ⟨e1, x1, x2⟩ := tl_0 kK nK hz bdP_00
    have q1 := tkQ E.1 nK0 ht x1
    have hz2 := hz
    rw [e1, bd_law hK] at hz2
    rw [e1, bd_law hK, kK, x1, cn1_n kK n131, es]
    refine (Mn_putLaw E h20 hk T0 s0 I0 q1 hz2).b (fun S2 g => ?_)
    obtain ⟨t', et, g⟩ := g
    rw [et]
    exact Mn_b177 h20 o0 g
  by_cases k5 : kd t = 132
  · rw [if_pos k5, if_neg (show ¬ kd t = 135 by rw [k5]; decide), if_neg (show ¬ kd t = 136 by rw [k5]; decide), if_neg (show ¬ kd t = 137 by rw [k5]; decide)]
    exact law 132 0 (Or.inl rfl) k5 (by decide) (by decide) (by decide) (by omega) (by decide)
  rw [if_neg k5]
  by_cases k6 : kd t = 133
  · rw [if_pos k6, if_neg (show ¬ kd t = 135 by rw [k6]; decide), if_neg (show ¬ kd t = 136 by rw [k6]; decide), if_neg (show ¬ kd t = 137 by rw [k6]; decide)]
    exact law 133 1 (Or.inr (Or.inl rfl)) k6 (by decide) (by decide) (by decide) (by omega) (by decide)
  rw [if_neg k6]
  by_cases k7 : kd t = 134
  · rw [if_pos k7, if_neg (show ¬ kd t = 135 by rw [k7]; decide), if_neg (show ¬ kd t = 136 by rw [k7]; decide), if_neg (show ¬ kd t = 137 by rw [k7]; decide)]
    exact law 134 2 (Or.inr (Or.inr rfl)) k7 (by decide) (by decide) (by decide) (by omega) (by decide)
  rw [if_neg k7]
  by_cases k8 : kd t = 135
  · rw [if_pos k8, if_pos k8]
    exact num 135 1 99 5 4 (Or.inl rfl) k8 (by decide) (by decide) (by decide) (by omega) (by omega) (Or.inl ⟨rfl, rfl, by omega, by omega⟩)
  rw [if_neg k8, if_neg k8]
  by_cases k9 : kd t = 136
  · rw [if_pos k9, if_pos k9]
    exact num 136 0 99 6 5 (Or.inr (Or.inl rfl)) k9 (by decide) (by decide) (by decide) (by omega) (by omega) (Or.inr (Or.inl ⟨rfl, rfl, by omega⟩))
  rw [if_neg k9, if_neg k9]
  by_cases k10 : kd t = 137
  · rw [if_pos k10]
    exact num 137 0 9999 7 6 (Or.inr (Or.inr rfl)) k10 (by decide) (by decide) (by decide) (by omega) (by omega) (Or.inr (Or.inr ⟨rfl, rfl⟩))
  · have all : ∀ k, k ∈ kinds → ¬ (k < 128 ∨ 137 < k) → k = 128 ∨ k = 129 ∨ k = 130 ∨ k = 131 ∨ k = 132 ∨ k = 133 ∨ k = 134 ∨ k = 135 ∨ k = 136 ∨ k = 137 := by decide +kernel
    have nb : ¬ (kd t < 128 ∨ 137 < kd t) := fun y => by
      have : tlP kd c t = (1, t) := by unfold tlP; rw [if_pos y]
      rw [this] at hz; exact absurd hz (show ¬ (1 : Nat) = 0 by decide)
    rcases all _ (E.2.1 t ht) nb with y | y | y | y | y | y | y | y | y | y
    · exact absurd y k1
    · exact absurd y k2
    · exact absurd y k3
    · exact absurd y k4
    · exact absurd y k5
    · exact absurd y k6
    · exact absurd y k7
    · exact absurd y k8
    · exact absurd y k9
    · exact absurd y k10
