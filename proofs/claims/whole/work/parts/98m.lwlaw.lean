/-! READ: the class puts down a law, branch by branch. -/
variable {kd : Nat → Int32} {pl vl : Nat → Nat} {Q lw p t t0 : Nat} {S S' : Mem}
theorem stC_e {a : Nat} {f g : Nat → Int32} : ∀ C : Cd, (∀ i, a ≤ i → i < a + C.length → g i = f i) → stC a f C → stC a g C
  | [], _, _ => trivial
  | x :: C, h, hc => ⟨by rw [h _ (by omega) (by simp only [List.length_cons]; omega)]; exact hc.1, stC_e C (fun i h1 h2 => h i h1 (by simp only [List.length_cons]; omega)) hc.2⟩
theorem cbM_e {f g : Nat → Int32} : ∀ r : List BrT, (∀ i, i < posL r → g i = f i) → cbM f r → cbM g r
  | [], _, _ => trivial
  | (none, C) :: r, h, hc => by
    have h : ∀ i, i < posL r + C.length + 1 → g i = f i := h
    exact ⟨stC_e C (fun i _ h2 => h i (by omega)) hc.1, by rw [h _ (by omega)]; exact hc.2.1, cbM_e r (fun i hi => h i (by omega)) hc.2.2⟩
  | (some y, C) :: r, h, hc => by
    have h : ∀ i, i < posL r + y.1.length + y.2.length + 1 + C.length + 1 → g i = f i := h
    exact ⟨stC_e y.1 (fun i _ h2 => h i (by omega)) hc.1, stC_e y.2 (fun i _ h2 => h i (by omega)) hc.2.1, by rw [h _ (by omega)]; exact hc.2.2.1, stC_e C (fun i _ h2 => h i (by omega)) hc.2.2.2.1, by rw [h _ (by omega)]; exact hc.2.2.2.2.1, cbM_e r (fun i hi => h i (by omega)) hc.2.2.2.2.2⟩
theorem FN3.le {p' : Nat} (h : FN3 lw p' S S') (hp : p ≤ p') : FN3 lw p S S' := ⟨h.1, h.2.1, h.2.2.1, fun i hi => h.2.2.2.1 i (by omega), h.2.2.2.2⟩
theorem Lw_fin {y : List Int32 × Cd} {C : Cd} (h : LSt lw p y S) (hW : y.1.length ≤ 64) (hC : p + y.2.length + y.1.length < 400) (ey : yPop 1 y.1 y.2 = ([], C)) (el : C.length = y.1.length + y.2.length) : Ok (fun S' => FJ lw p S S' ∧ S'.1 lw 3 = 0 ∧ S'.1 lw 2 = nI (p + C.length + 1) ∧ stC p (S'.2.1 lw 0) C ∧ S'.2.1 lw 0 (p + C.length) = enc (3, 0)) (f_Lw_finish lw S) := by
  unfold f_Lw_finish f_Lw_finish_b0
  refine (h.pop1 hW (by omega)).b (fun S1 g1 => ?_)
  rw [ey] at g1
  refine (g1.2.put (by omega) (3, 0)).b (fun S2 g2 => Ok.i ?_)
  obtain ⟨f2, l1, l2, l3, l4, l5⟩ := g2
  exact ⟨g1.1.tr f2, l1, l3, l5, l4⟩
theorem add60 (x : Int32) : f_Lw_add lw 60 x S = Option.bind (f_Lw_putWaiting lw 1 S) (fun q => some q) := by
  unfold f_Lw_add f_Lw_add_b0
  rw [if_neg (by decide), if_neg (by decide), if_neg (by decide), if_neg (by decide), if_neg (by decide), if_neg (by decide), if_neg (by decide), if_pos rfl]
theorem add139 (x : Int32) : f_Lw_add lw 139 x S = some S := by
  unfold f_Lw_add f_Lw_add_b0
  rw [if_neg (by decide), if_neg (by decide), if_neg (by decide), if_neg (by decide), if_neg (by decide), if_neg (by decide), if_neg (by decide), if_neg (by decide), if_pos rfl]
theorem add140 (x : Int32) : f_Lw_add lw 140 x S = Option.bind (f_Lw_putWaiting lw 1 S) (fun q178 => letS (pI q178 lw 4 (q178.1 lw 2)) (fun S186 => Option.bind (f_Lw_put lw 2 0 S186) (fun q192 => some q192))) := by
  unfold f_Lw_add f_Lw_add_b0
  rw [if_neg (by decide), if_neg (by decide), if_neg (by decide), if_neg (by decide), if_neg (by decide), if_neg (by decide), if_neg (by decide), if_neg (by decide), if_neg (by decide), if_pos rfl]
theorem add141 (x : Int32) : f_Lw_add lw 141 x S = Option.bind (f_Lw_finish lw S) (fun q199 => if (Int32.ofNat 400) ≤ (q199.1 lw 4) then some q199 else gIn (q199.1 lw 4) 400 (letS (sA q199 lw 0 (q199.1 lw 4) ((2 : Int32) ||| ((q199.1 lw 2) <<< (8 &&& 31)))) (fun S231 => some S231))) := by
  unfold f_Lw_add f_Lw_add_b0
  rw [if_neg (by decide), if_neg (by decide), if_neg (by decide), if_neg (by decide), if_neg (by decide), if_neg (by decide), if_neg (by decide), if_neg (by decide), if_neg (by decide), if_neg (by decide), if_pos rfl]
theorem tk_p {k : Int32} {z : Nat × Nat} {a : Nat} (ez : z = (0, a)) (h : (tk kd k z).1 = 0) : kd a = k ∧ a < 400 ∧ tk kd k (0, a) = (0, a + 1) := by
  subst ez
  obtain ⟨-, h1, h2, h3⟩ := tk_0 h
  exact ⟨h1, h2, h3⟩
theorem Mn_case (E : EV kd pl vl Q) (hlw : 20 ≤ lw) {R : Mem → Prop} {m i : Nat} (hz : (csP kd (0, t)).1 = 0) (hk : kd t = 139) (hm : Q + 2 - t ≤ m) (hi : i ≤ t) (ht : t ≤ Q) (hT : TC kd pl vl Q S) (e3 : S.1 3 3 = nI t) (w3 : S.1 lw 3 = 0) (w2 : S.1 lw 2 = nI p) (hp : p ≤ t) (K : ∀ (m' i' t' : Nat) (S' : Mem) (A B C : Cd), csP kd (0, t) = (0, t') → brC kd vl (0, t) = (some (A, B), C) → cW A → cW B → cW C → Q + 2 - t' ≤ m' → i' ≤ t' → t' ≤ Q → TC kd pl vl Q S' → S'.1 3 3 = nI t' → S'.1 lw 3 = 0 → S'.1 lw 2 = nI (p + A.length + B.length + 1 + C.length + 1) → p + A.length + B.length + 1 + C.length + 1 ≤ t' → stC p (S'.2.1 lw 0) A → stC (p + A.length) (S'.2.1 lw 0) B → S'.2.1 lw 0 (p + A.length + B.length) = enc (2, nI (p + A.length + B.length + 1 + C.length + 1)) → stC (p + A.length + B.length + 1) (S'.2.1 lw 0) C → S'.2.1 lw 0 (p + A.length + B.length + 1 + C.length) = enc (3, 0) → FN3 lw p S S' → Ok R (f_Mn_putLaw_l16 lw m' (nI i') S')) : Ok R (f_Mn_putLaw_l16 lw m (nI i) S) := by
  have hQ := E.1.1
  have h3 : lw ≠ 3 := by omega
  -- the tokens
  have y6 : (smP kd (tk kd 140 (smP kd (tk kd 60 (smP kd (tk kd 139 (0, t))))))).1 = 0 := (tk_0 (show (tk kd 141 _).1 = 0 from hz)).1
  have y5 := smP_00 y6
  have y4 := (tk_0 y5).1
  have y3 := smP_00 y4
  have y2 := (tk_0 y3).1
  have y1 := smP_00 y2
  obtain ⟨-, lt0, x1⟩ := tk_p rfl y1
  rw [x1] at y2 y3 y4 y5 y6
  obtain ⟨t2, x2⟩ : ∃ a, smP kd (0, t + 1) = (0, a) := ⟨_, Prod.ext y2 rfl⟩
  rw [x2] at y3 y4 y5 y6
  obtain ⟨k2, lt2, x3⟩ := tk_p rfl y3
  rw [x3] at y4 y5 y6
  obtain ⟨t4, x4⟩ : ∃ a, smP kd (0, t2 + 1) = (0, a) := ⟨_, Prod.ext y4 rfl⟩
  rw [x4] at y5 y6
  obtain ⟨k4, lt4, x5⟩ := tk_p rfl y5
  rw [x5] at y6
  obtain ⟨t6, x6⟩ : ∃ a, smP kd (0, t4 + 1) = (0, a) := ⟨_, Prod.ext y6 rfl⟩
  have ecs : csP kd (0, t) = tk kd 141 (0, t6) := by unfold csP; rw [x1, x2, x3, x4, x5, x6]
  rw [ecs] at hz K
  obtain ⟨k6, lt6, x7⟩ := tk_p rfl hz
  rw [x7] at K
  have ebr : brC kd vl (0, t) = (some (yCode kd vl (t + 1) t2, yCode kd vl (t2 + 1) t4), yCode kd vl (t4 + 1) t6) := by unfold brC; rw [x1, x2, x3, x4, x5, x6]
  have q1 := tkQ E.1 (by decide) ht x1
  obtain ⟨m, rfl⟩ : ∃ k, m = k + 1 := ⟨m - 1, by omega⟩
  refine Mn_step (P := fun S1 => S1 = S) E hT e3 ht hi (by rw [hk]; decide) (by rw [hk]; decide) (fun x _ => by rw [hk, add139]; exact Ok.i rfl) (fun S1 g1 => ?_)
  subst g1
  refine ⟨e3, ?_⟩
  have F0 : FN3 lw p S1 (pI S1 3 3 (nI (t + 1))) := FN3.at3 _
  refine Mn_sumP (p := p) E hlw (by rw [x2]) (by omega) (by omega) q1 (hT.n3 F0 hlw) (by rw [pI_1, if_pos ⟨rfl, rfl⟩]) (by rw [pI_1, if_neg (by omega)]; exact w3) (by rw [pI_1, if_neg (by omega)]; exact w2) (by omega) (fun m1 i1 t1 S2 y a0 a1 a2 a3 a4 a5 a6 a7 a8 a9 a10 a11 a12 a13 => ?_)
  have et : t1 = t2 := (Prod.mk.inj (a0.symm.trans x2)).2
  subst et
  generalize hA : yCode kd vl (t + 1) t1 = A at a7 a8 a11 ebr
  have q2 := tkQ E.1 (by decide) a3 x3
  obtain ⟨m1, rfl⟩ : ∃ k, m1 = k + 1 := ⟨m1 - 1, by omega⟩
  have FA := F0.tr a12 (Nat.le_refl p)
  refine Mn_step (P := fun S3 => FJ lw p S2 S3 ∧ LSt lw p ([], A) S3) E a4 a5 a3 a2 (by rw [k2]; decide) (by rw [k2]; decide) (fun x _ => by rw [k2, add60]; exact (a6.pop1 a9 (by omega)).b (fun z hz => Ok.i (by rw [a7] at hz; exact hz))) (fun S3 g3 => ?_)
  obtain ⟨f3, l1, l2, l3, l4⟩ := g3
  refine ⟨by rw [f3.1 3 (by omega)]; exact a5, ?_⟩
  have FB : FN3 lw p S1 (pI S3 3 3 (nI (t1 + 1))) := (FA.tr (f3.n3 h3) (Nat.le_refl p)).tr (FN3.at3 _) (Nat.le_refl p)
  have TB := hT.n3 FB hlw
  have l3 : S3.1 lw 2 = nI (p + A.length) := l3
  have l4 : stC p (S3.2.1 lw 0) A := l4
  refine Mn_sumP (p := p + A.length) E hlw (by rw [x4]) (by omega) (by omega) q2 TB (by rw [pI_1, if_pos ⟨rfl, rfl⟩]) (by rw [pI_1, if_neg (by omega)]; exact l1) (by rw [pI_1, if_neg (by omega)]; exact l3) (by omega) (fun m2 i2 t3 S4 yy b0 b1 b2 b3 b4 b5 b6 b7 b8 b9 b10 b11 b12 b13 => ?_)
  have et : t3 = t4 := (Prod.mk.inj (b0.symm.trans x4)).2
  subst et
  generalize hB : yCode kd vl (t1 + 1) t3 = B at b7 b8 b11 ebr
  have q4 := tkQ E.1 (by decide) b3 x5
  obtain ⟨m2, rfl⟩ : ∃ k, m2 = k + 1 := ⟨m2 - 1, by omega⟩
  have FC := FB.tr b12 (by omega)
  have A4 : stC p (S4.2.1 lw 0) A := stC_e A (fun i _ h2 => b12.2.2.2.1 i h2) l4
  refine Mn_step (P := fun S5 => FN3 lw (p + A.length) S4 S5 ∧ S5.1 3 3 = nI t3 ∧ S5.1 lw 3 = 0 ∧ S5.1 lw 4 = nI (p + A.length + B.length) ∧ S5.1 lw 2 = nI (p + A.length + B.length + 1) ∧ stC (p + A.length) (S5.2.1 lw 0) B) E b4 b5 b3 b2 (by rw [k4]; decide) (by rw [k4]; decide) (fun x _ => by
    rw [k4, add140]
    refine (b6.pop1 b9 (by omega)).b (fun z hz => ?_)
    rw [b7] at hz
    obtain ⟨f5, c1, c2, c3, c4⟩ := hz
    have c3 : z.1 lw 2 = nI (p + A.length + B.length) := c3
    have c4 : stC (p + A.length) (z.2.1 lw 0) B := c4
    rw [letS_e, c3, Lw_put (n := p + A.length + B.length) (by rw [pI_1, if_neg (by omega)]; exact c3) (by omega), bind_e]
    refine Ok.i ⟨((f5.n3 h3).tr (FN3.i _ _ h3) (Nat.le_refl _)).tr ((FN3.s0 (p := p + A.length) (by omega) (by omega) _).tr (FN3.i _ _ h3) (Nat.le_refl _)) (Nat.le_refl _), ?_, ?_, ?_, ?_, ?_⟩
    · rw [pI_1, if_neg (by omega), sA_1, pI_1, if_neg (by omega), f5.1 3 (by omega)]; exact b5
    · rw [pI_1, if_neg (by omega), sA_1, pI_1, if_neg (by omega)]; exact c1
    · rw [pI_1, if_neg (by omega), sA_1, pI_1, if_pos ⟨rfl, rfl⟩]
    · rw [pI_1, if_pos ⟨rfl, rfl⟩]
    · refine stC_e B (fun i h1 h2 => ?_) c4
      rw [pI_2, sA_2, if_pos ⟨rfl, rfl⟩, cl (by omega), upd_at, if_neg (by omega), pI_2]) (fun S5 g5 => ?_)
  obtain ⟨f5, d1, d2, d3, d4, d5⟩ := g5
  refine ⟨d1, ?_⟩
  have FD : FN3 lw p S1 (pI S5 3 3 (nI (t3 + 1))) := (FC.tr f5 (by omega)).tr (FN3.at3 _) (Nat.le_refl p)
  have TD := hT.n3 FD hlw
  have A5 : stC p (S5.2.1 lw 0) A := stC_e A (fun i _ h2 => f5.2.2.2.1 i h2) A4
  refine Mn_sumP (p := p + A.length + B.length + 1) E hlw (by rw [x6]) (by omega) (by omega) q4 TD (by rw [pI_1, if_pos ⟨rfl, rfl⟩]) (by rw [pI_1, if_neg (by omega)]; exact d2) (by rw [pI_1, if_neg (by omega)]; exact d4) (by omega) (fun m3 i3 t5 S6 yz c0 c1 c2 c3 c4 c5 c6 c7 c8 c9 c10 c11 c12 c13 => ?_)
  have et : t5 = t6 := (Prod.mk.inj (c0.symm.trans x6)).2
  subst et
  generalize hC : yCode kd vl (t3 + 1) t5 = C at c7 c8 c11 ebr
  have q6 := tkQ E.1 (by decide) c3 x7
  obtain ⟨m3, rfl⟩ : ∃ k, m3 = k + 1 := ⟨m3 - 1, by omega⟩
  have FE := FD.tr c12 (by omega)
  have A6 : stC p (S6.2.1 lw 0) A := stC_e A (fun i _ h2 => c12.2.2.2.1 i (by omega)) A5
  have B6 : stC (p + A.length) (S6.2.1 lw 0) B := stC_e B (fun i _ h2 => c12.2.2.2.1 i (by omega)) d5
  have e4 : S6.1 lw 4 = nI (p + A.length + B.length) := by rw [c13, pI_1, if_neg (by omega)]; exact d3
  refine Mn_step (P := fun S7 => FN3 lw p S6 S7 ∧ S7.1 3 3 = nI t5 ∧ S7.1 lw 3 = 0 ∧ S7.1 lw 2 = nI (p + A.length + B.length + 1 + C.length + 1) ∧ stC p (S7.2.1 lw 0) A ∧ stC (p + A.length) (S7.2.1 lw 0) B ∧ S7.2.1 lw 0 (p + A.length + B.length) = enc (2, nI (p + A.length + B.length + 1 + C.length + 1)) ∧ stC (p + A.length + B.length + 1) (S7.2.1 lw 0) C ∧ S7.2.1 lw 0 (p + A.length + B.length + 1 + C.length) = enc (3, 0)) E c4 c5 c3 c2 (by rw [k6]; decide) (by rw [k6]; decide) (fun x _ => by
    rw [k6, add141]
    refine (Lw_fin c6 c9 (by omega) c7 c11).b (fun z hz => ?_)
    obtain ⟨f7, g1, g2, g3, g4⟩ := hz
    have g5 : z.1 lw 4 = nI (p + A.length + B.length) := by rw [f7.2.1]; exact e4
    rw [g5, g2, if_neg (show ¬ (Int32.ofNat 400) ≤ nI (p + A.length + B.length) from le_nI (by omega) (by decide) (by omega)), gIn_n (show p + A.length + B.length < 400 by omega) (by decide), letS_e]
    have up : ∀ x i, (sA z lw 0 (nI (p + A.length + B.length)) x).2.1 lw 0 i = if i = p + A.length + B.length then x else z.2.1 lw 0 i := fun x i => by rw [sA_2, if_pos ⟨rfl, rfl⟩, cl (by omega), upd_at]
    refine Ok.i ⟨((f7.n3 h3).le (by omega)).tr (FN3.s0 (p := p) (by omega) (by omega) _) (Nat.le_refl p), ?_, ?_, ?_, ?_, ?_, ?_, ?_, ?_⟩
    · rw [sA_1, f7.1 3 (by omega)]; exact c5
    · rw [sA_1]; exact g1
    · rw [sA_1]; exact g2
    · refine stC_e A (fun i h1 h2 => ?_) A6
      rw [up, if_neg (by omega), f7.2.2.2.1 i (by omega)]
    · refine stC_e B (fun i h1 h2 => ?_) B6
      rw [up, if_neg (by omega), f7.2.2.2.1 i (by omega)]
    · rw [up, if_pos rfl]; rfl
    · refine stC_e C (fun i h1 h2 => ?_) g3
      rw [up, if_neg (by omega)]
    · rw [up, if_neg (by omega)]; exact g4) (fun S7 g7 => ?_)
  obtain ⟨f7, r1, r2, r3, r4, r5, r6, r7, r8⟩ := g7
  refine ⟨r1, ?_⟩
  have FG' : FN3 lw p S1 (pI S7 3 3 (nI (t5 + 1))) := (FE.tr f7 (Nat.le_refl p)).tr (FN3.at3 _) (Nat.le_refl p)
  exact K m3 (i3 + 1) (t5 + 1) _ A B C rfl ebr a8 b8 c8 (by omega) (by omega) q6 (hT.n3 FG' hlw) (by rw [pI_1, if_pos ⟨rfl, rfl⟩]) (by rw [pI_1, if_neg (by omega)]; exact r2) (by rw [pI_1, if_neg (by omega)]; exact r3) (by omega) r4 r5 r6 r7 r8 FG'
