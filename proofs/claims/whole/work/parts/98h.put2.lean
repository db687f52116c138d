/-! READ: the class puts down men, ties, numbers. -/
variable {kd : Nat → Int32} {pl vl : Nat → Nat} {Q tx : Nat} {c : Nat → Nat} {l : NLt} {T : TX} {G : LwG} {w : Nat × Nat} {t : Nat} {S S' : Mem}
theorem NmC.u (h : NmC l c S) (e : ∀ s i, s ≤ 2 → i < c s → S'.2.2 3 (4 + s) i = S.2.2 3 (4 + s) i) : NmC l c S' := ⟨fun j hj => by
  obtain ⟨a1, a2, a3, a4⟩ := h.1 j hj
  exact ⟨a1, a2, by rw [e _ _ a1 a2]; exact a3, a4⟩, h.2⟩
theorem NmC.cc {c' : Nat → Nat} (h : NmC l c S) (e : ∀ s, s ≤ 2 → c' s = c s) : NmC l c' S := ⟨fun j hj => by
  obtain ⟨a1, a2, a3, a4⟩ := h.1 j hj
  exact ⟨a1, by rw [e _ a1]; exact a2, a3, a4⟩, fun s i hs hi => h.2.1 s i hs (by rw [← e s hs]; exact hi), h.2.2⟩
theorem CS.o (h : CS pl w t S) (e : S'.1 3 = S.1 3) : CS pl w t S' := by unfold CS; rw [e]; exact h
theorem pI_o {S : Mem} {o k : Nat} {x : Int32} {o' : Nat} (h : o' ≠ o) : (pI S o k x).1 o' = S.1 o' := by funext k'; rw [pI_1, if_neg (fun z => h z.1)]
def mnW (vl : Nat → Nat) (l : NLt) (t : Nat) (w : Nat × Nat) : Nat × Nat := bdW vl 0 99 (t + 2) (odW vl l 0 (t + 1) (nwW vl l t w))
theorem Mn_putMan (E : EV kd pl vl Q) (h20 : 20 ≤ tx) (hT : TC kd pl vl Q S) (h : CS pl w t S) (hI : CJ tx c l T G S) (ht : t + 2 ≤ Q) (k0 : kd t = 97) (k1 : kd (t + 1) = 97) (k2 : kd (t + 2) = 48) (hc : c 1 < 7) : Ok (tlC pl tx (cjN 1 c) (notS l (vl t) 1 (c 1)) (upd2 (upd2 (upd2 T 3 (c 1) (odX vl l 0 (t + 1))) 4 (c 1) (nI (vl (t + 2)))) 0 1 (nI (c 1 + 1))) G (mnW vl l t w) (t + 3) S) (f_Mn_putMan tx S) := by
  have hQ := E.1.1
  obtain ⟨hN, hL, hP, hG, hW⟩ := hI
  obtain ⟨i0, i1, i2, i3⟩ := hP.1
  unfold f_Mn_putMan f_Mn_putMan_b0
  rw [letS_e, i1, if_pos (show nI (c 1) < (7 : Int32) from nI_lt (b := 7) hc (by decide))]
  refine (Mn_newName hQ hT h (by omega) k0 (E.2.2.2.2.2 t (by omega) k0) hN hL i0 i1 i2).b (fun z1 g1 => ?_)
  obtain ⟨a1, f1, s1⟩ := g1
  rw [gIn_n (show c 1 < 7 by omega) (by decide), letS_e, letS_e, a1]
  have e29 : (sL z1.2 3 5 (nI (c 1)) (lN (vl t))).1 tx 1 = nI (c 1) := by rw [sL_1, f1.1 tx (by omega)]; exact i1
  rw [e29, nI_1]
  have cc : (nI (c 1)).toNatClampNeg = c 1 := cl (by omega)
  have T1 := (hT.f3 f1)
  have T2 : TC kd pl vl Q (pI (sL z1.2 3 5 (nI (c 1)) (lN (vl t))) tx 1 (nI (c 1 + 1))) := T1.o4 ((O4.ll (nI (c 1)) (lN (vl t))).tr (O4.p (nI (c 1 + 1)))) h20
  have s2 : CS pl (nwW vl l t w) (t + 1) (pI (sL z1.2 3 5 (nI (c 1)) (lN (vl t))) tx 1 (nI (c 1 + 1))) := s1.o (by rw [pI_o (by omega), sL_1])
  have N2 : NmC l c (pI (sL z1.2 3 5 (nI (c 1)) (lN (vl t))) tx 1 (nI (c 1 + 1))) := hN.u (fun s i hs hi => by
    rw [pI_2, sL_3, f1.2]
    by_cases q : 4 + s = 5
    · have e : s = 1 := by omega
      subst e
      rw [if_pos ⟨rfl, rfl⟩, updL_at, cc, if_neg (by omega)]
    · rw [if_neg (fun z => q z.2)])
  have e0 : (pI (sL z1.2 3 5 (nI (c 1)) (lN (vl t))) tx 1 (nI (c 1 + 1))).1 tx 0 = nI (c 0) := by
    rw [pI_1, if_neg (by omega), sL_1, f1.1 tx (by omega)]; exact i0
  rw [e0]
  refine (show Ok _ (f_Mn_oldName 4 _ _) from Mn_oldName (s := 0) hQ T2 s2 (by omega) k1 (E.2.2.2.2.2 _ (by omega) k1) (by omega) N2 hL).b (fun z2 g2 => ?_)
  obtain ⟨a2, f2, s2⟩ := g2
  rw [gIn_n (show c 1 < 7 by omega) (by decide), letS_e, a2]
  have T3 : TC kd pl vl Q (sA z2.2 tx 10 (nI (c 1)) (jMmax 0 (odX vl l 0 (t + 1)))) := (T2.f3 f2).o4 (O4.s _ _) h20
  have s3 : CS pl (odW vl l 0 (t + 1) (nwW vl l t w)) (t + 2) (sA z2.2 tx 10 (nI (c 1)) (jMmax 0 (odX vl l 0 (t + 1)))) := s2
  refine (show Ok _ (f_Mn_number 0 99 _) from Mn_number (lo := 0) (hi := 99) hQ T3 s3 (by omega) k2 (E.2.2.2.2.1 _ (by omega) k2) (by omega) (by omega)).b (fun z3 g3 => ?_)
  obtain ⟨a3, f3, s4⟩ := g3
  rw [gIn_n (show c 1 < 7 by omega) (by decide), letS_e, a3]
  have A : ∀ o f, (sA z3.2 tx 11 (nI (c 1)) (nI (vl (t + 2)))).2.1 o f = if o = tx ∧ f = 11 then upd (S.2.1 tx 11) (c 1) (nI (vl (t + 2))) else if o = tx ∧ f = 10 then upd (S.2.1 tx 10) (c 1) (jMmax 0 (odX vl l 0 (t + 1))) else S.2.1 o f := fun o f => by
    simp only [sA_2, f3.2, f2.2, pI_2, sL_2, f1.2, cc]
    simp
  have I2 : ∀ o, o ≠ 3 → (sA z3.2 tx 11 (nI (c 1)) (nI (vl (t + 2)))).1 o = (pI S tx 1 (nI (c 1 + 1))).1 o := fun o ho => by
    rw [sA_1, f3.1 o ho, sA_1, f2.1 o ho]
    funext k
    rw [pI_1, pI_1, sL_1, f1.1 o ho]
  have L : ∀ f, (sA z3.2 tx 11 (nI (c 1)) (nI (vl (t + 2)))).2.2 3 f = if f = 5 then vp_updL (S.2.2 3 5) (c 1) (lN (vl t)) else S.2.2 3 f := fun f => by
    simp only [sA_3, f3.2, f2.2, pI_2, sL_3, f1.2, cc]
    simp
  refine Ok.i ⟨?_, s4, ?_, fun z => ?_⟩
  · exact ((((F3.o4 f1).tr (O4.ll _ _)).tr (O4.p _)).tr ((F3.o4 f2).tr (O4.s _ _))).tr ((F3.o4 f3).tr (O4.s _ _))
  · unfold MC
    rw [I2 tx (by omega)]
    exact ⟨by simp [pI_1, cjN], by show c 1 + 1 ≤ 7; omega, by simp [pI_1, cjN, i2], hL.2.2.1⟩
  · obtain ⟨z, b1, b2⟩ := bdW_0 z
    obtain ⟨z, b3⟩ := odW_0 z
    obtain ⟨z, b5⟩ := nwW_0 z
    obtain ⟨hm, hm1, hm2⟩ := odX_ok hN (by omega) b3
    have mx : jMmax 0 (odX vl l 0 (t + 1)) = odX vl l 0 (t + 1) := by
      rw [hm2]; unfold jMmax
      by_cases q : hm = 0
      · rw [q]; rfl
      · rw [if_pos (show (0 : Int32) < nI hm from nI_lt (a := 0) (by omega) (by have := hL.1; omega))]
    rw [mx] at A
    refine ⟨hN.add (s := 1) (by omega) b5 (E.2.2.2.2.2 t (by omega) k0) (L 5) (fun s' a b => by rw [L, if_neg (by omega)]), ?_, ?_, ?_, ?_⟩
    · obtain ⟨q0, q1, q2, q3⟩ := hL
      exact ⟨q0, by show c 1 + 1 ≤ 7; omega, q2, q3⟩
    · obtain ⟨p1, p2, p3, p4, p5, p6, p7, p8⟩ := hP
      unfold CP
      rw [I2 tx (by omega)]
      refine ⟨by simp [pI_1, cjN, p1], by simp [pI_1, upd2, p2], by simp [pI_1, upd2, cjN, p3], fun u hu => ?_, fun a ha => ?_, fun a ha => ?_, fun s hs => ?_, fun k hk => ?_⟩
      · have := p4 u hu
        rw [A, A]; simp [upd2, this]
      · have ha : a < c 1 + 1 := ha
        rw [A, A]
        by_cases q : a = c 1
        · subst q; simp [upd_at, upd2]
        · have := p5 a (by omega)
          simp [upd_at, upd2, q, this]
      · have := p6 a ha
        rw [A]; simp [upd2, this, cjN]
      · have := p7 s hs
        rw [A]; simp [upd2, this]
      · have := p8 k hk
        rw [A, A]; simp [upd2, this]
    · obtain ⟨p1, p2, p3, p4, p5, p6, p7⟩ := hG
      refine ⟨⟨p1.1, rfl, p1.2.2.1, p1.2.2.2⟩, p2, fun a ha => ?_, fun s hs => ?_, fun k hk => ?_, p6, p7⟩
      · have ha : a < c 1 + 1 := ha
        by_cases q : a = c 1
        · subst q; exact ⟨⟨hm, hm1, by simp [upd2, hm2]⟩, vl (t + 2), b2, by simp [upd2]⟩
        · have := p3 a (by omega)
          simp [upd2, q]; exact this
      · obtain ⟨y1, y2, y3⟩ := p4 s hs
        exact ⟨y1, y2, fun i hi hi2 => y3 i (by have : c 1 + 1 ≤ i := hi; omega) hi2⟩
      · obtain ⟨⟨x, hx, ex⟩, y, hy, ey⟩ := p5 k hk
        exact ⟨⟨x, by show x < c 1 + 1; omega, ex⟩, y, by show y < c 1 + 1; omega, ey⟩
    · refine hW.e (fun o o1 o2 => ?_) (fun o o1 o2 => ?_)
      · rw [I2 o (by omega), pI_o (by omega)]
      · rw [A, if_neg (by omega), if_neg (by omega)]
def tiV (vl : Nat → Nat) (l : NLt) (t : Nat) (w : Nat × Nat) : Nat × Nat := if odX vl l 1 t = odX vl l 1 (t + 1) then wr 3 (t + 1) (odW vl l 1 (t + 1) (odW vl l 1 t w)) else odW vl l 1 (t + 1) (odW vl l 1 t w)
theorem CJ.p (hI : CJ tx c l T G S) : CP c T tx S := hI.2.2.1
theorem Mn_putTie (E : EV kd pl vl Q) (h20 : 20 ≤ tx) (hT : TC kd pl vl Q S) (h : CS pl w t S) (hI : CJ tx c l T G S) (ht : t + 1 ≤ Q) (k0 : kd t = 97) (k1 : kd (t + 1) = 97) (hc : c 3 < 12) : Ok (tlC pl tx (cjN 3 c) l (upd2 (upd2 (upd2 T 8 (c 3) (odX vl l 1 t)) 9 (c 3) (odX vl l 1 (t + 1))) 0 3 (nI (c 3 + 1))) G (tiV vl l t w) (t + 2) S) (f_Mn_putTie tx S) := by
  have hQ := E.1.1
  obtain ⟨hN, hL, hP, hG, hW⟩ := hI
  obtain ⟨i0, i1, i2, i3⟩ := hP.1
  unfold f_Mn_putTie f_Mn_putTie_b0
  rw [letS_e, i3, if_pos (show nI (c 3) < (12 : Int32) from nI_lt (b := 12) hc (by decide)), i1]
  refine (show Ok _ (f_Mn_oldName 5 _ _) from Mn_oldName (s := 1) hQ hT h (by omega) k0 (E.2.2.2.2.2 _ (by omega) k0) (by omega) hN hL).b (fun z1 g1 => ?_)
  obtain ⟨a1, f1, s1⟩ := g1
  rw [letS_e, a1, show z1.2.1 tx 1 = nI (c 1) by rw [f1.1 tx (by omega)]; exact i1]
  refine (show Ok _ (f_Mn_oldName 5 _ _) from Mn_oldName (s := 1) hQ (hT.f3 f1) s1 (by omega) k1 (E.2.2.2.2.2 _ (by omega) k1) (by omega) (hN.e (by rw [f1.2])) hL).b (fun z2 g2 => ?_)
  obtain ⟨a2, f2, s2⟩ := g2
  rw [letS_e, a2]
  have F2 := f1.tr f2
  have fin : ∀ S2, F3 S S2 → CS pl (tiV vl l t w) (t + 2) S2 → Ok (tlC pl tx (cjN 3 c) l (upd2 (upd2 (upd2 T 8 (c 3) (odX vl l 1 t)) 9 (c 3) (odX vl l 1 (t + 1))) 0 3 (nI (c 3 + 1))) G (tiV vl l t w) (t + 2) S) (f_Mn_putTie_b56 tx (nI (c 3)) (odX vl l 1 t) (odX vl l 1 (t + 1)) S2) := fun S2 fs ss => by
    unfold f_Mn_putTie_b56
    have e3 : ∀ x y, (sA (sA S2 tx 15 (nI (c 3)) x) tx 16 (nI (c 3)) y).1 tx 3 = nI (c 3) := fun x y => by rw [sA_1, sA_1, fs.1 tx (by omega)]; exact i3
    rw [gIn_n (show c 3 < 12 by omega) (by decide), letS_e, gIn_n (show c 3 < 12 by omega) (by decide), letS_e, letS_e, e3, nI_1]
    have cc : (nI (c 3)).toNatClampNeg = c 3 := cl (by omega)
    refine Ok.i ⟨((F3.o4 fs).tr (O4.s _ _)).tr ((O4.s _ _).tr (O4.p _)), ss.o (by rw [pI_o (by omega), sA_1, sA_1]), ⟨by rw [pI_1, if_neg (by omega), sA_1, sA_1, fs.1 tx (by omega)]; exact i1, hL.2.1, by rw [pI_1, if_neg (by omega), sA_1, sA_1, fs.1 tx (by omega)]; exact i2, hL.2.2.1⟩, fun z => ?_⟩
    have zz : (odW vl l 1 (t + 1) (odW vl l 1 t w)).1 = 0 := by
      unfold tiV at z
      by_cases q : odX vl l 1 t = odX vl l 1 (t + 1)
      · rw [if_pos q] at z; exact absurd z (fun y => wr_0 (by omega) y)
      · rw [if_neg q] at z; exact z
    obtain ⟨zz, b1⟩ := odW_0 zz
    obtain ⟨zz, b2⟩ := odW_0 zz
    obtain ⟨h1, h11, h12⟩ := odX_ok hN (by omega) b1
    obtain ⟨h2, h21, h22⟩ := odX_ok hN (by omega) b2
    have mx : ∀ n, n < c 1 → jMmax 0 (nI n) = nI n := fun n hn => by
      unfold jMmax
      by_cases q : n = 0
      · rw [q]; rfl
      · rw [if_pos (show (0 : Int32) < nI n from nI_lt (a := 0) (by omega) (by have := hL.2.1; omega))]
    rw [h12, h22, mx _ h11, mx _ h21]
    have A : ∀ o f, (pI (sA (sA S2 tx 15 (nI (c 3)) (nI h2)) tx 16 (nI (c 3)) (nI h1)) tx 3 (nI (c 3 + 1))).2.1 o f = if o = tx ∧ f = 16 then upd (S.2.1 tx 16) (c 3) (nI h1) else if o = tx ∧ f = 15 then upd (S.2.1 tx 15) (c 3) (nI h2) else S.2.1 o f := fun o f => by
      simp only [sA_2, pI_2, fs.2, cc]
      simp
    have I2 : ∀ o, o ≠ 3 → (pI (sA (sA S2 tx 15 (nI (c 3)) (nI h2)) tx 16 (nI (c 3)) (nI h1)) tx 3 (nI (c 3 + 1))).1 o = (pI S tx 3 (nI (c 3 + 1))).1 o := fun o ho => by
      funext k
      rw [pI_1, pI_1, sA_1, sA_1, fs.1 o ho]
    refine ⟨(hN.u (fun s i _ _ => by rw [pI_2, sA_3, sA_3, fs.2])).cc (fun s hs => by unfold cjN; rw [if_neg (by omega)]), ?_, ?_, ?_, ?_⟩
    · obtain ⟨q0, q1, q2, q3⟩ := hL
      exact ⟨q0, q1, q2, by show c 3 + 1 ≤ 12; omega⟩
    · obtain ⟨p1, p2, p3, p4, p5, p6, p7, p8⟩ := hP
      unfold CP
      rw [I2 tx (by omega)]
      refine ⟨by simp [pI_1, cjN, p1], by simp [pI_1, upd2, p2], by simp [pI_1, upd2, cjN, p3], fun u hu => ?_, fun a ha => ?_, fun a ha => ?_, fun s hs => ?_, fun k hk => ?_⟩
      · have := p4 u hu
        rw [A, A]; simp [upd2, this]
      · have := p5 a ha
        rw [A, A]; simp [upd2, this]
      · have := p6 a ha
        rw [A]; simp [upd2, this, cjN]
      · have := p7 s hs
        rw [A]; simp [upd2, this]
      · have hk : k < c 3 + 1 := hk
        rw [A, A]
        by_cases q : k = c 3
        · subst q; simp [upd_at, upd2]
        · have := p8 k (by omega)
          simp [upd_at, upd2, q, this]
    · obtain ⟨p1, p2, p3, p4, p5, p6, p7⟩ := hG
      refine ⟨⟨p1.1, p1.2.1, p1.2.2.1, rfl⟩, p2, p3, p4, fun k hk => ?_, p6, p7⟩
      have hk : k < c 3 + 1 := hk
      by_cases q : k = c 3
      · subst q; exact ⟨⟨h2, h21, by simp [upd2]⟩, h1, h11, by simp [upd2]⟩
      · have := p5 k (by omega)
        simp [upd2, q]; exact this
    · refine hW.e (fun o o1 o2 => ?_) (fun o o1 o2 => ?_)
      · rw [I2 o (by omega), pI_o (by omega)]
      · rw [A, if_neg (by omega), if_neg (by omega)]
  by_cases q : odX vl l 1 t = odX vl l 1 (t + 1)
  · rw [if_pos q, s2.2.2, nI_pred]
    refine (show Ok _ (f_Mn_failed 3 _ _) from Mn_failed (k := 3) hQ (hT.f3 F2) s2 (by omega) ht).b (fun S3 g3 => ?_)
    exact fin S3 (F2.tr g3.1) (by unfold tiV; rw [if_pos q]; exact g3.2)
  · rw [if_neg q]
    exact fin z2.2 F2 (by unfold tiV; rw [if_neg q]; exact s2)
