/-! READ: the class puts down what is told: wells, men, ties, numbers. -/
variable {kd : Nat → Int32} {pl vl : Nat → Nat} {Q tx : Nat} {c : Nat → Nat} {l : NLt} {T : TX} {G : LwG} {w : Nat × Nat} {t : Nat} {S S' : Mem}
/-- only the meaning and the text tx are changed -/
def O4 (tx : Nat) (S S' : Mem) : Prop := (∀ o, o ≠ 3 → ¬ (tx ≤ o ∧ o ≤ tx + 3) → S'.1 o = S.1 o) ∧ (∀ o f, ¬ (tx ≤ o ∧ o ≤ tx + 3) → S'.2.1 o f = S.2.1 o f) ∧ ∀ o f, o ≠ 3 → S'.2.2 o f = S.2.2 o f
theorem O4.rf (tx : Nat) (S : Mem) : O4 tx S S := ⟨fun _ _ _ => rfl, fun _ _ _ => rfl, fun _ _ _ => rfl⟩
theorem O4.tr {A B C : Mem} (h1 : O4 tx A B) (h2 : O4 tx B C) : O4 tx A C := ⟨fun o a b => (h2.1 o a b).trans (h1.1 o a b), fun o f a => (h2.2.1 o f a).trans (h1.2.1 o f a), fun o f a => (h2.2.2 o f a).trans (h1.2.2 o f a)⟩
theorem F3.o4 (h : F3 S S') : O4 tx S S' := ⟨fun o a _ => h.1 o a, fun o f _ => by rw [h.2], fun o f _ => by rw [h.2]⟩
theorem O4.p {k : Nat} (x : Int32) : O4 tx S (pI S tx k x) := ⟨fun o _ b => by funext k'; rw [pI_1, if_neg (fun z => b (by omega))], fun _ _ _ => rfl, fun _ _ _ => rfl⟩
theorem O4.s {f : Nat} (i x : Int32) : O4 tx S (sA S tx f i x) := ⟨fun _ _ _ => rfl, fun o f' b => by rw [sA_2, if_neg (fun z => b (by omega))], fun _ _ _ => rfl⟩
theorem O4.ll {f : Nat} (i : Int32) (x : Int64) : O4 tx S (sL S 3 f i x) := ⟨fun _ _ _ => rfl, fun _ _ _ => rfl, fun o f' b => by rw [sL_3, if_neg (fun z => b z.1)]⟩
theorem TC.o4 (h : TC kd pl vl Q S) (hf : O4 tx S S') (h20 : 20 ≤ tx) : TC kd pl vl Q S' := fun i hi => by
  rw [hf.2.1 1 3 (by omega), hf.2.1 1 4 (by omega), hf.2.2 1 5 (by omega)]; exact h i hi
/-- the text as far as it is put down -/
def CP (c : Nat → Nat) (T : TX) (tx : Nat) (S : Mem) : Prop := (S.1 tx 0 = nI (c 0) ∧ S.1 tx 1 = nI (c 1) ∧ S.1 tx 2 = nI (c 2) ∧ S.1 tx 3 = nI (c 3)) ∧ (S.1 tx 5 = T 0 4 ∧ S.1 tx 6 = T 0 5 ∧ S.1 tx 7 = T 0 6) ∧ S.1 tx 4 = orF (fun s => if T 6 s = 0 then 0 else bitM s) (c 2) ∧ (∀ w, w < c 0 → S.2.1 tx 8 w = T 1 w ∧ S.2.1 tx 9 w = T 2 w) ∧ (∀ a, a < c 1 → S.2.1 tx 10 a = T 3 a ∧ S.2.1 tx 11 a = T 4 a) ∧ (∀ a, a < 7 → S.2.1 tx 12 a = orF (fun s => if bitOf (T 7 s) a = 1 then bitM s else 0) (c 2)) ∧ (∀ s, s < c 2 → S.2.1 tx 13 s = T 5 s) ∧ ∀ k, k < c 3 → S.2.1 tx 15 k = T 8 k ∧ S.2.1 tx 16 k = T 9 k
/-- what is told is in its bounds -/
def GT (c : Nat → Nat) (T : TX) : Prop := (T 0 0 = nI (c 0) ∧ T 0 1 = nI (c 1) ∧ T 0 2 = nI (c 2) ∧ T 0 3 = nI (c 3)) ∧ (∀ w, w < c 0 → (∃ v, v ≤ 999 ∧ T 1 w = nI v) ∧ ∃ v, v ≤ 999 ∧ T 2 w = nI v) ∧ (∀ a, a < c 1 → (∃ w, w < c 0 ∧ T 3 a = nI w) ∧ ∃ v, v ≤ 99 ∧ T 4 a = nI v) ∧ (∀ s, s < c 2 → (∃ h, 1 ≤ h ∧ h ≤ 99 ∧ T 5 s = nI h) ∧ (T 6 s = 0 ∨ T 6 s = 1) ∧ ∀ i, c 1 ≤ i → i < 32 → bt (T 7 s) i = false) ∧ (∀ k, k < c 3 → (∃ a, a < c 1 ∧ T 8 k = nI a) ∧ ∃ a, a < c 1 ∧ T 9 k = nI a) ∧ (∃ v, 1 ≤ v ∧ v ≤ 99 ∧ T 0 4 = nI v) ∧ ∃ v, v ≤ 99 ∧ T 0 5 = nI v
def CJ (tx : Nat) (c : Nat → Nat) (l : NLt) (T : TX) (G : LwG) (S : Mem) : Prop := NmC l c S ∧ cLe c ∧ CP c T tx S ∧ GT c T ∧ lwsM tx S G
def MC (c : Nat → Nat) (tx : Nat) (S : Mem) : Prop := S.1 tx 1 = nI (c 1) ∧ c 1 ≤ 7 ∧ S.1 tx 2 = nI (c 2) ∧ c 2 ≤ 8
def tlC (pl : Nat → Nat) (tx : Nat) (c' : Nat → Nat) (l' : NLt) (T' : TX) (G' : LwG) (w' : Nat × Nat) (t' : Nat) (S S' : Mem) : Prop := O4 tx S S' ∧ CS pl w' t' S' ∧ MC c' tx S' ∧ (w'.1 = 0 → CJ tx c' l' T' G' S')
theorem wr_0 {k tok : Nat} (hk : 1 ≤ k) (h : (wr k tok w).1 = 0) : False := by
  unfold wr at h
  by_cases q : w.1 = 0
  · rw [if_pos q] at h
    have : k = 0 := h
    omega
  · rw [if_neg q] at h; exact q h
theorem bdW_0 {lo hi : Nat} (h : (bdW vl lo hi t w).1 = 0) : w.1 = 0 ∧ lo ≤ vl t ∧ vl t ≤ hi := by
  unfold bdW at h
  by_cases q : vl t < lo ∨ hi < vl t
  · rw [if_pos q] at h; exact absurd h (fun z => wr_0 (by omega) z)
  · rw [if_neg q] at h; exact ⟨h, by omega, by omega⟩
theorem nwW_0 (h : (nwW vl l t w).1 = 0) : w.1 = 0 ∧ ¬ fdN l 3 (vl t) l.1 < l.1 := by
  unfold nwW at h
  by_cases q : fdN l 3 (vl t) l.1 < l.1
  · rw [if_pos q] at h; exact absurd h (fun z => wr_0 (by omega) z)
  · rw [if_neg q] at h; exact ⟨h, q⟩
theorem odW_0 {s : Nat} (h : (odW vl l s t w).1 = 0) : w.1 = 0 ∧ fdN l s (vl t) l.1 < l.1 := by
  unfold odW at h
  by_cases q : fdN l s (vl t) l.1 < l.1
  · rw [if_pos q] at h; exact ⟨h, q⟩
  · rw [if_neg q] at h; exact absurd h (fun z => wr_0 (by omega) z)
theorem NmC.add (hN : NmC l c S) {s x : Nat} (hs : s ≤ 2) (hn : ¬ fdN l 3 x l.1 < l.1) (hx : x < 2 ^ 62) (e : S'.2.2 3 (4 + s) = vp_updL (S.2.2 3 (4 + s)) (c s) (lN x)) (eo : ∀ s', s' ≤ 2 → s' ≠ s → S'.2.2 3 (4 + s') = S.2.2 3 (4 + s')) : NmC (notS l x s (c s)) (cjN s c) S' := by
  obtain ⟨n1, n2, n3⟩ := hN
  have new : ∀ j, j < l.1 → ¬ (l.2 j).1 = x := fun j hj z => fd_n hn hj ⟨z, Or.inl rfl⟩
  refine ⟨fun j hj => ?_, fun s' i hs' hi => ?_, fun j j' hj hj' => ?_⟩
  · have hj : j < l.1 + 1 := hj
    unfold notS
    by_cases q : j = l.1
    · simp only [if_pos q]
      refine ⟨hs, by unfold cjN; rw [if_pos rfl]; omega, ?_, hx⟩
      rw [e, updL_at, if_pos rfl]
    · simp only [if_neg q]
      obtain ⟨a1, a2, a3, a4⟩ := n1 j (by omega)
      refine ⟨a1, ?_, ?_, a4⟩
      · unfold cjN
        by_cases z : (l.2 j).2.1 = s
        · rw [if_pos z]; omega
        · rw [if_neg z]; exact a2
      · by_cases z : (l.2 j).2.1 = s
        · rw [z, e, updL_at, if_neg (by rw [z] at a2; omega)]; rw [z] at a3; exact a3
        · rw [eo _ a1 z]; exact a3
  · unfold cjN at hi
    by_cases q : s' = s
    · rw [if_pos q] at hi
      by_cases q2 : i = c s
      · refine ⟨l.1, Nat.lt_succ_self _, ?_⟩
        unfold notS
        simp only [if_pos]
        exact ⟨q.symm, q2.symm⟩
      · obtain ⟨j, hj, j1, j2⟩ := n2 s' i hs' (by rw [q]; rw [q] at hi; omega)
        refine ⟨j, Nat.lt_succ_of_lt hj, ?_⟩
        unfold notS
        simp only [if_neg (show ¬ j = l.1 by omega)]
        exact ⟨j1, j2⟩
    · rw [if_neg q] at hi
      obtain ⟨j, hj, j1, j2⟩ := n2 s' i hs' hi
      refine ⟨j, Nat.lt_succ_of_lt hj, ?_⟩
      unfold notS
      simp only [if_neg (show ¬ j = l.1 by omega)]
      exact ⟨j1, j2⟩
  · have hj : j < l.1 + 1 := hj
    have hj' : j' < l.1 + 1 := hj'
    unfold notS
    by_cases q : j = l.1
    · by_cases q' : j' = l.1
      · intro _; omega
      · simp only [if_pos q, if_neg q']
        intro z; exact absurd z.symm (new j' (by omega))
    · by_cases q' : j' = l.1
      · simp only [if_neg q, if_pos q']
        intro z; exact absurd z (new j (by omega))
      · simp only [if_neg q, if_neg q']
        exact n3 j j' (by omega) (by omega)
theorem lwsM.e (h : lwsM tx S G) (e1 : ∀ o, tx < o → o ≤ tx + 3 → S'.1 o = S.1 o) (e2 : ∀ o, tx < o → o ≤ tx + 3 → S'.2.1 o 0 = S.2.1 o 0) : lwsM tx S' G := fun k hk => lwM_e (e1 _ (by omega) (by omega)) (e2 _ (by omega) (by omega)) _ (h k hk)
theorem CP.i (h : CP c T tx S) : S.1 tx 0 = nI (c 0) ∧ S.1 tx 1 = nI (c 1) ∧ S.1 tx 2 = nI (c 2) ∧ S.1 tx 3 = nI (c 3) := h.1
def wlW (vl : Nat → Nat) (l : NLt) (t : Nat) (w : Nat × Nat) : Nat × Nat := bdW vl 0 999 (t + 2) (bdW vl 0 999 (t + 1) (nwW vl l t w))
theorem Mn_putWell (E : EV kd pl vl Q) (h20 : 20 ≤ tx) (hT : TC kd pl vl Q S) (h : CS pl w t S) (hI : CJ tx c l T G S) (ht : t + 2 ≤ Q) (k0 : kd t = 97) (k1 : kd (t + 1) = 48) (k2 : kd (t + 2) = 48) (hc : c 0 < 4) : Ok (tlC pl tx (cjN 0 c) (notS l (vl t) 0 (c 0)) (upd2 (upd2 (upd2 T 1 (c 0) (nI (vl (t + 1)))) 2 (c 0) (nI (vl (t + 2)))) 0 0 (nI (c 0 + 1))) G (wlW vl l t w) (t + 3) S) (f_Mn_putWell tx S) := by
  have hQ := E.1.1
  obtain ⟨hN, hL, hP, hG, hW⟩ := hI
  obtain ⟨i0, i1, i2, i3⟩ := hP.1
  unfold f_Mn_putWell f_Mn_putWell_b0
  rw [letS_e, i0, if_pos (show nI (c 0) < (4 : Int32) from nI_lt (b := 4) hc (by decide))]
  refine (Mn_newName hQ hT h (by omega) k0 (E.2.2.2.2.2 t (by omega) k0) hN hL i0 i1 i2).b (fun z1 g1 => ?_)
  obtain ⟨a1, f1, s1⟩ := g1
  rw [gIn_n (show c 0 < 4 by omega) (by decide), letS_e, letS_e, a1]
  have e29 : (sL z1.2 3 4 (nI (c 0)) (lN (vl t))).1 tx 0 = nI (c 0) := by rw [sL_1, f1.1 tx (by omega)]; exact i0
  rw [e29, nI_1]
  have T1 := (hT.f3 f1)
  have T2 : TC kd pl vl Q (pI (sL z1.2 3 4 (nI (c 0)) (lN (vl t))) tx 0 (nI (c 0 + 1))) := T1.o4 ((O4.ll (nI (c 0)) (lN (vl t))).tr (O4.p (nI (c 0 + 1)))) h20
  have s2 : CS pl (nwW vl l t w) (t + 1) (pI (sL z1.2 3 4 (nI (c 0)) (lN (vl t))) tx 0 (nI (c 0 + 1))) := by
    unfold CS
    rw [show ∀ k, (pI (sL z1.2 3 4 (nI (c 0)) (lN (vl t))) tx 0 (nI (c 0 + 1))).1 3 k = z1.2.1 3 k from fun k => by rw [pI_1, if_neg (by omega), sL_1], show ∀ k, (pI (sL z1.2 3 4 (nI (c 0)) (lN (vl t))) tx 0 (nI (c 0 + 1))).1 3 k = z1.2.1 3 k from fun k => by rw [pI_1, if_neg (by omega), sL_1], show ∀ k, (pI (sL z1.2 3 4 (nI (c 0)) (lN (vl t))) tx 0 (nI (c 0 + 1))).1 3 k = z1.2.1 3 k from fun k => by rw [pI_1, if_neg (by omega), sL_1]]
    exact s1
  refine (show Ok _ (f_Mn_number 0 999 _) from Mn_number (lo := 0) (hi := 999) hQ T2 s2 (by omega) k1 (E.2.2.2.2.1 _ (by omega) k1) (by omega) (by omega)).b (fun z2 g2 => ?_)
  obtain ⟨a2, f2, s2⟩ := g2
  rw [gIn_n (show c 0 < 4 by omega) (by decide), letS_e, a2]
  have T3 : TC kd pl vl Q (sA z2.2 tx 8 (nI (c 0)) (nI (vl (t + 1)))) := (T2.f3 f2).o4 (O4.s _ _) h20
  have s3 : CS pl (bdW vl 0 999 (t + 1) (nwW vl l t w)) (t + 2) (sA z2.2 tx 8 (nI (c 0)) (nI (vl (t + 1)))) := s2
  refine (show Ok _ (f_Mn_number 0 999 _) from Mn_number (lo := 0) (hi := 999) hQ T3 s3 (by omega) k2 (E.2.2.2.2.1 _ (by omega) k2) (by omega) (by omega)).b (fun z3 g3 => ?_)
  obtain ⟨a3, f3, s4⟩ := g3
  rw [gIn_n (show c 0 < 4 by omega) (by decide), letS_e, a3]
  have cc : (nI (c 0)).toNatClampNeg = c 0 := cl (by omega)
  have A : ∀ o f, (sA z3.2 tx 9 (nI (c 0)) (nI (vl (t + 2)))).2.1 o f = if o = tx ∧ f = 9 then upd (S.2.1 tx 9) (c 0) (nI (vl (t + 2))) else if o = tx ∧ f = 8 then upd (S.2.1 tx 8) (c 0) (nI (vl (t + 1))) else S.2.1 o f := fun o f => by
    simp only [sA_2, f3.2, f2.2, pI_2, sL_2, f1.2, cc]
    simp
  have I2 : ∀ o, o ≠ 3 → (sA z3.2 tx 9 (nI (c 0)) (nI (vl (t + 2)))).1 o = (pI S tx 0 (nI (c 0 + 1))).1 o := fun o ho => by
    rw [sA_1, f3.1 o ho, sA_1, f2.1 o ho]
    funext k
    rw [pI_1, pI_1, sL_1, f1.1 o ho]
  have L : ∀ f, (sA z3.2 tx 9 (nI (c 0)) (nI (vl (t + 2)))).2.2 3 f = if f = 4 then vp_updL (S.2.2 3 4) (c 0) (lN (vl t)) else S.2.2 3 f := fun f => by
    simp only [sA_3, f3.2, f2.2, pI_2, sL_3, f1.2, cc]
    simp
  refine Ok.i ⟨?_, s4, ?_, fun z => ?_⟩
  · exact ((((F3.o4 f1).tr (O4.ll _ _)).tr (O4.p _)).tr ((F3.o4 f2).tr (O4.s _ _))).tr ((F3.o4 f3).tr (O4.s _ _))
  · unfold MC
    rw [I2 tx (by omega)]
    exact ⟨by simp [pI_1, cjN, i1], hL.2.1, by simp [pI_1, cjN, i2], hL.2.2.1⟩
  · obtain ⟨z, b1, b2⟩ := bdW_0 z
    obtain ⟨z, b3, b4⟩ := bdW_0 z
    obtain ⟨z, b5⟩ := nwW_0 z
    refine ⟨hN.add (s := 0) (by omega) b5 (E.2.2.2.2.2 t (by omega) k0) (L 4) (fun s' a b => by rw [L, if_neg (by omega)]), ?_, ?_, ?_, ?_⟩
    · obtain ⟨q0, q1, q2, q3⟩ := hL
      exact ⟨by show c 0 + 1 ≤ 4; omega, q1, q2, q3⟩
    · obtain ⟨p1, p2, p3, p4, p5, p6, p7, p8⟩ := hP
      unfold CP
      rw [I2 tx (by omega)]
      refine ⟨by simp [pI_1, cjN, p1], by simp [pI_1, upd2, p2], by simp [pI_1, upd2, cjN, p3], fun u hu => ?_, fun a ha => ?_, fun a ha => ?_, fun s hs => ?_, fun k hk => ?_⟩
      · have hu : u < c 0 + 1 := hu
        rw [A, A]
        by_cases q : u = c 0
        · subst q; simp [upd_at, upd2]
        · have := p4 u (by omega)
          simp [upd_at, upd2, q, this]
      · have := p5 a ha
        rw [A, A]; simp [upd2, this]
      · have := p6 a ha
        rw [A]; simp [upd2, this, cjN]
      · have := p7 s hs
        rw [A]; simp [upd2, this]
      · have := p8 k hk
        rw [A, A]; simp [upd2, this]
    · obtain ⟨p1, p2, p3, p4, p5, p6, p7⟩ := hG
      refine ⟨⟨rfl, p1.2.1, p1.2.2.1, p1.2.2.2⟩, fun u hu => ?_, fun a ha => ?_, p4, p5, p6, p7⟩
      · have hu : u < c 0 + 1 := hu
        by_cases q : u = c 0
        · subst q; exact ⟨⟨vl (t + 1), b4, by simp [upd2]⟩, vl (t + 2), b2, by simp [upd2]⟩
        · have := p2 u (by omega)
          simp [upd2, q]; exact this
      · obtain ⟨⟨x, hx, ex⟩, y⟩ := p3 a ha
        exact ⟨⟨x, by show x < c 0 + 1; omega, ex⟩, y⟩
    · refine hW.e (fun o o1 o2 => ?_) (fun o o1 o2 => ?_)
      · rw [I2 o (by omega)]; funext k; rw [pI_1, if_neg (by omega)]
      · rw [A, if_neg (by omega), if_neg (by omega)]
