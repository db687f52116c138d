/-! READ: the class puts down a secret, whole. -/
variable {kd : Nat → Int32} {pl vl : Nat → Nat} {Q tx : Nat} {c : Nat → Nat} {l : NLt} {T : TX} {G : LwG} {w : Nat × Nat} {t : Nat} {S S' : Mem}
def seW (vl : Nat → Nat) (l : NLt) (t : Nat) (w : Nat × Nat) : Nat × Nat := bdW vl 1 99 (t + 1) (nwW vl l t w)
def seN (kd : Nat → Int32) (vl : Nat → Nat) (l : NLt) (t : Nat) (w : Nat × Nat) : PS × Int32 := knF kd vl l 402 (scP kd (0, t + 2), seW vl l t w) 0
theorem tkQ (hQ : KQ kd Q) {k : Int32} (hk : ¬ (k = 0 ∨ k = 1)) (ht : t ≤ Q) (h : tk kd k (0, t) = (0, t + 1)) : t + 1 ≤ Q := by
  have := (tk_ok hQ hk ht).1
  rw [h] at this; exact this
theorem or0 (x : Int32) : x ||| 0 = x := Int32.or_zero
theorem Mn_putSecret (E : EV kd pl vl Q) (h20 : 20 ≤ tx) (hT : TC kd pl vl Q S) (h : CS pl w t S) (hI : CJ tx c l T G S) (ht : t ≤ Q) (hz : (seP kd (0, t)).1 = 0) (hc : c 2 < 8) : Ok (tlC pl tx (cjN 2 c) (notS l (vl t) 2 (c 2)) (upd2 (upd2 (upd2 (upd2 T 5 (c 2) (nI (vl (t + 1)))) 6 (c 2) (if kd (t + 2) = 138 then 1 else 0)) 7 (c 2) (seN kd vl l t w).2) 0 2 (nI (c 2 + 1))) G (seN kd vl l t w).1.2 (nmsF kd 402 (scP kd (0, t + 2))).2 S) (f_Mn_putSecret tx S) := by
  have hQ := E.1.1
  obtain ⟨-, k0, k1, tk1, tk2'⟩ := seP_0 hz
  have k0 : kd t = 97 := k0
  have k1 : kd (t + 1) = 48 := k1
  have tk1 : tk kd 97 (0, t) = (0, t + 1) := tk1
  have tk2' : tks kd [97, 48] (0, t) = (0, t + 2) := tk2'
  have q1 := tkQ E.1 (by decide) ht tk1
  have tk2 : tk kd 48 (0, t + 1) = (0, t + 2) := by rw [← tk1]; exact tk2'
  have q2 := tkQ E.1 (by decide) q1 tk2
  have zN : (nmsF kd 402 (scP kd (0, t + 2))).1 = 0 := by
    have := (tk_0 (show (tk kd 59 (nmsF kd 402 (scP kd (tks kd [97, 48] (0, t))))).1 = 0 from hz)).1
    rw [tk2'] at this; exact this
  have zS := nms_0 _ _ zN
  obtain ⟨hN, hL, hP, hG, hW⟩ := hI
  obtain ⟨i0, i1, i2, i3⟩ := hP.1
  unfold f_Mn_putSecret f_Mn_putSecret_b0
  rw [letS_e, i2, if_pos (show nI (c 2) < (8 : Int32) from nI_lt (b := 8) hc (by decide))]
  refine (Mn_newName hQ hT h (by omega) k0 (E.2.2.2.2.2 t (by omega) k0) hN hL i0 i1 i2).b (fun z1 g1 => ?_)
  obtain ⟨a1, f1, s1⟩ := g1
  rw [gIn_n (show c 2 < 8 by omega) (by decide), letS_e, letS_e, a1]
  have e29 : (sL z1.2 3 6 (nI (c 2)) (lN (vl t))).1 tx 2 = nI (c 2) := by rw [sL_1, f1.1 tx (by omega)]; exact i2
  rw [e29, nI_1]
  have cc : (nI (c 2)).toNatClampNeg = c 2 := cl (by omega)
  have T1 := (hT.f3 f1)
  have T2 : TC kd pl vl Q (pI (sL z1.2 3 6 (nI (c 2)) (lN (vl t))) tx 2 (nI (c 2 + 1))) := T1.o4 ((O4.ll (nI (c 2)) (lN (vl t))).tr (O4.p (nI (c 2 + 1)))) h20
  have s2 : CS pl (nwW vl l t w) (t + 1) (pI (sL z1.2 3 6 (nI (c 2)) (lN (vl t))) tx 2 (nI (c 2 + 1))) := s1.o (by rw [pI_o (by omega), sL_1])
  have O2 : O4 tx S (pI (sL z1.2 3 6 (nI (c 2)) (lN (vl t))) tx 2 (nI (c 2 + 1))) := ((F3.o4 f1).tr (O4.ll _ _)).tr (O4.p _)
  refine (show Ok _ (f_Mn_number 1 99 _) from Mn_number (lo := 1) (hi := 99) hQ T2 s2 (by omega) k1 (E.2.2.2.2.1 _ (by omega) k1) (by omega) (by omega)).b (fun z2 g2 => ?_)
  obtain ⟨a2, f2, s3⟩ := g2
  rw [gIn_n (show c 2 < 8 by omega) (by decide), letS_e, a2]
  have A : ∀ o f, (sA z2.2 tx 13 (nI (c 2)) (nI (vl (t + 1)))).2.1 o f = if o = tx ∧ f = 13 then upd (S.2.1 tx 13) (c 2) (nI (vl (t + 1))) else S.2.1 o f := fun o f => by
    simp only [sA_2, f2.2, pI_2, sL_2, f1.2, cc]
  have I2 : ∀ o, o ≠ 3 → (sA z2.2 tx 13 (nI (c 2)) (nI (vl (t + 1)))).1 o = (pI S tx 2 (nI (c 2 + 1))).1 o := fun o ho => by
    rw [sA_1, f2.1 o ho]
    funext k
    rw [pI_1, pI_1, sL_1, f1.1 o ho]
  have L : ∀ f, (sA z2.2 tx 13 (nI (c 2)) (nI (vl (t + 1)))).2.2 3 f = if f = 6 then vp_updL (S.2.2 3 6) (c 2) (lN (vl t)) else S.2.2 3 f := fun f => by
    simp only [sA_3, f2.2, pI_2, sL_3, f1.2, cc]
    simp
  have O3 : O4 tx S (sA z2.2 tx 13 (nI (c 2)) (nI (vl (t + 1)))) := (O2.tr (F3.o4 f2)).tr (O4.s _ _)
  have s3 : CS pl (seW vl l t w) (t + 2) (sA z2.2 tx 13 (nI (c 2)) (nI (vl (t + 1)))) := s3
  generalize sA z2.2 tx 13 (nI (c 2)) (nI (vl (t + 1))) = S45 at A I2 L O3 s3 ⊢
  have T45 : TC kd pl vl Q S45 := hT.o4 O3 h20
  have N45 : NmC l c S45 := hN.u (fun s i hs hi => by
    rw [L]
    by_cases q : 4 + s = 6
    · have e : s = 2 := by omega
      subst e
      rw [if_pos rfl, updL_at, if_neg (by omega)]
    · rw [if_neg q])
  rw [s3.2.2, Tp_kindAt hQ T45 q2, bind_e]
  obtain ⟨p1, p2, p3, p4, p5, p6, p7, p8⟩ := hP
  -- from the state S1 behind what is false or not
  have fin : ∀ S1 t3, O4 tx S S1 → CS pl (seW vl l t w) t3 S1 → NmC l c S1 → scP kd (0, t + 2) = (0, t3) → t3 ≤ Q → (∀ o f, S1.2.1 o f = S45.2.1 o f) → (∀ f, S1.2.2 3 f = S45.2.2 3 f) → (∀ o, o ≠ 3 → o ≠ tx → S1.1 o = S45.1 o) → (∀ k, k ≠ 4 → S1.1 tx k = S45.1 tx k) → S1.1 tx 4 = (S.1 tx 4 ||| (if kd (t + 2) = 138 then bitM (c 2) else 0)) → Ok (tlC pl tx (cjN 2 c) (notS l (vl t) 2 (c 2)) (upd2 (upd2 (upd2 (upd2 T 5 (c 2) (nI (vl (t + 1)))) 6 (c 2) (if kd (t + 2) = 138 then 1 else 0)) 7 (c 2) (seN kd vl l t w).2) 0 2 (nI (c 2 + 1))) G (seN kd vl l t w).1.2 (nmsF kd 402 (scP kd (0, t + 2))).2 S) (f_Mn_putSecret_l87 tx 5000 (nI (c 2)) 0 S1) := by
    intro S1 t3 o1 ss nn es tq aa ll ii ik i4
    have kk : KnM tx (c 2) (fun a => orF (fun s => if bitOf (T 7 s) a = 1 then bitM s else 0) (c 2)) 0 S1 := fun a ha => by
      have z0 : ¬ bitOf 0 a = 1 := by rw [bitOf_1 _ (show a < 32 by omega), b_0]; decide
      rw [aa, A, if_neg (by omega), p6 a ha, if_neg z0, or0]
    have kf : ∀ a, a < 7 → bt (orF (fun s => if bitOf (T 7 s) a = 1 then bitM s else 0) (c 2)) (c 2) = false := fun a ha => by
      refine Bool.eq_false_iff.mpr (fun z => ?_)
      obtain ⟨j, hj, e⟩ := (bt_orF (c 2) (c 2)).mp z
      by_cases q : bitOf (T 7 j) a = 1
      · simp only [if_pos q] at e
        rw [bt_bitM (by omega) (by omega)] at e
        have := of_decide_eq_true e
        omega
      · simp only [if_neg q] at e
        rw [b_0] at e; exact absurd e (by decide)
    have e1 : S1.1 tx 1 = nI (c 1) := by rw [ik 1 (by decide), I2 tx (by omega), pI_1, if_neg (by omega)]; exact i1
    have eN : nmsF kd 402 (scP kd (0, t + 2)) = nmsF kd 402 (0, t3) := by rw [es]
    have eK : seN kd vl l t w = knF kd vl l 402 ((0, t3), seW vl l t w) 0 := by unfold seN; rw [es]
    rw [eN] at zN ⊢
    rw [eK]
    refine (Mn_knows E h20 hL hc kf 402 5000 0 t3 (seW vl l t w) 0 S1 (hT.o4 o1 h20) ss nn e1 kk (fun i _ _ => b_0 i) tq (by omega) (by omega) (by omega) zN).m (fun S2 g => ?_)
    obtain ⟨f5, s5, k5, b5⟩ := g
    refine ⟨o1.tr f5.o4, s5, ⟨by rw [f5.1 tx (by omega)]; exact e1, hL.2.1, by rw [f5.1 tx (by omega), ik 2 (by decide), I2 tx (by omega), pI_1, if_pos ⟨rfl, rfl⟩]; rfl, by show c 2 + 1 ≤ 8; omega⟩, fun z => ?_⟩
    have zw : (seW vl l t w).1 = 0 := Classical.byContradiction (fun y => y (by rw [knF_k _ ((0, t3), seW vl l t w) _ y] at z; exact z))
    obtain ⟨zw, v1, v2⟩ := bdW_0 zw
    obtain ⟨-, v3⟩ := nwW_0 zw
    generalize (knF kd vl l 402 ((0, t3), seW vl l t w) 0).2 = B at k5 b5 ⊢
    have A2 : ∀ o f, ¬ (o = tx ∧ f = 12) → S2.2.1 o f = if o = tx ∧ f = 13 then upd (S.2.1 tx 13) (c 2) (nI (vl (t + 1))) else S.2.1 o f := fun o f hn => by rw [f5.2.1 o f hn, aa, A]
    refine ⟨hN.add (s := 2) (by omega) v3 (E.2.2.2.2.2 t (by omega) k0) (by rw [f5.2.2, ll, L, if_pos rfl]) (fun s' a b => by rw [f5.2.2, ll, L, if_neg (by omega)]), ?_, ?_, ?_, ?_⟩
    · obtain ⟨x0, x1, x2, x3⟩ := hL
      exact ⟨x0, x1, by show c 2 + 1 ≤ 8; omega, x3⟩
    · have J : ∀ k, k ≠ 4 → S2.1 tx k = if k = 2 then nI (c 2 + 1) else S.1 tx k := fun k hk => by
        rw [f5.1 tx (by omega), ik k hk, I2 tx (by omega), pI_1]
        by_cases y : k = 2
        · rw [if_pos ⟨rfl, y⟩, if_pos y]
        · rw [if_neg (fun z => y z.2), if_neg y]
      unfold CP
      refine ⟨?_, ?_, ?_, fun u hu => ?_, fun a ha => ?_, fun a ha => ?_, fun s hs => ?_, fun k hk => ?_⟩
      · rw [J 0 (by decide), J 1 (by decide), J 2 (by decide), J 3 (by decide)]; simp [cjN, p1]
      · rw [J 5 (by decide), J 6 (by decide), J 7 (by decide)]; simp [upd2, p2]
      · rw [f5.1 tx (by omega), i4, p3]
        show _ = orF _ (c 2) ||| (if upd2 (upd2 (upd2 (upd2 T 5 (c 2) (nI (vl (t + 1)))) 6 (c 2) (if kd (t + 2) = 138 then 1 else 0)) 7 (c 2) B) 0 2 (nI (c 2 + 1)) 6 (c 2) = 0 then 0 else bitM (c 2))
        have e6 : upd2 (upd2 (upd2 (upd2 T 5 (c 2) (nI (vl (t + 1)))) 6 (c 2) (if kd (t + 2) = 138 then 1 else 0)) 7 (c 2) B) 0 2 (nI (c 2 + 1)) 6 (c 2) = (if kd (t + 2) = 138 then 1 else 0) := by simp [upd2]
        rw [e6]
        have e7 : (if (if kd (t + 2) = 138 then (1 : Int32) else 0) = 0 then (0 : Int32) else bitM (c 2)) = (if kd (t + 2) = 138 then bitM (c 2) else 0) := by
          by_cases y : kd (t + 2) = 138
          · simp [y]
          · simp [y]
        rw [e7]
        congr 1
        exact orF_c _ (fun j hj => by simp [upd2, show ¬ j = c 2 by omega])
      · have := p4 u hu
        rw [A2 _ _ (by omega), A2 _ _ (by omega)]; simp [upd2, this]
      · have := p5 a ha
        rw [A2 _ _ (by omega), A2 _ _ (by omega)]; simp [upd2, this]
      · rw [k5 a ha]
        show _ = orF _ (c 2) ||| (if bitOf (upd2 (upd2 (upd2 (upd2 T 5 (c 2) (nI (vl (t + 1)))) 6 (c 2) (if kd (t + 2) = 138 then 1 else 0)) 7 (c 2) B) 0 2 (nI (c 2 + 1)) 7 (c 2)) a = 1 then bitM (c 2) else 0)
        have e6 : upd2 (upd2 (upd2 (upd2 T 5 (c 2) (nI (vl (t + 1)))) 6 (c 2) (if kd (t + 2) = 138 then 1 else 0)) 7 (c 2) B) 0 2 (nI (c 2 + 1)) 7 (c 2) = B := by simp [upd2]
        rw [e6]
        congr 1
        exact orF_c _ (fun j hj => by simp [upd2, show ¬ j = c 2 by omega])
      · have hs : s < c 2 + 1 := hs
        rw [A2 _ _ (by omega)]
        by_cases q : s = c 2
        · subst q; simp [upd_at, upd2]
        · have := p7 s (by omega)
          simp [upd_at, upd2, q, this]
      · have := p8 k hk
        rw [A2 _ _ (by omega), A2 _ _ (by omega)]; simp [upd2, this]
    · obtain ⟨g1, g2, g3, g4, g5, g6, g7⟩ := hG
      refine ⟨⟨g1.1, g1.2.1, rfl, g1.2.2.2⟩, g2, g3, fun s hs => ?_, g5, g6, g7⟩
      have hs : s < c 2 + 1 := hs
      by_cases q : s = c 2
      · subst q
        refine ⟨⟨vl (t + 1), v1, v2, by simp [upd2]⟩, ?_, fun i x1 x2 => ?_⟩
        · have e6 : upd2 (upd2 (upd2 (upd2 T 5 (c 2) (nI (vl (t + 1)))) 6 (c 2) (if kd (t + 2) = 138 then 1 else 0)) 7 (c 2) B) 0 2 (nI (c 2 + 1)) 6 (c 2) = (if kd (t + 2) = 138 then 1 else 0) := by simp [upd2]
          rw [e6]
          split
          · exact Or.inr rfl
          · exact Or.inl rfl
        · have e6 : upd2 (upd2 (upd2 (upd2 T 5 (c 2) (nI (vl (t + 1)))) 6 (c 2) (if kd (t + 2) = 138 then 1 else 0)) 7 (c 2) B) 0 2 (nI (c 2 + 1)) 7 (c 2) = B := by simp [upd2]
          rw [e6]; exact b5 i x1 x2
      · have := g4 s (by omega)
        simp [upd2, q]; exact this
    · refine hW.e (fun o o1 o2 => ?_) (fun o o1 o2 => ?_)
      · rw [f5.1 o (by omega), ii o (by omega) (by omega), I2 o (by omega), pI_o (by omega)]
      · rw [A2 _ _ (by omega), if_neg (by omega)]
  by_cases q : kd (t + 2) = 138
  · rw [if_pos (α := Option Mem) q, letS_e, letS_e]
    have ec : scP kd (0, t + 2) = tk kd 138 (0, t + 2) := by unfold scP; rw [if_pos ⟨rfl, q⟩]
    rw [ec] at zS
    have e3 := (tk_0 zS).2.2.2
    have e3 : tk kd 138 (0, t + 2) = (0, t + 3) := e3
    have q3 := tkQ E.1 (by decide) q2 e3
    have i33 : ∀ x, (pI S45 tx 4 x).1 3 3 = nI (t + 2) := fun x => by rw [pI_1, if_neg (by omega)]; exact s3.2.2
    rw [i33]
    refine fin _ (t + 3) ((O3.tr (O4.p _)).tr (F3.o4 ((F3.rf _).p 3 _))) (CS.nx (s3.o (pI_o (by omega)))) (N45.e rfl) (by rw [ec, e3]) q3 (fun _ _ => rfl) (fun _ => rfl) (fun o a b => ?_) (fun k hk => ?_) ?_
    · rw [pI_o a, pI_o b]
    · rw [pI_1, if_neg (by omega), pI_1, if_neg (by omega)]
    · rw [pI_1, if_neg (by omega), pI_1, if_pos ⟨rfl, rfl⟩, if_pos q, I2 tx (by omega), pI_1, if_neg (by omega)]
      rfl
  · rw [if_neg (α := Option Mem) q]
    have ec : scP kd (0, t + 2) = (0, t + 2) := by unfold scP; rw [if_neg (fun z => q z.2)]
    refine fin S45 (t + 2) O3 s3 N45 ec q2 (fun _ _ => rfl) (fun _ => rfl) (fun _ _ _ => rfl) (fun _ _ => rfl) ?_
    rw [if_neg q, or0, I2 tx (by omega), pI_1, if_neg (by omega)]
