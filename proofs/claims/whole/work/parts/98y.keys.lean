/-! THE BEGINNING: both as they are made. -/
theorem wd_0 : f_Mo_word 119 101 108 108 0 0 0 = some (lN 456690) := by decide +kernel
theorem wd_1 : f_Mo_word 109 97 110 0 0 0 0 = some (lN 9518) := by decide +kernel
theorem wd_2 : f_Mo_word 115 101 99 114 101 116 0 = some (lN 275358764) := by decide +kernel
theorem wd_3 : f_Mo_word 102 97 108 115 101 0 0 = some (lN 3217595) := by decide +kernel
theorem wd_4 : f_Mo_word 116 105 101 0 0 0 0 = some (lN 14828) := by decide +kernel
theorem wd_5 : f_Mo_word 102 105 108 108 115 0 0 = some (lN 3374884) := by decide +kernel
theorem wd_6 : f_Mo_word 116 101 108 108 115 0 0 = some (lN 10736326) := by decide +kernel
theorem wd_7 : f_Mo_word 100 114 105 110 107 115 0 = some (lN 67149235) := by decide +kernel
theorem wd_8 : f_Mo_word 116 104 105 114 115 116 0 = some (lN 291420470) := by decide +kernel
theorem wd_9 : f_Mo_word 115 97 108 116 0 0 0 = some (lN 375050) := by decide +kernel
theorem wd_10 : f_Mo_word 115 101 101 100 0 0 0 = some (lN 377761) := by decide +kernel
theorem wd_11 : f_Mo_word 105 102 0 0 0 0 0 = some (lN 249) := by decide +kernel
theorem wd_12 : f_Mo_word 116 104 101 110 0 0 0 = some (lN 399641) := by decide +kernel
theorem wd_13 : f_Mo_word 101 108 115 101 0 0 0 = some (lN 107681) := by decide +kernel
theorem wd_14 : f_Mo_word 100 97 121 0 0 0 0 = some (lN 2968) := by decide +kernel
theorem wd_15 : f_Mo_word 100 101 101 112 0 0 0 = some (lN 82528) := by decide +kernel
theorem wd_16 : f_Mo_word 119 101 116 0 0 0 0 = some (lN 16922) := by decide +kernel
theorem wd_17 : f_Mo_word 100 114 121 0 0 0 0 = some (lN 3427) := by decide +kernel
theorem wd_18 : f_Mo_word 107 110 111 119 0 0 0 = some (lN 227147) := by decide +kernel
theorem wd_19 : f_Mo_word 104 101 97 118 121 0 0 = some (lN 4351291) := by decide +kernel
theorem wd_20 : f_Mo_word 119 105 116 104 0 0 0 = some (lN 459818) := by decide +kernel
theorem wd_21 : f_Mo_word 119 104 105 99 104 0 0 = some (lN 12387257) := by decide +kernel
def kM (S : Mem) : Nat → Mem
  | 0 => S
  | n + 1 => sL (kM S n) 0 9 (nI n) (lN (keyN.getD n 0))
theorem kM_e (S : Mem) : ∀ n, n ≤ 22 → (kM S n).1 = S.1 ∧ (kM S n).2.1 = S.2.1 ∧ ∀ i, i < n → (kM S n).2.2 0 9 i = lN (keyN.getD i 0)
  | 0, _ => ⟨rfl, rfl, fun i hi => absurd hi (by omega)⟩
  | n + 1, h => by
    obtain ⟨h1, h2, h3⟩ := kM_e S n (by omega)
    refine ⟨h1, h2, fun i hi => ?_⟩
    show (sL (kM S n) 0 9 (nI n) (lN (keyN.getD n 0))).2.2 0 9 i = _
    rw [sL_3, if_pos ⟨rfl, rfl⟩, cl (by omega), updL_at]
    by_cases q : i = n
    · rw [if_pos q, q]
    · rw [if_neg q]; exact h3 i (by omega)
set_option maxRecDepth 20000 in
theorem Mo_init0 {S q : Mem} (hq : f_Mo_plain 0 S = some q) : f_Mo_initT_b400 S = Option.bind (f_Mo_begins (kM q 22)) (fun q866 => Option.bind (f_Mo_keepsRow q866) (fun q870 => some q870)) := by
  unfold f_Mo_initT_b400
  rw [hq, bind_e]
  rw [wd_0, bind_e, gIn_l 0 0 rfl (by decide) (by decide), letS_e, show sL q 0 9 0 (lN 456690) = kM q 1 from rfl]
  rw [wd_1, bind_e, gIn_l 1 1 rfl (by decide) (by decide), letS_e, show sL (kM q 1) 0 9 1 (lN 9518) = kM q 2 from rfl]
  rw [wd_2, bind_e, gIn_l 2 2 rfl (by decide) (by decide), letS_e, show sL (kM q 2) 0 9 2 (lN 275358764) = kM q 3 from rfl]
  rw [wd_3, bind_e, gIn_l 3 3 rfl (by decide) (by decide), letS_e, show sL (kM q 3) 0 9 3 (lN 3217595) = kM q 4 from rfl]
  rw [wd_4, bind_e, gIn_l 4 4 rfl (by decide) (by decide), letS_e, show sL (kM q 4) 0 9 4 (lN 14828) = kM q 5 from rfl]
  rw [wd_5, bind_e, gIn_l 5 5 rfl (by decide) (by decide), letS_e, show sL (kM q 5) 0 9 5 (lN 3374884) = kM q 6 from rfl]
  rw [wd_6, bind_e, gIn_l 6 6 rfl (by decide) (by decide), letS_e, show sL (kM q 6) 0 9 6 (lN 10736326) = kM q 7 from rfl]
  rw [wd_7, bind_e, gIn_l 7 7 rfl (by decide) (by decide), letS_e, show sL (kM q 7) 0 9 7 (lN 67149235) = kM q 8 from rfl]
  rw [wd_8, bind_e, gIn_l 8 8 rfl (by decide) (by decide), letS_e, show sL (kM q 8) 0 9 8 (lN 291420470) = kM q 9 from rfl]
  rw [wd_9, bind_e, gIn_l 9 9 rfl (by decide) (by decide), letS_e, show sL (kM q 9) 0 9 9 (lN 375050) = kM q 10 from rfl]
  rw [wd_10, bind_e, gIn_l 10 10 rfl (by decide) (by decide), letS_e, show sL (kM q 10) 0 9 10 (lN 377761) = kM q 11 from rfl]
  rw [wd_11, bind_e, gIn_l 11 11 rfl (by decide) (by decide), letS_e, show sL (kM q 11) 0 9 11 (lN 249) = kM q 12 from rfl]
  rw [wd_12, bind_e, gIn_l 12 12 rfl (by decide) (by decide), letS_e, show sL (kM q 12) 0 9 12 (lN 399641) = kM q 13 from rfl]
  rw [wd_13, bind_e, gIn_l 13 13 rfl (by decide) (by decide), letS_e, show sL (kM q 13) 0 9 13 (lN 107681) = kM q 14 from rfl]
  rw [wd_14, bind_e, gIn_l 14 14 rfl (by decide) (by decide), letS_e, show sL (kM q 14) 0 9 14 (lN 2968) = kM q 15 from rfl]
  rw [wd_15, bind_e, gIn_l 15 15 rfl (by decide) (by decide), letS_e, show sL (kM q 15) 0 9 15 (lN 82528) = kM q 16 from rfl]
  rw [wd_16, bind_e, gIn_l 16 16 rfl (by decide) (by decide), letS_e, show sL (kM q 16) 0 9 16 (lN 16922) = kM q 17 from rfl]
  rw [wd_17, bind_e, gIn_l 17 17 rfl (by decide) (by decide), letS_e, show sL (kM q 17) 0 9 17 (lN 3427) = kM q 18 from rfl]
  rw [wd_18, bind_e, gIn_l 18 18 rfl (by decide) (by decide), letS_e, show sL (kM q 18) 0 9 18 (lN 227147) = kM q 19 from rfl]
  rw [wd_19, bind_e, gIn_l 19 19 rfl (by decide) (by decide), letS_e, show sL (kM q 19) 0 9 19 (lN 4351291) = kM q 20 from rfl]
  rw [wd_20, bind_e, gIn_l 20 20 rfl (by decide) (by decide), letS_e, show sL (kM q 20) 0 9 20 (lN 459818) = kM q 21 from rfl]
  rw [wd_21, bind_e, gIn_l 21 21 rfl (by decide) (by decide), letS_e, show sL (kM q 21) 0 9 21 (lN 12387257) = kM q 22 from rfl]
/-- the text of the beginning -/
def Tz : TX := fun g i => if g = 0 ∧ i = 4 then 9 else if g = 0 ∧ i = 5 then 10 else 0
theorem Tz_0 : T00 Tz := ⟨rfl, rfl, rfl, rfl, rfl, rfl, rfl⟩
theorem Gz : GT c00 Tz := ⟨⟨rfl, rfl, rfl, rfl⟩, fun a ha => absurd ha (by show ¬ a < 0; omega), fun a ha => absurd ha (by show ¬ a < 0; omega), fun a ha => absurd ha (by show ¬ a < 0; omega), fun a ha => absurd ha (by show ¬ a < 0; omega), ⟨9, by decide, by decide, rfl⟩, 10, by decide, rfl⟩
theorem cLz : cLe c00 := ⟨by decide, by decide, by decide, by decide⟩
theorem L8z : L8 (FG G00) := FG_8 (fun k _ r e => absurd e (by show ¬ (none : Option (List BrT)) = some r; simp))
theorem Tgz : TG Tz (FG G00) := TG_of Gz cLz L8z
def rz : RW := iter (cutR Tz) (nW Tz) (rB Tz)
theorem Grz : GR Tz rz := by
  obtain ⟨a, b, d⟩ := rB_I Gz cLz
  exact GR.cut Tgz a b d
def Uz : UX := (0, fun _ _ => 0)
def Hz : HX := (fun _ => false, fun _ _ => 0)
def Nz : NX := (0, fun _ _ => 0)
def Bz : BX := (0, fun _ => 0)
theorem Wz : WO Tz (FG G00) rz Uz Hz Nz Bz := ⟨Tgz, Grz, fun i hi => absurd hi (by show ¬ i < 0; omega), fun s _ z => absurd z (show ¬ false = true by decide), fun i hi => absurd hi (by show ¬ i < 0; omega), fun i hi => absurd hi (by show ¬ i < 0; omega)⟩
theorem tp_s : (f_Tp_initT_b53 memZ).isSome = true := by decide +kernel
theorem tp_k : ∀ i, i < 22 → (f_Tp_initT_b53 memZ).map (fun z => z.2.2 1 2 i) = some (lN (wordN.getD i 0)) := by decide +kernel
theorem tp_0 : (f_Tp_initT_b53 memZ).map (fun z => z.1 1 0) = some 0 := by decide +kernel
theorem Mo_init : Ok (fun S' => MOK 0 Tz (FG G00) rz Uz Hz Nz Bz (-1) S') (f_Mo_initT_b400 memM) := by
  obtain ⟨S1, hq, x1, x2, x3, x4, x5, x6⟩ := (show Ok _ (f_Mo_plain 0 memM) from Mo_plain (u := 0) (by decide) memM)
  rw [Mo_init0 hq]
  obtain ⟨k1, k2, k3⟩ := kM_e S1 22 (Nat.le_refl _)
  have z : ∀ f i, f = 25 ∨ f = 26 ∨ f = 28 ∨ f = 29 ∨ f = 31 ∨ f = 32 ∨ f = 33 ∨ f = 35 ∨ f = 36 → S1.2.1 0 f i = 0 := fun f i hf => by rw [x4 f (by omega)]; rfl
  have tv : TV 0 Tz (kM S1 22) := by
    refine ⟨by decide, by rw [k1, x1]; rfl, ?_, ?_, fun w _ => ?_, fun w _ => ?_, fun w _ => ?_, fun w _ => ?_⟩
    · rw [k2]; exact ⟨x5.1, x5.2.1, x5.2.2.1, x5.2.2.2.1⟩
    · rw [k2]; exact ⟨x5.2.2.2.2.1, x5.2.2.2.2.2.1, x5.2.2.2.2.2.2⟩
    · rw [k2, z 25 _ (by omega), z 26 _ (by omega)]; exact ⟨rfl, rfl⟩
    · rw [k2, z 28 _ (by omega), z 29 _ (by omega)]; exact ⟨rfl, rfl⟩
    · rw [k2, z 31 _ (by omega), z 32 _ (by omega), z 33 _ (by omega)]; exact ⟨rfl, rfl, rfl⟩
    · rw [k2, z 35 _ (by omega), z 36 _ (by omega)]; exact ⟨rfl, rfl⟩
  have ml : ML (FG G00) (kM S1 22) := ML_of (u := 0) (b := 0) (cb := 0) (by decide) tv.2.1 (fun k hk => by
    show (kM S1 22).2.1 0 40 (3 * 0 + k) = 0 ∧ (kM S1 22).2.1 0 41 (3 * 0 + k) = 0
    rw [k2]; exact x6 k hk) (by decide) (by decide)
  refine (Mo_begins Tgz.1 tv).b (fun S2 g2 => ?_)
  obtain ⟨f2, m2⟩ := g2
  rw [Mo_keepsRow, bind_e]
  have tm := (show TM 0 Tz (FG G00) (kM S1 22) from ⟨tv, ml⟩).fr f2
  have i0 : ∀ k, ¬ scI k → S2.1 0 k = memM.1 0 k := fun k hk => by rw [f2.1 k hk, k1, x1]
  refine Ok.i ⟨tm.of rfl (fun f a b => by rw [pA_2, if_neg (by omega)]), fun k hk => ?_, ⟨?_, by show 0 ≤ 40; omega, fun i hi => absurd hi (by show ¬ i < 0; omega)⟩, fun s hs => ⟨?_, fun y => absurd y (show ¬ false = true by decide)⟩, ⟨?_, by show 0 ≤ 20; omega, fun i hi => absurd hi (by show ¬ i < 0; omega)⟩, ⟨?_, by show 0 ≤ 2000; omega, fun i hi => absurd hi (by show ¬ i < 0; omega)⟩, ?_, ?_⟩
  · rw [pA_2, if_pos ⟨rfl, rfl⟩]
    have e := cpF_in (c := 0) (n := 40) (a := S2.2.1 0 57) (b := S2.2.1 0 56) hk
    rw [Nat.zero_add] at e
    rw [e]; exact m2 k hk
  · rw [pA_1, i0 60 (by unfold scI; omega)]; rfl
  · rw [pA_2, if_neg (by omega), f2.2.1 72 (by unfold scA; omega), k2, x4 72 (by decide)]
    exact (if_neg (show ¬ false = true by decide)).symm
  · rw [pA_1, i0 68 (by unfold scI; omega)]; rfl
  · rw [pA_1, i0 2 (by unfold scI; omega)]; rfl
  · rw [pA_1, i0 17 (by unfold scI; omega)]; rfl
  · rw [pA_3, f2.2.2]; exact k3
theorem Co_init {zt : Mem} (hk : cK (zt.2.2 1 2)) (h0 : zt.1 1 0 = 0) : Ok (fun S' => COK 20 Tz (FG G00) rz Uz Hz Nz Bz (-1) S') (f_Co_initT_b178 (memC zt)) := by
  unfold f_Co_initT_b178
  rw [show (memC zt).1 0 11 = nI 20 from rfl, gTx_t (Or.inl rfl), cl (show 20 < 4096 by decide)]
  refine (Tx_clear (tx := 20) (by decide) Tz_0 (memC zt)).b (fun S1 g1 => ?_)
  obtain ⟨o1, -, -, cj⟩ := g1
  have hX : CX2 Tz (FG G00) 20 S1 := ⟨by decide, CT_of cj (fun s hs => absurd hs (by show ¬ s < 0; omega)), LC_of (by decide) cj.2.2.2.2⟩
  have i0 : S1.1 0 = (memC zt).1 0 := o1.1 0 (by decide) (by decide)
  rw [i0, show (memC zt).1 0 11 = nI 20 from rfl, gTx_t (Or.inl rfl), cl (show 20 < 4096 by decide)]
  refine (St_begin Tgz (rB_I Gz cLz).1 hX).b (fun S2 g2 => ?_)
  obtain ⟨fq, b2, m2⟩ := g2
  have j0 : S2.1 0 = (memC zt).1 0 := (fq.1 0 (by decide)).trans i0
  have jo : ∀ o, o ≠ 3 → o ≠ 4 → ¬ (20 ≤ o ∧ o ≤ 23) → S2.1 o = (memC zt).1 o := fun o a b d => (fq.1 o b).trans (o1.1 o a d)
  have jl : S2.2.2 1 2 = zt.2.2 1 2 := by rw [fq.2.2, o1.2.2 1 2 (by decide)]; rfl
  refine Ok.i ⟨⟨⟨hX.fq fq (by decide), Or.inl rfl, ?_, by rw [j0]; rfl, by rw [j0]; rfl⟩, ⟨0, by decide, by rw [j0]; rfl, by rw [j0]; rfl, by show 0 ≤ 40; omega, fun i hi => absurd hi (by show ¬ i < 0; omega)⟩, ⟨by rw [j0]; show (0 : Int32) = orF (fun s => if false = true then bitM s else 0) 3; decide, fun s _ y => absurd y (show ¬ false = true by decide)⟩, ⟨by rw [jo 9 (by decide) (by decide) (by decide)]; rfl, by show 0 ≤ 20; omega, fun i hi => absurd hi (by show ¬ i < 0; omega)⟩, ⟨?_, by show 0 ≤ 2000; omega, fun i hi => absurd hi (by show ¬ i < 0; omega)⟩, by rw [j0]; rfl, by rw [jl]; exact hk⟩, b2, m2, Or.inl (by rw [jo 7 (by decide) (by decide) (by decide)]; rfl)⟩
  · rw [fq.1 20 (by decide), (cT Gz cLz).2.2.1]; exact cj.2.2.1.2.2.1
  · rw [jo 1 (by decide) (by decide) (by decide)]
    show zt.1 1 0 = 0
    exact h0
theorem law_0 {L : Nat} {xs : Nat → Int32} (hL : L ≤ 3072) : ∃ zt zC zM : Mem, f_Tp_initT_b53 memZ = some zt ∧ f_Co_initT_b178 (memC zt) = some zC ∧ f_Mo_initT_b400 memM = some zM ∧ f_Law_law_l18 L xs 600 0 zC zM = some 1 := by
  obtain ⟨zt, ht⟩ := Option.isSome_iff_exists.mp tp_s
  have hk : cK (zt.2.2 1 2) := fun i hi => by
    have := tp_k i hi
    rw [ht] at this
    exact Option.some.inj this
  have h0 : zt.1 1 0 = 0 := by
    have := tp_0
    rw [ht] at this
    exact Option.some.inj this
  obtain ⟨zC, hC, cC⟩ := Co_init hk h0
  obtain ⟨zM, hM, cM⟩ := Mo_init
  exact ⟨zt, zC, zM, ht, hC, hM, law_18 S_read hL zC zM ⟨0, 20, Tz, FG G00, rz, Uz, Hz, Nz, Bz, -1, Wz, cM, cC⟩⟩
