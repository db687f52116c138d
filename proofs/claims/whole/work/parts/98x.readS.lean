/-! READ: both read alike. -/
variable {v u tx : Nat} {S S' S0 : Mem} {T T0 : TX} {F : LF} {r : RW} {U : UX} {H : HX} {N : NX} {B : BX} {P : Int32}
theorem RF.w3 (i x : Int32) : RF v S (sA S 0 3 i x) := ⟨fun _ _ => rfl, fun f j h _ => by rw [sA_2, if_neg (by omega)], fun _ _ _ => rfl⟩
theorem Mo_readA {Q : Nat} (hg : byG B.2 B.1) (hQ : lastP B.2 B.1 Q) (h : MOK v T F r U H N B P S) {R : Int32 × Mem → Prop} (K : ∀ (T0 : TX) (S0 S' : Mem) (w' : Nat × Nat) (c' : Nat → Nat) (l' : NLt) (T' : TX) (b' j : Nat), T00 T0 → LwS (kdX B) (plX B) (vlX B) Q v S0 c' l' T' b' j (skX B, w') S' → RF v S S0 → S0.1 0 2 = 0 → ((skX B).1 = 0 → ∃ G', lawsM (1 - v) b' j S' G' ∧ rdX B T0 = (c', w', l', T', G')) → Ok R (f_Mo_read_b134 S')) : Ok R (f_Mo_read S) := by
  have E : EV (kdX B) (plX B) (vlX B) Q := EV_of h.2.2.2.2.2.1.2.1 hg hQ
  have hv : v < 2 := h.1.1.1
  have e18 : S.1 0 18 = nI v := h.1.1.2.1
  have hB := h.2.2.2.2.2.1
  have hK := h.2.2.2.2.2.2.2
  have hL := hB.2.1
  have hQ4 := hQ.1
  unfold f_Mo_read f_Mo_read_b0
  rw [letS_e, hB.1]
  have last : ∀ S2, RF v S S2 → S2.1 0 4 = nI B.1 → (∀ i, i < B.1 → S2.2.1 0 3 i = B.2 i) → ∀ m, Ok R (f_Mo_read_b10 m (nI B.1) S2) := by
    intro S2 f2 e4 g3 m
    unfold f_Mo_read_b10
    rw [e4, if_pos (le_rf _), letS_e]
    have f3 : RF v S (pI S2 0 2 0) := f2.tr (RF.i (by omega) 0)
    refine (Mo_cut0 (S := pI S2 0 2 0) (Q := Q) hL (by rw [pI_1, if_neg (by decide)]; exact e4) g3 hg (by rw [pI_2, f2.2.2 9 (by decide) (by decide)]; exact hK) hQ).b (fun S3 g => ?_)
    obtain ⟨o2, tk3⟩ := g
    have f4 := f3.tr (O2.rf2 o2)
    simp only [letS_e]
    have q18 : (pI (pI (pI (pI S3 0 11 0) 0 12 0) 0 13 0) 0 15 0).1 0 18 = nI v := by
      show S3.1 0 18 = nI v
      rw [f4.1 18 (by unfold frI; omega)]; exact e18
    rw [q18, show (1 : Int32) - nI v = nI (1 - v) from pk_sub (a := 1) (b := v) (by omega)]
    have f5 : RF v S (pI (pI (pI (pI (pI (pI S3 0 11 0) 0 12 0) 0 13 0) 0 15 0) 0 19 (nI (1 - v))) 0 20 0) := (((((f4.tr (RF.i (by unfold frI; omega) 0)).tr (RF.i (by unfold frI; omega) 0)).tr (RF.i (by unfold frI; omega) 0)).tr (RF.i (by unfold frI; omega) 0)).tr (RF.i (by omega) _)).tr (RF.i (by unfold frI; omega) 0)
    have i2 : (pI (pI (pI (pI (pI (pI S3 0 11 0) 0 12 0) 0 13 0) 0 15 0) 0 19 (nI (1 - v))) 0 20 0).1 0 2 = 0 := by
      show S3.1 0 2 = 0
      rw [o2.1 2 (by decide)]; rfl
    have r11 : (pI (pI (pI (pI (pI (pI S3 0 11 0) 0 12 0) 0 13 0) 0 15 0) 0 19 (nI (1 - v))) 0 20 0).1 0 11 = 0 := rfl
    have r12 : (pI (pI (pI (pI (pI (pI S3 0 11 0) 0 12 0) 0 13 0) 0 15 0) 0 19 (nI (1 - v))) 0 20 0).1 0 12 = 0 := rfl
    have r13 : (pI (pI (pI (pI (pI (pI S3 0 11 0) 0 12 0) 0 13 0) 0 15 0) 0 19 (nI (1 - v))) 0 20 0).1 0 13 = 0 := rfl
    have r15 : (pI (pI (pI (pI (pI (pI S3 0 11 0) 0 12 0) 0 13 0) 0 15 0) 0 19 (nI (1 - v))) 0 20 0).1 0 15 = 0 := rfl
    have r19 : (pI (pI (pI (pI (pI (pI S3 0 11 0) 0 12 0) 0 13 0) 0 15 0) 0 19 (nI (1 - v))) 0 20 0).1 0 19 = nI (1 - v) := rfl
    have r20 : (pI (pI (pI (pI (pI (pI S3 0 11 0) 0 12 0) 0 13 0) 0 15 0) 0 19 (nI (1 - v))) 0 20 0).1 0 20 = 0 := rfl
    have K5 : TK (kdX B) (plX B) (vlX B) Q (pI (pI (pI (pI (pI (pI S3 0 11 0) 0 12 0) 0 13 0) 0 15 0) 0 19 (nI (1 - v))) 0 20 0) := TK_of tk3
    generalize pI (pI (pI (pI (pI (pI S3 0 11 0) 0 12 0) 0 13 0) 0 15 0) 0 19 (nI (1 - v))) 0 20 0 = S5 at f5 i2 r11 r12 r13 r15 r19 r20 K5 ⊢
    rw [r19]
    refine (Mo_plain (u := 1 - v) (by omega) S5).b (fun S6 g6 => ?_)
    obtain ⟨x1, x2, x3, x4, x5, x6⟩ := g6
    rw [show 1 - (1 - v) = v by omega] at x3
    rw [x1, r19, show (130 : Int32) * nI (1 - v) = nI (130 * (1 - v)) from iM 130 (1 - v)]
    have q19 : (pI S6 0 42 (nI (130 * (1 - v)))).1 0 19 = nI (1 - v) := by rw [pI_1, if_neg (by decide), x1]; exact r19
    rw [q19, show (420 : Int32) * nI (1 - v) = nI (420 * (1 - v)) from iM 420 (1 - v)]
    have lv : LVm v S5 (pI (pI S6 0 42 (nI (130 * (1 - v)))) 0 48 (nI (420 * (1 - v)))) := (x3.tr (LVm.i (by unfold frI; omega) _)).tr (LVm.i (by unfold frI; omega) _)
    have ints : ∀ k, k ≠ 42 → k ≠ 48 → (pI (pI S6 0 42 (nI (130 * (1 - v)))) 0 48 (nI (420 * (1 - v)))).1 0 k = S5.1 0 k := fun k a b => by rw [pI_1, if_neg (by omega), pI_1, if_neg (by omega), x1]
    have t00 : T00 (txM (1 - v) (pI (pI S6 0 42 (nI (130 * (1 - v)))) 0 48 (nI (420 * (1 - v))))) := x5
    have lws : LwS (kdX B) (plX B) (vlX B) Q v S5 c00 l00 (txM (1 - v) (pI (pI S6 0 42 (nI (130 * (1 - v)))) 0 48 (nI (420 * (1 - v))))) (130 * (1 - v)) (420 * (1 - v)) ((0, 0), (0, 0)) (pI (pI S6 0 42 (nI (130 * (1 - v)))) 0 48 (nI (420 * (1 - v)))) := by
      refine ⟨⟨⟨Nat.zero_le _, by decide, fun _ => ⟨by rw [ints 13 (by decide) (by decide)]; exact r13, by rw [ints 11 (by decide) (by decide)]; exact r11⟩, fun z => absurd rfl z, by rw [ints 15 (by decide) (by decide)]; exact r15, by decide, fun z => absurd rfl z⟩, fun _ z => absurd rfl z, ⟨by rw [ints 20 (by decide) (by decide)]; exact r20, by decide, fun j hj => absurd hj (by show ¬ j < 0; omega)⟩, lv, by rw [ints 19 (by decide) (by decide)]; exact r19, hv, fun i hi => ?_, ⟨⟨x5.1, by decide⟩, ⟨x5.2.1, by decide⟩, ⟨x5.2.2.1, by decide⟩, x5.2.2.2.1, by decide⟩⟩, rfl, by rw [pI_1, if_neg (by decide), pI_1, if_pos ⟨rfl, rfl⟩], by rw [pI_1, if_pos ⟨rfl, rfl⟩], fun _ => ⟨by rw [ints 12 (by decide) (by decide)]; exact r12, by show 420 * (1 - v) ≤ 420 * (1 - v) + 0; omega⟩, Nat.le_refl _, by show 420 * (1 - v) ≤ 420 * (1 - v) + 0 + 1; omega, Nat.le_refl _, by omega⟩
      rw [pI_2, pI_2, x4 5 (by decide), x4 6 (by decide), x4 7 (by decide), x2]; exact K5 i hi
    refine Mo_read112 E 402 5000 0 c00 l00 _ G00 _ _ (0, 0) _ lws rfl (fun k hk => x6 k hk) (by omega) (by omega) (by omega) (fun S7 w' c' l' T' b' j y1 y2 => ?_)
    exact K _ S5 S7 w' c' l' T' b' j t00 y1 f5 i2 y2
  refine lpN (P := fun m j => ∀ S2, RF v S S2 → S2.1 0 4 = nI B.1 → (∀ i, i < j → S2.2.1 0 3 i = B.2 i) → Ok R (f_Mo_read_l10 m (nI j) S2)) B.1 (fun m j hj ih S2 f2 e4 g3 => ?_) (fun m S2 f2 e4 g3 => last S2 f2 e4 g3 _) 5000 0 (by omega) (by omega) _ (RF.i (by omega) _) rfl (fun i hi => absurd hi (by omega))
  show Ok R (f_Mo_read_b10 (f_Mo_read_l10 m) (nI j) S2)
  unfold f_Mo_read_b10
  have e1 : S2.2.1 0 1 j = B.2 j := by rw [f2.2.1 1 j (by decide) (Or.inl (by decide))]; exact hB.2.2 j hj
  rw [e4, if_neg (le_nI (by omega) (by omega) (by omega)), gIn_n (show j < 2000 by omega) (by decide), gIn_n (show j < 2000 by omega) (by decide), letS_e, cl (show j < 4096 by omega), e1, nar_b (hg j hj), nI_1]
  refine ih _ (f2.tr (RF.w3 _ _)) e4 (fun i hi => ?_)
  rw [sA_2, if_pos ⟨rfl, rfl⟩, cl (by omega), upd_at]
  by_cases q : i = j
  · rw [if_pos q, q]
  · rw [if_neg q]; exact g3 i (by omega)
theorem TV_of (hu : u < 2) (e : S.1 0 18 = nI u) (hT : txM u S = T) : TV u T S := by
  subst hT
  refine ⟨hu, e, ⟨rfl, rfl, rfl, rfl⟩, ⟨rfl, rfl, rfl⟩, fun w _ => ⟨?_, ?_⟩, fun w _ => ⟨?_, ?_⟩, fun w _ => ⟨?_, ?_, ?_⟩, fun w _ => ⟨?_, ?_⟩⟩
  · rw [txM_g u S (by decide), show faT 1 = 25 from by decide, show sdF 25 = 4 from by decide]
  · rw [txM_g u S (by decide), show faT 2 = 26 from by decide, show sdF 26 = 4 from by decide]
  · rw [txM_g u S (by decide), show faT 3 = 28 from by decide, show sdF 28 = 7 from by decide]
  · rw [txM_g u S (by decide), show faT 4 = 29 from by decide, show sdF 29 = 7 from by decide]
  · rw [txM_g u S (by decide), show faT 5 = 31 from by decide, show sdF 31 = 8 from by decide]
  · rw [txM_g u S (by decide), show faT 6 = 32 from by decide, show sdF 32 = 8 from by decide]
  · rw [txM_g u S (by decide), show faT 7 = 33 from by decide, show sdF 33 = 8 from by decide]
  · rw [txM_g u S (by decide), show faT 8 = 35 from by decide, show sdF 35 = 12 from by decide]
  · rw [txM_g u S (by decide), show faT 9 = 36 from by decide, show sdF 36 = 12 from by decide]
/-- the reference takes up the new text -/
theorem Mo_taken {r1 : RW} (hN : TN T) (hT : TV u T S) (hL : ML F S) (hr : r1 = iter (cutR T) (nW T) (rB T)) (e2 : S.1 0 2 = 0) (hK : mK (S.2.2 0 9)) : Ok (fun z : Int32 × Mem => z.1 = 0 ∧ MOK u T F r1 (0, U.2) (fun _ => false, H.2) (0, N.2) (0, B.2) (S.1 0 17) z.2) (Option.bind (f_Mo_begins S) (fun q200 => Option.bind (f_Mo_keepsRow q200) (fun q204 => letS (pI q204 0 60 0) (fun S209 => letS (pI S209 0 68 0) (fun S214 => f_Mo_read_l219 5000 0 S214))))) := by
  refine (Mo_begins hN hT).b (fun S1 g1 => ?_)
  obtain ⟨f1, m1⟩ := g1
  rw [← hr] at m1
  rw [Mo_keepsRow, bind_e, letS_e, letS_e]
  have tm1 : TM u T F S1 := (show TM u T F S from ⟨hT, hL⟩).fr f1
  refine lpN (P := fun m j => ∀ S2 : Mem, S2.1 = (pI (pI (pA S1 0 56 (cpF 0 40 (S1.2.1 0 57) (S1.2.1 0 56))) 0 60 0) 0 68 0).1 → (∀ f, f ≠ 72 → S2.2.1 0 f = (pI (pI (pA S1 0 56 (cpF 0 40 (S1.2.1 0 57) (S1.2.1 0 56))) 0 60 0) 0 68 0).2.1 0 f) → S2.2.2 = S1.2.2 → (∀ s, s < j → S2.2.1 0 72 s = 0) → Ok (fun z : Int32 × Mem => z.1 = 0 ∧ MOK u T F r1 (0, U.2) (fun _ => false, H.2) (0, N.2) (0, B.2) (S.1 0 17) z.2) (f_Mo_read_l219 m (nI j) S2)) 3 (fun m j hj ih S2 x1 x2 x3 x4 => ?_) (fun m S2 x1 x2 x3 x4 => ?_) 5000 0 (by omega) (by omega) _ rfl (fun _ _ => rfl) rfl (fun s hs => absurd hs (by omega))
  · show Ok _ (f_Mo_read_b219 (f_Mo_read_l219 m) (nI j) S2)
    unfold f_Mo_read_b219
    rw [if_neg (show ¬ (3 : Int32) ≤ nI j from le_nI (a := 3) (by omega) (by decide) (by omega)), gIn_n (show j < 3 by omega) (by decide), letS_e, nar0, nI_1]
    refine ih _ x1 (fun f hf => by rw [sA_2, if_neg (fun z => hf z.2)]; exact x2 f hf) x3 (fun s hs => ?_)
    rw [sA_2, if_pos ⟨rfl, rfl⟩, cl (by omega), upd_at]
    by_cases q : s = j
    · rw [if_pos q]
    · rw [if_neg q]; exact x4 s (by omega)
  · show Ok _ (f_Mo_read_b219 (f_Mo_read_l219 m) (nI 3) S2)
    unfold f_Mo_read_b219
    rw [if_pos (show (3 : Int32) ≤ nI 3 by decide)]
    have i1 : ∀ k, k ≠ 60 → k ≠ 68 → S2.1 0 k = S1.1 0 k := fun k a b => by rw [x1, pI_1, if_neg (by omega), pI_1, if_neg (by omega), pA_1]
    refine Ok.i ⟨rfl, tm1.of (i1 18 (by decide) (by decide)) (fun f a b => ?_), fun k hk => ?_, ⟨?_, by show 0 ≤ 40; omega, fun i hi => absurd hi (by show ¬ i < 0; omega)⟩, fun s hs => ⟨?_, fun z => absurd z (show ¬ false = true by decide)⟩, ⟨?_, by show 0 ≤ 20; omega, fun i hi => absurd hi (by show ¬ i < 0; omega)⟩, ⟨?_, by show 0 ≤ 2000; omega, fun i hi => absurd hi (by show ¬ i < 0; omega)⟩, ?_, ?_⟩
    · rw [x2 f (by omega), pI_2, pI_2, pA_2, if_neg (by omega)]
    · rw [x2 56 (by decide), pI_2, pI_2, pA_2, if_pos ⟨rfl, rfl⟩]
      have e := cpF_in (c := 0) (n := 40) (a := S1.2.1 0 57) (b := S1.2.1 0 56) hk
      rw [Nat.zero_add] at e
      rw [e]; exact m1 k hk
    · rw [x1, pI_1, if_neg (by decide), pI_1, if_pos ⟨rfl, rfl⟩]; rfl
    · rw [x4 s hs]; exact (if_neg (show ¬ false = true by decide)).symm
    · rw [x1, pI_1, if_pos ⟨rfl, rfl⟩]; rfl
    · rw [i1 2 (by decide) (by decide), f1.1 2 (by unfold scI; omega)]; exact e2
    · rw [i1 17 (by decide) (by decide)]; exact f1.1 17 (by unfold scI; omega)
    · rw [x3, f1.2.2]; exact hK
theorem S_read (SC SM : Mem) (h : Rel SC SM) : Sim (f_Co_read SC) (f_Mo_read SM) := by
  obtain ⟨v, tx, T, F, r, U, H, N, B, P, w, hM, hC⟩ := h
  obtain ⟨Q, hQ⟩ := last_ex B.2 B.1
  have wB : WO T F r U H N (0, B.2) := ⟨w.1, w.2.1, w.2.2.1, w.2.2.2.1, w.2.2.2.2.1, fun i hi => absurd hi (by show ¬ i < 0; omega)⟩
  have key : Ok (fun z : Int32 × Mem => ∃ SC', f_Co_read SC = some (z.1, SC') ∧ Rel SC' z.2) (f_Mo_read SM) := by
    refine Mo_readA w.2.2.2.2.2 hQ hM (fun T0 S0 S' w' c' l' T' b' j h0 lw rf0 i2 hr => ?_)
    have hv : v < 2 := lw.1.hv
    obtain ⟨p1, p2, p3, p4, p5, p6, p7⟩ := lw.1.1
    have lv := lw.1.2.2.2.1
    have rf1 : RF v SM S' := rf0.tr lv.rf2
    have j2 : S'.1 0 2 = 0 := by rw [lv.1 2 (by unfold frI; omega)]; exact i2
    have p1 : (skX B).2 ≤ Q := p1
    have p2 : (skX B).1 ≤ 2 := p2
    have p3 : (skX B).1 = 0 → S'.1 0 13 = 0 ∧ S'.1 0 11 = nI (skX B).2 := p3
    have p4 : ¬ (skX B).1 = 0 → S'.1 0 13 = nI (skX B).1 ∧ S'.1 0 14 = nI (plX B (skX B).2) := p4
    have p5 : S'.1 0 15 = nI w'.1 := p5
    have p6 : w'.1 ≤ 5 := p6
    have p7 : ¬ w'.1 = 0 → S'.1 0 16 = nI (plX B w'.2) ∧ w'.2 ≤ Q := p7
    by_cases z : (skX B).1 = 0
    · obtain ⟨G', hG, er⟩ := hr z
      have an : anX B T0 = w'.1 := (if_pos z).trans (by rw [er])
      have pa : paX B T0 = if w'.1 = 0 then -1 else nI (plX B w'.2) := (if_pos z).trans (by rw [er])
      obtain ⟨y, ey, y1, y2, y3⟩ := Co_read w hC h0 (by rw [an]; exact p6)
      have ey2 : f_Co_read SC = some (nI w'.1, y.2) := by rw [ey, ← an, ← y1]
      unfold f_Mo_read_b134
      rw [(p3 z).1, if_pos (show (0 : Int32) ≤ 0 by decide), p5]
      by_cases q : w'.1 = 0
      · rw [if_pos (show nI w'.1 ≤ 0 by rw [q]; decide)]
        unfold f_Mo_read_b164
        rw [letS_e, show (pI S' 0 17 (-1)).1 0 13 = 0 from (p3 z).1, if_pos (show (0 : Int32) ≤ 0 by decide), show (pI S' 0 17 (-1)).1 0 15 = 0 from (by rw [show (pI S' 0 17 (-1)).1 0 15 = S'.1 0 15 from rfl, p5, q]; rfl), if_pos (show (0 : Int32) ≤ 0 by decide), letS_e, show (pI S' 0 17 (-1)).1 0 19 = nI (1 - v) from lw.1.s19]
        obtain ⟨hg1, hg2, hg3, hg4⟩ := y3 (by rw [an]; exact q)
        rw [er] at hg1 hg2 hg3 hg4
        have hg1 : GT c' T' := hg1
        have hg2 : cLe c' := hg2
        have hg3 : L8 (FG G') := hg3
        have tg := TG_of hg1 hg2 hg3
        obtain ⟨ri, wi, ti⟩ := rB_I hg1 hg2
        have gr := GR.cut tg ri wi ti
        have tv : TV (1 - v) T' (pI (pI S' 0 17 (-1)) 0 18 (nI (1 - v))) := TV_of (by omega) rfl lw.2.1
        have hb : b' < 130 * (1 - v) + 130 := lw.2.2.2.2.2.2.2.2
        have hj : j ≤ 420 * (1 - v) + (skX B).2 := (lw.2.2.2.2.1 z).2
        have hQ4 := hQ.1
        have ml : ML (FG G') (pI (pI S' 0 17 (-1)) 0 18 (nI (1 - v))) := ML_of (b := b') (cb := j) (by omega) rfl (fun k hk => lawM_e (S := S') (S' := pI (pI S' 0 17 (-1)) 0 18 (nI (1 - v))) (fun f _ _ => rfl) _ (hG k hk)) (by omega) (by omega)
        have mk : mK ((pI (pI S' 0 17 (-1)) 0 18 (nI (1 - v))).2.2 0 9) := by
          show mK (S'.2.2 0 9)
          rw [rf1.2.2 9 (by decide) (by decide)]; exact hM.2.2.2.2.2.2.2
        refine (Mo_taken (U := U) (H := H) (N := N) (B := B) tg.1 tv ml rfl j2 mk).m (fun x g => ?_)
        refine ⟨y.2, ?_, 1 - v, 50 - tx, T', FG G', _, (0, U.2), (fun _ => false, H.2), (0, N.2), (0, B.2), -1, ⟨tg, gr, fun i hi => absurd hi (by show ¬ i < 0; omega), fun s _ z => absurd z (show ¬ false = true by decide), fun i hi => absurd hi (by show ¬ i < 0; omega), fun i hi => absurd hi (by show ¬ i < 0; omega)⟩, g.2, ?_⟩
        · rw [ey2, q, g.1]; rfl
        · have pa2 : paX B T0 = -1 := by rw [pa, if_pos q]
          rw [pa2] at hg4
          exact hg4
      · rw [if_neg (nI_nle (by omega) (by omega))]
        unfold f_Mo_read_b164
        rw [letS_e, (p7 q).1, show (pI S' 0 17 (nI (plX B w'.2))).1 0 13 = 0 from (p3 z).1, if_pos (show (0 : Int32) ≤ 0 by decide), show (pI S' 0 17 (nI (plX B w'.2))).1 0 15 = nI w'.1 from p5, if_neg (nI_nle (by omega) (by omega))]
        have c := y2 (by rw [an]; exact q)
        have mk := hM.kp (rf1.tr (RF.i (k := 17) (by omega) (nI (plX B w'.2)))) j2
        rw [show paX B T0 = nI (plX B w'.2) by rw [pa, if_neg q]] at c
        exact Ok.i ⟨y.2, ey2, v, tx, T, F, r, U, H, N, (0, B.2), _, wB, mk, c⟩
    · have an : anX B T0 = (skX B).1 := if_neg z
      have pa : paX B T0 = nI (plX B (skX B).2) := if_neg z
      obtain ⟨y, ey, y1, y2, y3⟩ := Co_read w hC h0 (by rw [an]; omega)
      have ey2 : f_Co_read SC = some (nI (skX B).1, y.2) := by rw [ey, ← an, ← y1]
      obtain ⟨q1, q2⟩ := p4 z
      unfold f_Mo_read_b134
      rw [q1, if_neg (nI_nle (by omega) (by omega)), q2]
      unfold f_Mo_read_b164
      rw [letS_e, show (pI S' 0 17 (nI (plX B (skX B).2))).1 0 13 = nI (skX B).1 from q1, if_neg (nI_nle (by omega) (by omega))]
      have c := y2 (by rw [an]; exact z)
      have mk := hM.kp (rf1.tr (RF.i (k := 17) (by omega) (nI (plX B (skX B).2)))) j2
      rw [pa] at c
      exact Ok.i ⟨y.2, ey2, v, tx, T, F, r, U, H, N, (0, B.2), _, wB, mk, c⟩
  obtain ⟨x, ex, SC', e1, e2⟩ := key
  exact ⟨x.1, SC', x.2, e1, ex, e2⟩
