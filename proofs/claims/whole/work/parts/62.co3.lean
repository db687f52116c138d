/-! THE CLASS: frames; settled, copied; what the laws tell. -/
/-- it writes only the state st, the scratch of Days and the stacks of laws -/
def Fq (st : Nat) (S S' : Mem) : Prop := (∀ o, o ≠ st → S'.1 o = S.1 o) ∧ (∀ o f, o ≠ st → o ≠ 6 → ¬ (20 ≤ o ∧ f = 1) → S'.2.1 o f = S.2.1 o f) ∧ S'.2.2 = S.2.2
theorem Fq.rf (st : Nat) (S : Mem) : Fq st S S := ⟨fun _ _ => rfl, fun _ _ _ _ _ => rfl, rfl⟩
theorem Fq.tr {st : Nat} {A B C : Mem} (h1 : Fq st A B) (h2 : Fq st B C) : Fq st A C := ⟨fun o h => (h2.1 o h).trans (h1.1 o h), fun o f a b c => (h2.2.1 o f a b c).trans (h1.2.1 o f a b c), h2.2.2.trans h1.2.2⟩
theorem Fq.s {st : Nat} {S S' : Mem} (h : Fq st S S') (f : Nat) (i x : Int32) : Fq st S (sA S' st f i x) := ⟨h.1, fun o f' a b c => by rw [sA_2, if_neg (fun z => a z.1)]; exact h.2.1 o f' a b c, h.2.2⟩
theorem Fq.p {st : Nat} {S S' : Mem} (h : Fq st S S') (k : Nat) (x : Int32) : Fq st S (pI S' st k x) := ⟨fun o ho => by rw [← h.1 o ho]; funext k'; rw [pI_1, if_neg (fun z => ho z.1)], h.2.1, h.2.2⟩
theorem Mf.fq {st : Nat} {S S' : Mem} (h : Mf st S S') : Fq st S S' := ⟨fun o _ => by rw [h.1], fun o f a _ _ => h.2.1 o f (fun z => a z.1), h.2.2⟩
theorem CT.fq {T : TX} {tx st : Nat} {S S' : Mem} (hC : CT T tx S) (h : Fq st S S') (hne : tx ≠ st) (h20 : 20 ≤ tx) : CT T tx S' := by
  unfold CT
  rw [h.1 tx hne, h.2.1 tx 8 hne (by omega) (by omega), h.2.1 tx 9 hne (by omega) (by omega), h.2.1 tx 10 hne (by omega) (by omega), h.2.1 tx 11 hne (by omega) (by omega), h.2.1 tx 12 hne (by omega) (by omega), h.2.1 tx 13 hne (by omega) (by omega), h.2.1 tx 14 hne (by omega) (by omega), h.2.1 tx 15 hne (by omega) (by omega), h.2.1 tx 16 hne (by omega) (by omega)]
  exact hC
/-- what measures look at -/
def dSame (r r' : RW) : Prop := ∀ i, (4 ≤ i ∧ i < 19) ∨ (26 ≤ i ∧ i < 34) → r' i = r i
theorem kn_c {T : TX} {r r' : RW} (hM : nM T ≤ 7) (h : dSame r r') (s : Nat) : kn T r' s = kn T r s := orF_c _ (fun j hj => by rw [h (26 + j) (by omega)])
theorem knB_c {T : TX} {r r' : RW} (hM : nM T ≤ 7) (h : dSame r r') (s : Nat) : knB T r' s = knB T r s := by unfold knB; rw [kn_c hM h, h 33 (by omega)]
theorem wgt_c {T : TX} {r r' : RW} (hM : nM T ≤ 7) (h : dSame r r') (s : Nat) : wgt T r' s = wgt T r s := by unfold wgt; rw [knB_c hM h, h 33 (by omega)]
theorem dp_c {T : TX} {r r' : RW} (hM : nM T ≤ 7) (hS : nS T ≤ 8) (h : dSame r r') (w : Nat) : dp T r' w = dp T r w := by
  unfold dp
  rw [sumF_c (g := fun s => if r (4 + s) = nI w then wgt T r s else 0) _ (fun j hj => by rw [h (4 + j) (by omega), wgt_c hM h])]
theorem hld_c {T : TX} {r r' : RW} (hM : nM T ≤ 7) (hS : nS T ≤ 8) (h : dSame r r') (w : Nat) : hld T r' w = hld T r w := orF_c _ (fun j hj => by simp only [isH, knB_c hM h, h (4 + j) (by omega), h 33 (by omega)])
theorem drk_c {T : TX} {r r' : RW} (hM : nM T ≤ 7) (h : dSame r r') (w : Nat) : drk T r' w = drk T r w := orF_c _ (fun j hj => by rw [h 33 (by omega), h (12 + j) (by omega)])
theorem CM.c {T : TX} {r r' : RW} {st : Nat} {S : Mem} (hN : TN T) (hM : CM T r st S) (h : dSame r r') : CM T r' st S := by
  have h7 := hN.2.1.2
  have h8 := hN.2.2.1.2
  refine ⟨fun w hw => ?_, fun s hs => ?_⟩
  · rw [dp_c h7 h8 h, hld_c h7 h8 h, drk_c h7 h]; exact hM.1 w hw
  · rw [wgt_c h7 h]; exact hM.2 s hs
theorem CM.o {T : TX} {r : RW} {st : Nat} {S S' : Mem} (hM : CM T r st S) (h : ∀ f, 9 ≤ f → f ≤ 12 → S'.2.1 st f = S.2.1 st f) : CM T r st S' := by
  unfold CM
  rw [h 9 (by decide) (by decide), h 10 (by decide) (by decide), h 11 (by decide) (by decide), h 12 (by decide) (by decide)]
  exact hM
theorem dSame.w {r : RW} {w : Nat} (h : w < 4) (x : Int32) : dSame r (upd r w x) := fun i hi => by rw [upd_at, if_neg (by omega)]
theorem CB.w {T : TX} {r : RW} {st : Nat} {S : Mem} (hN : TN T) (hB : CB T r st S) {w : Nat} (hw : w < nW T) (x : Int32) : CB T (upd r w x) st (sA S st 4 (nI w) x) := by
  have h4 := hN.1.2
  obtain ⟨h1, h2, h3, h5⟩ := hB
  refine ⟨?_, fun v hv => ?_, fun a ha => ?_, fun s hs => ?_⟩
  · simp only [sA_1, upd_at, if_neg (show ¬ 35 = w by omega), if_neg (show ¬ 33 = w by omega), if_neg (show ¬ 34 = w by omega), if_neg (show ¬ 36 = w by omega)]; exact h1
  · simp only [sA_2, upd_at, cl (show w < 4096 by omega), and_self, if_true]; rw [h2 v hv]
  · simp only [sA_2, upd_at, if_neg (show ¬ 12 + a = w by omega), if_neg (show ¬ 19 + a = w by omega), if_neg (show ¬ 26 + a = w by omega), if_neg (show ¬ (st = st ∧ 5 = 4) by omega), if_neg (show ¬ (st = st ∧ 6 = 4) by omega), if_neg (show ¬ (st = st ∧ 7 = 4) by omega)]; exact h3 a ha
  · simp only [sA_2, upd_at, if_neg (show ¬ 4 + s = w by omega), if_neg (show ¬ (st = st ∧ 8 = 4) by omega)]; exact h5 s hs
theorem CM.w {T : TX} {r : RW} {st : Nat} {S : Mem} (hN : TN T) (hM : CM T r st S) {w : Nat} (hw : w < nW T) (x : Int32) : CM T (upd r w x) st (sA S st 4 (nI w) x) := by
  have h4 := hN.1.2
  exact (hM.c hN (dSame.w (by omega) x)).o (fun f h1 h2 => by rw [sA_2, if_neg (by omega)])
theorem upd_id (r : RW) (w : Nat) : upd r w (r w) = r := by funext i; rw [upd_at]; split <;> simp_all
theorem cutR_m {T : TX} {w : Nat} {r : RW} : cutR T w r = upd r w (jMmin (r w) (dp T r w)) := by
  unfold cutR jMmin
  by_cases c : r w ≤ dp T r w
  · rw [if_pos c, if_neg (Int32.not_lt.mpr c), upd_id]
  · rw [if_neg c, if_pos (Int32.not_le.mp c)]
theorem St_settle {T : TX} {r : RW} {st tx : Nat} {S : Mem} (hN : TN T) (hne : tx ≠ st) (h20 : 20 ≤ tx) (h6 : st ≠ 6) (hC : CT T tx S) (hB : CB T r st S) (hM : CM T r st S) : Ok (fun S' => Fq st S S' ∧ CB T (iter (cutR T) (nW T) r) st S' ∧ CM T (iter (cutR T) (nW T) r) st S' ∧ S'.2.1 6 = S.2.1 6) (f_St_settle st tx S) := by
  have h4 := hN.1.2
  refine li_2 (f_St_settle_b2 st tx) (f_St_settle_l2 st tx) (fun _ => rfl) nI (fun j S' => Fq st S S' ∧ CB T (iter (cutR T) j r) st S' ∧ CM T (iter (cutR T) j r) st S' ∧ S'.2.1 6 = S.2.1 6) (nW T) _ (fun k j y hj hy => ?_) (fun k y hy => ?_) 5000 (by omega) S ⟨Fq.rf st S, hB, hM, rfl⟩
  · obtain ⟨hF, hB2, hM2, e6⟩ := hy
    have hC2 := hC.fq hF hne h20
    simp only [f_St_settle_b2, hC2.1.1, hN.1.1, if_neg (le_nI (show ¬ nW T ≤ j by omega) (by omega) (by omega)), g4 (show j < 4 by omega), cl (show j < 4096 by omega), hB2.2.1 j hj, (hM2.1 j hj).1, letS_e, nI_1]
    exact ⟨_, ⟨hF.s _ _ _, by rw [iter_s, cutR_m]; exact hB2.w hN hj _, by rw [iter_s, cutR_m]; exact hM2.w hN hj _, by funext f; rw [sA_2, if_neg (fun q => h6 q.1.symm), e6]⟩, rfl⟩
  · obtain ⟨hF, hB2, hM2, e6⟩ := hy
    have hC2 := hC.fq hF hne h20
    simp only [f_St_settle_b2, hC2.1.1, hN.1.1, if_pos (le_rf _)]
    exact Ok.i ⟨hF, hB2, hM2, e6⟩
theorem sCp_1 (S : Mem) (o f o2 f2 : Nat) (a b n : Int32) : (sCp S o f o2 f2 a b n).1 = S.1 := rfl
theorem sCp_2 (S : Mem) (o f o2 f2 : Nat) (a b n : Int32) (o' f' : Nat) : (sCp S o f o2 f2 a b n).2.1 o' f' = if o' = o2 ∧ f' = f2 then va_cpy (S.2.1 o f) (S.2.1 o2 f2) a.toNatClampNeg b.toNatClampNeg n.toNatClampNeg else S.2.1 o' f' := rfl
theorem sCp_3 (S : Mem) (o f o2 f2 : Nat) (a b n : Int32) : (sCp S o f o2 f2 a b n).2.2 = S.2.2 := rfl
theorem Fq.c {st : Nat} {S S' : Mem} (h : Fq st S S') (o f f2 : Nat) (a b n : Int32) : Fq st S (sCp S' o f st f2 a b n) := ⟨h.1, fun o f' q b c => by rw [sCp_2, if_neg (fun z => q z.1)]; exact h.2.1 o f' q b c, h.2.2⟩
theorem ic_8 : (8 : Int32).toNatClampNeg = 8 := by decide
theorem gCp4 {α : Type} {k : Option α} : gCp 0 0 4 4 4 k = k := if_neg (by decide)
theorem gCp7 {α : Type} {k : Option α} : gCp 0 0 7 7 7 k = k := if_neg (by decide)
theorem gCp8 {α : Type} {k : Option α} : gCp 0 0 8 8 8 k = k := if_neg (by decide)
theorem St_copyOf {T : TX} {r : RW} {S : Mem} (hN : TN T) (hB : CB T r 4 S) (hM : CM T r 4 S) : Ok (fun S' => Fq 5 S S' ∧ CB T r 5 S' ∧ CM T r 5 S') (f_St_copyOf 5 4 S) := by
  have hW := hN.1.2
  have h7 := hN.2.1.2
  have h8 := hN.2.2.1.2
  simp only [f_St_copyOf, f_St_copyOf_b0, letS_e, gCp4, gCp7, gCp8]
  refine Ok.i ⟨?_, ?_, ?_⟩
  · exact (((((((((((((Fq.rf 5 S).p _ _).p _ _).p _ _).p _ _).c _ _ _ _ _ _).c _ _ _ _ _ _).c _ _ _ _ _ _).c _ _ _ _ _ _).c _ _ _ _ _ _).c _ _ _ _ _ _).c _ _ _ _ _ _).c _ _ _ _ _ _).c _ _ _ _ _ _
  · obtain ⟨h1, h2, h3, h5⟩ := hB
    refine ⟨?_, fun w hw => ?_, fun a ha => ?_, fun s hs => ?_⟩
    · simpa [sCp_1, pI_1] using h1
    · simpa [sCp_2, pI_2, ic_0, ic_4, sb_cpy0 (show w < 4 by omega)] using h2 w hw
    · simpa [sCp_2, pI_2, ic_0, ic_7, sb_cpy0 (show a < 7 by omega)] using h3 a ha
    · simpa [sCp_2, pI_2, ic_0, ic_8, sb_cpy0 (show s < 8 by omega)] using h5 s hs
  · obtain ⟨h1, h2⟩ := hM
    refine ⟨fun w hw => ?_, fun s hs => ?_⟩
    · simpa [sCp_2, pI_2, ic_0, ic_4, sb_cpy0 (show w < 4 by omega)] using h1 w hw
    · simpa [sCp_2, pI_2, ic_0, ic_8, sb_cpy0 (show s < 8 by omega)] using h2 s hs
