/-! THE CLASS: a day. What days keep. -/
theorem RI.o {T : TX} {r r' : RW} (hN : TN T) (h : RI T r) (e : ∀ i, (4 ≤ i ∧ i < 19) ∨ (26 ≤ i ∧ i < 35) → r' i = r i) : RI T r' := by
  have h7 := hN.2.1.2
  have h8 := hN.2.2.1.2
  obtain ⟨h1, h2, h3, h4, h5⟩ := h
  refine ⟨?_, fun a ha => ?_, ?_, fun s hs => ?_, h5.of (fun i a b => e i (by omega)) h7⟩
  · rw [e 33 (by omega)]; exact h1
  · rw [e (26 + a) (by omega)]; exact h2 a ha
  · rw [e 34 (by omega)]; exact h3
  · rw [e (4 + s) (by omega)]; exact h4 s hs
theorem RI.al {T : TX} {r : RW} (hN : TN T) (h : RI T r) {x : Int32} (hx : ∀ i, nM T ≤ i → i < 32 → bt x i = false) : RI T (upd r 33 x) := by
  have h7 := hN.2.1.2
  have h8 := hN.2.2.1.2
  obtain ⟨h1, h2, h3, h4, h5⟩ := h
  refine ⟨?_, fun a ha => ?_, ?_, fun s hs => ?_, h5.of (fun i a b => by rw [upd_at, if_neg (by omega)]) h7⟩
  · rw [upd_at, if_pos rfl]; exact hx
  · rw [upd_at, if_neg (by omega)]; exact h2 a ha
  · rw [upd_at, if_neg (by omega)]; exact h3
  · rw [upd_at, if_neg (by omega)]; exact h4 s hs
theorem RI.k {T : TX} {r : RW} (hN : TN T) (h : RI T r) {a s : Nat} (ha : a < nM T) (hs : s < nS T) : RI T (upd r (26 + a) (r (26 + a) ||| bitM s)) := by
  have h7 := hN.2.1.2
  have h8 := hN.2.2.1.2
  obtain ⟨h1, h2, h3, h4, h5⟩ := h
  refine ⟨?_, fun b hb i hi h32 => ?_, ?_, fun s hs => ?_, h5.of (fun i a b => by rw [upd_at, if_neg (by omega)]) h7⟩
  · rw [upd_at, if_neg (by omega)]; exact h1
  · rw [upd_at]
    by_cases c : 26 + b = 26 + a
    · rw [if_pos c, b_or, h2 a ha i hi h32, bt_bitM (by omega) h32]
      simp; omega
    · rw [if_neg c]; exact h2 b hb i hi h32
  · rw [upd_at, if_neg (by omega)]; exact h3
  · rw [upd_at, if_neg (by omega)]; exact h4 s hs
theorem dead_hi {T : TX} {r : RW} (h : RI T r) (a : Nat) : ∀ i, nM T ≤ i → i < 32 → bt (r 33 &&& (bitM a ^^^ (-1))) i = false := fun i h1 h2 => by rw [b_and, h.1 i h1 h2, Bool.false_and]
theorem RI.drink {T : TX} {F : LF} {r : RW} (hN : TN T) (h : RI T r) {a : Nat} (ha : a < nM T) : RI T (drinkR T F a r) := by
  have h7 := hN.2.1.2
  have h4 := hN.1.2
  have hh := (h.2.2.2.2 a ha).1
  unfold drinkR
  have q : ∀ x y : Int32, RI T (upd (upd r (hm r a) x) (19 + a) y) := fun x y => h.o hN (fun i hi => by rw [upd_at, if_neg (by omega), upd_at, if_neg (by omega)])
  split
  · split
    · exact q _ _
    · refine (q _ _).al hN ?_
      rw [upd_at, if_neg (by omega), upd_at, if_neg (by omega)]
      exact dead_hi h a
  · exact q _ _
theorem RI.e1 {T : TX} {F : LF} {r : RW} (hN : TN T) (h : RI T r) {w : Nat} (hw : w < nW T) : RI T (d1 T F w r) := h.o hN (fun i hi => d1_o (by have := hN.1.2; omega))
theorem RI.e2 {T : TX} {F : LF} {r : RW} (hN : TN T) (h : RI T r) {a : Nat} (ha : a < nM T) : RI T (d2 T F a r) := by
  unfold d2
  split
  · exact h
  · exact h.drink hN ha
theorem RI.tell {T : TX} {F : LF} {sd : Int32} {kw : Nat → Int32} {t s : Nat} {r : RW} (hN : TN T) (hE : TE_ok T) (h : RI T r) (ht : t < nT T) (hs : s < nS T) : RI T (tell1 T F sd kw t s r) := by
  unfold tell1
  split
  · exact h
  · split
    · split
      · exact h
      · exact h.k hN (hE t ht).2.2.1 hs
    · exact h
theorem RI.e3 {T : TX} {F : LF} {sd : Int32} {kw : Nat → Int32} {t : Nat} {r : RW} (hN : TN T) (hE : TE_ok T) (h : RI T r) (ht : t < nT T) : RI T (d3 T F sd kw t r) := by
  unfold d3
  split
  · exact iter_ind (P := RI T) _ _ h (fun j a hj ha => ha.tell hN hE ht hj)
  · exact h
theorem RI.cut {T : TX} {r : RW} (hN : TN T) (h : RI T r) : RI T (iter (cutR T) (nW T) r) := iter_ind (P := RI T) _ _ h (fun j a hj ha => ha.o hN (fun i hi => cutR_o (by have := hN.1.2; omega)))
theorem iter_id {α : Type} {f : Nat → α → α} {a : α} : ∀ n, (∀ j, j < n → f j a = a) → iter f n a = a
  | 0, _ => rfl
  | n + 1, h => by rw [iter_s, iter_id n (fun j hj => h j (by omega)), h n (by omega)]
theorem Dy_lot {sd : Int32} {r : RW} (t s : Nat) : f_Dy_lot 100 sd (128 * r 35 + 8 * nI t + nI s) = some (LOT sd r t s) := by
  have hs : ∀ h v, f_Dy_stirred h v = some (mix h v) := fun h v => by simp only [f_Dy_stirred, f_Dy_stirred_b0, letS_e]; rfl
  simp only [f_Dy_lot, f_Dy_lot_b0, hs, bind_e, if_pos (show (1 : Int32) ≤ 100 by decide), gNz, if_neg (show ¬ (100 : Int32) = 0 by decide)]
  rfl
theorem CG.meas {T : TX} {F : LF} {r : RW} {tx st : Nat} {S : Mem} (hT : TG T F) (hI : RI T r) (hX : CX2 T F tx S) (hst : st < 6) (hB : CB T r st S) : Ok (fun S' => Mf st S S' ∧ CG T F r tx st S') (f_St_measure st tx S) :=
  (St_measure hT.1 hT.2.1 hI (by have := hX.1; omega) hX.2.1 hB).m (fun z hz => ⟨hz.1, (hX.fq hz.1.fq hst).g hst (hB.mf hz.1) hz.2⟩)
theorem Dy_drink {T : TX} {F : LF} {r : RW} {tx st : Nat} {S : Mem} (hT : TG T F) (hI : RI T r) (hG : CG T F r tx st S) {a : Nat} (ha : a < nM T) : Ok (fun S' => Fq st S S' ∧ CG T F (drinkR T F a r) tx st S') (f_Dy_drink tx st (nI a) S) := by
  have hN := hT.1
  have hst := hG.1.2
  have h4 := hN.1.2
  have h7 := hN.2.1.2
  obtain ⟨hh, eh⟩ := hI.2.2.2.2 a ha
  have e5 := (hG.2.2.2.1.2.2.1 a ha).1.trans eh
  have hD := RI.drink (F := F) hN hI ha
  simp only [f_Dy_drink, f_Dy_drink_b0, g7 (show a < 7 by omega), cl (show a < 4096 by omega), e5, letS_e]
  refine (Dy_drinksNow hT hI hG ha).b (fun z hz => ?_)
  obtain ⟨ez, hv⟩ := hz
  have hG2 := hG.dv hv
  have F0 := hv.fq st
  unfold drinkR at hD ⊢
  generalize hwe : hm r a = w at hh hD ⊢
  have B1 := hG2.2.2.2.1.w hN hh 0
  have M1 := hG2.2.2.2.2.w hN hh 0
  have B2 := B1.t hN ha (upd r w 0 (19 + a) + 1)
  have M2 := (M1.s (f := 6) (by decide) (nI a) (upd r w 0 (19 + a) + 1)).c hN (dSame.t (show a < 7 by omega) (upd r w 0 (19 + a) + 1))
  have F2 := (F0.s 4 (nI w) 0).s 6 (nI a) (upd r w 0 (19 + a) + 1)
  have X2 := hG.x.fq F2 hst
  have e6 := (B1.2.2.1 a ha).2.1
  have e6b := (B2.2.2.1 a ha).2.1
  have e1 := B2.1.2.1
  have et := X2.2.1.2.1.1
  have Q1 := hG2.2.2.2.1.w hN hh (r w - DR T F r a)
  have QM := hG2.2.2.2.2.w hN hh (r w - DR T F r a)
  simp only [ez, g4 (show w < 4 by omega), cl (show w < 4096 by omega), hG2.2.2.2.1.2.1 w hh, e6, e6b, e1, et]
  by_cases c1 : r w < DR T F r a
  · rw [if_pos c1] at hD ⊢
    rw [if_pos c1]
    by_cases c2 : upd (upd r w 0) (19 + a) (upd r w 0 (19 + a) + 1) (19 + a) < T 0 4
    · rw [if_pos c2, if_pos c2]
      exact Ok.i ⟨F2, X2.g hst B2 M2⟩
    · rw [if_neg c2] at hD ⊢
      rw [if_neg c2]
      have B3 := B2.al hN (upd (upd r w 0) (19 + a) (upd r w 0 (19 + a) + 1) 33 &&& (bitM a ^^^ (-1)))
      have F3 := F2.p 1 (upd (upd r w 0) (19 + a) (upd r w 0 (19 + a) + 1) 33 &&& (bitM a ^^^ (-1)))
      exact (CG.meas hT hD (hG.x.fq F3 hst) hst B3).b (fun z hz => Ok.i ⟨F3.tr hz.1.fq, hz.2⟩)
  · rw [if_neg c1, if_neg c1]
    have F3 := (F0.s 4 (nI w) (r w - DR T F r a)).s 6 (nI a) 0
    exact Ok.i ⟨F3, (hG.x.fq F3 hst).g hst (Q1.t hN ha 0) ((QM.s (f := 6) (by decide) (nI a) 0).c hN (dSame.t (by omega) 0))⟩
theorem bitOf_news (x y : Int32) {k : Nat} (hk : k < 32) : (bitOf (x &&& (y ^^^ (-1))) k = 0 ∧ (bitOf x k = 0 ∨ bitOf y k = 1)) ∨ (¬ bitOf (x &&& (y ^^^ (-1))) k = 0 ∧ ¬ bitOf x k = 0 ∧ bitOf y k = 0) := by
  rw [bitOf_0 _ hk, bitOf_0 _ hk, bitOf_1 _ hk, bitOf_0 _ hk, b_and, b_xor, b_m1 k hk]
  cases bt x k <;> cases bt y k <;> simp
theorem Dy_talk {T : TX} {F : LF} {r : RW} {tx st : Nat} {S : Mem} {sd : Int32} {kw : Nat → Int32} (hT : TG T F) (hI : RI T r) (hG : CG T F r tx st S) (hk : ∀ a, a < nM T → S.2.1 6 1 a = kw a) {t : Nat} (ht : t < nT T) : Ok (fun S' => Fq st S S' ∧ CG T F (d3 T F sd kw t r) tx st S' ∧ S'.2.1 6 1 = S.2.1 6 1) (f_Dy_talk tx st (nI t) sd S) := by
  have hN := hT.1
  have hst := hG.1.2
  have h7 := hN.2.1.2
  have h8 := hN.2.2.1.2
  have h12 := hN.2.2.2.2
  obtain ⟨hf, ef, hto, et⟩ := hT.2.2.1 t ht
  have e15 := (hG.2.1.2.2.2.2.2.2 t ht).1.trans ef
  have e16 := (hG.2.1.2.2.2.2.2.2 t ht).2.trans et
  have hB := hG.2.2.2.1
  simp only [f_Dy_talk, f_Dy_talk_b0, g12 (show t < 12 by omega), cl (show t < 4096 by omega), e15, e16, letS_e, g7 (show fm T t < 7 by omega), g7 (show to T t < 7 by omega), cl (show fm T t < 4096 by omega), cl (show to T t < 4096 by omega), hk _ hf, (hB.2.2.1 _ hto).2.2, St_isCut hB, St_isAlive hB, bind_e]
  have news0 : ∀ j, j < 32 → bitOf (kw (fm T t) &&& (r (26 + to T t) ^^^ (-1))) j = 0 → ∀ r', bitOf (r' (26 + to T t)) j = bitOf (r (26 + to T t)) j → tell1 T F sd kw t j r' = r' := by
    intro j hj hb r' hr'
    rcases bitOf_news (kw (fm T t)) (r (26 + to T t)) hj with ⟨-, h | h⟩ | ⟨h, -⟩
    · exact tell1_a h
    · exact tell1_d (by rw [hr', h]; decide)
    · exact absurd hb h
  by_cases c0 : kw (fm T t) &&& (r (26 + to T t) ^^^ (-1)) = 0
  · rw [if_pos c0]
    refine Ok.i ⟨Fq.rf st S, ?_, rfl⟩
    have : d3 T F sd kw t r = r := by
      unfold d3
      split
      · refine iter_id _ (fun j hj => news0 j (by omega) ?_ r rfl)
        rw [c0, bitOf_0 _ (by omega), b_0]
      · rfl
    rw [this]; exact hG
  · rw [if_neg c0]
    by_cases c1 : bitOf (r 34) t = 0
    · rw [if_pos c1]
      by_cases c2 : bitOf (r 33) (fm T t) = 0
      · rw [if_pos c2, d3_b (fun z => absurd (c2.symm.trans z.2.1) (by decide))]
        exact Ok.i ⟨Fq.rf st S, hG, rfl⟩
      · rw [if_neg c2]
        by_cases c3 : bitOf (r 33) (to T t) = 0
        · rw [if_pos c3, d3_b (fun z => absurd (c3.symm.trans z.2.2) (by decide))]
          exact Ok.i ⟨Fq.rf st S, hG, rfl⟩
        · rw [if_neg c3, d3_a ⟨c1, (bit01 _ _).resolve_left c2, (bit01 _ _).resolve_left c3⟩]
          refine li_6 (f_Dy_talk_b70 tx st) (f_Dy_talk_l70 tx st) (fun _ => rfl) (fun _ => nI t) (fun _ => sd) (fun _ => nI (to T t)) (fun _ => kw (fm T t) &&& (r (26 + to T t) ^^^ (-1))) nI
            (fun j S' => (Fq st S S' ∧ CG T F (iter (tell1 T F sd kw t) j r) tx st S' ∧ S'.2.1 6 1 = S.2.1 6 1) ∧ RI T (iter (tell1 T F sd kw t) j r) ∧ ∀ i, j ≤ i → i < 32 → bitOf (iter (tell1 T F sd kw t) j r (26 + to T t)) i = bitOf (r (26 + to T t)) i)
            (nS T) _ (fun k j y hj hy => ?_) (fun k y hy => ?_) 5000 (by omega) S ⟨⟨Fq.rf st S, hG, rfl⟩, hI, fun _ _ _ => rfl⟩
          · obtain ⟨⟨hF, hG2, e6⟩, hI2, hb⟩ := hy
            simp only [f_Dy_talk_b70, hG2.2.1.1.2.2.1, hN.2.2.1.1, if_neg (le_nI (show ¬ nS T ≤ j by omega) (by omega) (by omega)), letS_e, nI_1]
            rw [show ((kw (fm T t) &&& (r (26 + to T t) ^^^ (-1))) >>> (nI j &&& 31)) &&& 1 = bitOf (kw (fm T t) &&& (r (26 + to T t) ^^^ (-1))) j from rfl]
            generalize hrj : iter (tell1 T F sd kw t) j r = rj at hG2 hI2 hb
            have hs : iter (tell1 T F sd kw t) (j + 1) r = tell1 T F sd kw t j rj := by rw [iter_s, hrj]
            rw [hs]
            have hI3 : RI T (tell1 T F sd kw t j rj) := hI2.tell hN hT.2.2.1 ht hj
            have hb3 : ∀ i, j + 1 ≤ i → i < 32 → bitOf (tell1 T F sd kw t j rj (26 + to T t)) i = bitOf (r (26 + to T t)) i := by
              intro i h1 h2
              rw [← hb i (by omega) h2]
              unfold tell1
              split
              · rfl
              · split
                · split
                  · rfl
                  · rw [upd_at, if_pos rfl, bitOf_bt _ h2, bitOf_bt _ h2, b_or, bt_bitM (by omega) h2]
                    simp [show ¬ i = j by omega]
                · rfl
            rcases bitOf_news (kw (fm T t)) (r (26 + to T t)) (show j < 32 by omega) with ⟨n1, -⟩ | ⟨n1, n2, n3⟩
            · rw [if_pos n1]
              exact ⟨y, ⟨⟨hF, by rw [news0 j (by omega) n1 rj (hb j (Nat.le_refl _) (by omega))]; exact hG2, e6⟩, hI3, hb3⟩, rfl⟩
            · rw [if_neg n1]
              obtain ⟨z, ez, hz1, hz2⟩ := Dy_tellsNow hT hI2 hG2 ht hj
              have n4 : bitOf (rj (26 + to T t)) j = 0 := by rw [hb j (Nat.le_refl _) (by omega)]; exact n3
              have hGz := hG2.dv hz2
              have Fz := hF.tr (hz2.fq st)
              have e6z : z.2.2.1 6 1 = S.2.1 6 1 := (hz2.2.1 6 1 (by omega) (by omega)).trans e6
              rw [ez]
              simp only [bind_e, hz1, hGz.2.2.2.1.1.1, Dy_lot, g7 (show to T t < 7 by omega), cl (show to T t < 4096 by omega), (hGz.2.2.2.1.2.2.1 _ hto).2.2]
              by_cases c4 : TE T F rj t j ≤ LOT sd rj t j
              · rw [if_pos c4]
                exact ⟨z.2, ⟨⟨Fz, by rw [tell1_b n4 c4]; exact hGz, e6z⟩, hI3, hb3⟩, rfl⟩
              · rw [if_neg c4]
                rw [tell1_c n2 n4 c4] at hI3 hb3 ⊢
                have F3 := Fz.s 7 (nI (to T t)) (rj (26 + to T t) ||| bitM j)
                obtain ⟨z3, e3, m3, g3⟩ := CG.meas hT hI3 (hG.x.fq F3 hst) hst (hGz.2.2.2.1.k hN hto (rj (26 + to T t) ||| bitM j))
                refine ⟨z3, ⟨⟨F3.tr m3.fq, g3, ?_⟩, hI3, hb3⟩, ?_⟩
                · rw [m3.2.1 6 1 (by omega), sA_2, if_neg (by omega)]; exact e6z
                · exact (congrArg (fun o => Option.bind o _) e3)
          · obtain ⟨⟨hF, hG2, e6⟩, hI2, hb⟩ := hy
            simp only [f_Dy_talk_b70, hG2.2.1.1.2.2.1, hN.2.2.1.1, if_pos (le_rf _)]
            exact Ok.i ⟨hF, hG2, e6⟩
    · rw [if_neg c1, d3_b (fun z => c1 z.1)]
      exact Ok.i ⟨Fq.rf st S, hG, rfl⟩
theorem Dy_pass {T : TX} {F : LF} {r : RW} {tx st : Nat} {S : Mem} {sd : Int32} (hT : TG T F) (hI : RI T r) (hG : CG T F r tx st S) : Ok (fun S' => Fq st S S' ∧ CG T F (dayR T F sd r) tx st S' ∧ RI T (dayR T F sd r)) (f_Dy_pass tx st sd S) := by
  have hN := hT.1
  have hst := hG.1.2
  have h20 := hG.1.1
  have h4 := hN.1.2
  have h7 := hN.2.1.2
  have h8 := hN.2.2.1.2
  have h12 := hN.2.2.2.2
  refine li_3 (f_Dy_pass_b3 tx st) (f_Dy_pass_l3 tx st) (fun _ => rfl) (fun _ => sd) nI (fun j S' => Fq st S S' ∧ CG T F (iter (d1 T F) j r) tx st S' ∧ RI T (iter (d1 T F) j r)) (nW T) _ (fun k j y hj hy => ?_) (fun k y hy => ?_) 5000 (by omega) S ⟨Fq.rf st S, hG, hI⟩
  · obtain ⟨hF, hG2, hI2⟩ := hy
    generalize hrj : iter (d1 T F) j r = rj at hG2 hI2
    have hs : iter (d1 T F) (j + 1) r = d1 T F j rj := by rw [iter_s, hrj]
    rw [hs]
    obtain ⟨z, ez, hz1, hz2⟩ := Dy_fillsNow hT hG2 hj
    have hGz := hG2.dv hz2
    simp only [f_Dy_pass_b3, hG2.2.1.1.1, hN.1.1, if_neg (le_nI (show ¬ nW T ≤ j by omega) (by omega) (by omega)), ez, bind_e, letS_e, g4 (show j < 4 by omega), cl (show j < 4096 by omega), hz1, (hGz.2.2.2.2.1 j hj).1, hGz.2.2.2.1.2.1 j hj, nI_1]
    have ed : d1 T F j rj = upd rj j (jMmin (dp T rj j) (rj j + FL T F rj j)) := by
      unfold d1 jMmin
      by_cases c : dp T rj j ≤ rj j + FL T F rj j
      · rw [if_pos c, if_neg (Int32.not_lt.mpr c)]
      · rw [if_neg c, if_pos (Int32.not_le.mp c)]
    have F2 := (hF.tr (hz2.fq st)).s 4 (nI j) (jMmin (dp T rj j) (rj j + FL T F rj j))
    exact ⟨_, ⟨F2, by rw [ed]; exact (hG.x.fq F2 hst).g hst (hGz.2.2.2.1.w hN hj _) (hGz.2.2.2.2.w hN hj _), hI2.e1 hN hj⟩, rfl⟩
  · obtain ⟨hF, hG2, hI2⟩ := hy
    simp only [f_Dy_pass_b3, hG2.2.1.1.1, hN.1.1, if_pos (le_rf _)]
    unfold dayR
    generalize hr1 : iter (d1 T F) (nW T) r = r1 at hG2 hI2
    have hB : dB T F r = iter (d2 T F) (nM T) r1 := by unfold dB; rw [hr1]
    rw [hB]
    refine li_3 (f_Dy_pass_b58 tx st) (f_Dy_pass_l58 tx st) (fun _ => rfl) (fun _ => sd) nI (fun j S' => Fq st S S' ∧ CG T F (iter (d2 T F) j r1) tx st S' ∧ RI T (iter (d2 T F) j r1)) (nM T) _ (fun k j y hj hy => ?_) (fun k y hy => ?_) 5000 (by omega) y ⟨hF, hG2, hI2⟩
    · obtain ⟨hF, hG2, hI2⟩ := hy
      generalize hrj : iter (d2 T F) j r1 = rj at hG2 hI2
      have hs : iter (d2 T F) (j + 1) r1 = d2 T F j rj := by rw [iter_s, hrj]
      rw [hs]
      simp only [f_Dy_pass_b58, hG2.2.1.1.2.1, hN.2.1.1, if_neg (le_nI (show ¬ nM T ≤ j by omega) (by omega) (by omega)), St_isAlive hG2.2.2.2.1, bind_e, nI_1]
      by_cases c : bitOf (rj 33) j = 0
      · rw [if_pos c]
        exact ⟨y, ⟨hF, by rw [d2_a c]; exact hG2, hI2.e2 hN hj⟩, rfl⟩
      · rw [if_neg c]
        obtain ⟨z, ez, hz1, hz2⟩ := Dy_drink hT hI2 hG2 hj
        rw [ez]
        simp only [bind_e]
        exact ⟨z, ⟨hF.tr hz1, by rw [d2_b c]; exact hz2, hI2.e2 hN hj⟩, rfl⟩
    · obtain ⟨hF, hG2, hI2⟩ := hy
      generalize hr2 : iter (d2 T F) (nM T) r1 = r2 at hG2 hI2
      simp only [f_Dy_pass_b58, hG2.2.1.1.2.1, hN.2.1.1, if_pos (le_rf _), gCp7, letS_e]
      have FC : Fq st S (sCp y st 7 6 1 0 0 7) := ⟨hF.1, fun o f a b c => by rw [sCp_2, if_neg (fun z => b z.1)]; exact hF.2.1 o f a b c, hF.2.2⟩
      have oth : ∀ f, (sCp y st 7 6 1 0 0 7).2.1 st f = y.2.1 st f := fun f => by rw [sCp_2, if_neg (by omega)]
      have G3 : CG T F r2 tx st (sCp y st 7 6 1 0 0 7) := (hG.x.fq FC hst).g hst (by unfold CB; rw [sCp_1, oth, oth, oth, oth, oth]; exact hG2.2.2.2.1) (hG2.2.2.2.2.o (fun f _ _ => oth f))
      have K3 : ∀ a, a < nM T → (sCp y st 7 6 1 0 0 7).2.1 6 1 a = r2 (26 + a) := fun a ha => by
        rw [sCp_2, if_pos ⟨rfl, rfl⟩, ic_0, ic_7, sb_cpy0 (show a < 7 by omega)]
        exact (hG2.2.2.2.1.2.2.1 a ha).2.2
      unfold dE
      refine li_3 (f_Dy_pass_b108 tx st) (f_Dy_pass_l108 tx st) (fun _ => rfl) (fun _ => sd) nI (fun j S' => Fq st S S' ∧ CG T F (iter (d3 T F sd (fun a => r2 (26 + a))) j r2) tx st S' ∧ RI T (iter (d3 T F sd (fun a => r2 (26 + a))) j r2) ∧ ∀ a, a < nM T → S'.2.1 6 1 a = r2 (26 + a)) (nT T) _ (fun k j y hj hy => ?_) (fun k y hy => ?_) 5000 (by omega) _ ⟨FC, G3, hI2, K3⟩
      · obtain ⟨hF, hG2, hI2, hK⟩ := hy
        generalize hrj : iter (d3 T F sd (fun a => r2 (26 + a))) j r2 = rj at hG2 hI2
        have hs : iter (d3 T F sd (fun a => r2 (26 + a))) (j + 1) r2 = d3 T F sd (fun a => r2 (26 + a)) j rj := by rw [iter_s, hrj]
        rw [hs]
        obtain ⟨z, ez, hz1, hz2, hz3⟩ := Dy_talk (sd := sd) (kw := fun a => r2 (26 + a)) hT hI2 hG2 hK hj
        simp only [f_Dy_pass_b108, hG2.2.1.1.2.2.2, hN.2.2.2.1, if_neg (le_nI (show ¬ nT T ≤ j by omega) (by omega) (by omega)), ez, bind_e, nI_1]
        exact ⟨z, ⟨hF.tr hz1, hz2, hI2.e3 hN hT.2.2.1 hj, fun a ha => by rw [hz3]; exact hK a ha⟩, rfl⟩
      · obtain ⟨hF, hG2, hI2, hK⟩ := hy
        generalize hr3 : iter (d3 T F sd (fun a => r2 (26 + a))) (nT T) r2 = r3 at hG2 hI2
        simp only [f_Dy_pass_b108, hG2.2.1.1.2.2.2, hN.2.2.2.1, if_pos (le_rf _)]
        refine (St_settle hN (by omega) h20 (by omega) hG2.2.1 hG2.2.2.2.1 hG2.2.2.2.2).b (fun z hz => ?_)
        obtain ⟨hz1, hz2, hz3, -⟩ := hz
        simp only [letS_e, hz2.1.1]
        have F4 := (hF.tr hz1).p 0 (iter (cutR T) (nW T) r3 35 + 1)
        have I4 : RI T (dZ (iter (cutR T) (nW T) r3)) := (hI2.cut hN).o hN (fun i hi => by unfold dZ; rw [upd_at, if_neg (by omega)])
        exact Ok.i ⟨F4, (hG.x.fq F4 hst).g hst (hz2.da hN _) ((hz3.p 0 _).c hN (dSame.z (by decide) _)), I4⟩
