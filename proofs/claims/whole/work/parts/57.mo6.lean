/-! THE REFERENCE: a day and more of them -/
def d1 (T : TX) (F : LF) (w : Nat) (r : RW) : RW := upd r w (if dp T r w ≤ r w + FL T F r w then dp T r w else r w + FL T F r w)
def d2 (T : TX) (F : LF) (a : Nat) (r : RW) : RW := if bitOf (r 33) a = 0 then r else drinkR T F a r
def d3 (T : TX) (F : LF) (sd : Int32) (kw : Nat → Int32) (t : Nat) (r : RW) : RW := if opn T r t then iter (tell1 T F sd kw t) (nS T) r else r
def dB (T : TX) (F : LF) (r : RW) : RW := iter (d2 T F) (nM T) (iter (d1 T F) (nW T) r)
def dE (T : TX) (F : LF) (sd : Int32) (kw : Nat → Int32) (r : RW) : RW := iter (cutR T) (nW T) (iter (d3 T F sd kw) (nT T) r)
def dZ (r : RW) : RW := upd r 35 (r 35 + 1)
def dayR (T : TX) (F : LF) (sd : Int32) (r : RW) : RW := dZ (dE T F sd (fun a => dB T F r (26 + a)) (dB T F r))
theorem d2_a {T : TX} {F : LF} {a : Nat} {r : RW} (h : bitOf (r 33) a = 0) : d2 T F a r = r := if_pos h
theorem d2_b {T : TX} {F : LF} {a : Nat} {r : RW} (h : ¬ bitOf (r 33) a = 0) : d2 T F a r = drinkR T F a r := if_neg h
theorem d3_a {T : TX} {F : LF} {sd : Int32} {kw : Nat → Int32} {t : Nat} {r : RW} (h : opn T r t) : d3 T F sd kw t r = iter (tell1 T F sd kw t) (nS T) r := if_pos h
theorem d3_b {T : TX} {F : LF} {sd : Int32} {kw : Nat → Int32} {t : Nat} {r : RW} (h : ¬ opn T r t) : d3 T F sd kw t r = r := if_neg h
theorem d3_o {T : TX} {F : LF} {sd : Int32} {kw : Nat → Int32} {t : Nat} {r : RW} {i : Nat} (h : i < 26 ∨ 33 ≤ i) (hE : to T t < 7) : d3 T F sd kw t r i = r i := by
  unfold d3
  split
  · exact iter_o (fun n r => tell1_o (by omega)) _ r
  · rfl
theorem d1_o {T : TX} {F : LF} {w : Nat} {r : RW} {i : Nat} (h : i ≠ w) : d1 T F w r i = r i := by unfold d1; rw [upd_at, if_neg h]
theorem d2_h {T : TX} {F : LF} {a : Nat} {r : RW} (hM : nM T ≤ 7) (hW : nW T ≤ 4) (hH : RH T r) (ha : a < nM T) {i : Nat} (h1 : 4 ≤ i) (h2 : i ≠ 19 + a) (h3 : i ≠ 33) : d2 T F a r i = r i := by
  unfold d2
  split
  · rfl
  · have := (hH a ha).1
    exact drinkR_o (by omega) h2 h3
theorem Mo_day128 {v : Nat} {T : TX} {F : LF} {S : Mem} {r : RW} {kw : Nat → Int32} (hN : TN T) (hT : TV v T S) (hL : ML F S) (h8 : L8 F) (hr : MR r S) (hH : RH T r) (hE : TE_ok T) (hk : ∀ a, a < nM T → S.2.1 0 59 a = kw a) : Ok (fun S' => FD S S' ∧ MR (dZ (dE T F (S.1 0 58) kw r)) S') (f_Mo_dayGoes_l128 5000 0 S) := by
  have hT12 : nT T ≤ 12 := hN.2.2.2.2
  have hM : nM T ≤ 7 := hN.2.1.2
  refine li_2 f_Mo_dayGoes_b128 f_Mo_dayGoes_l128 (fun _ => rfl) nI (fun j S' => FD S S' ∧ S'.2.1 0 59 = S.2.1 0 59 ∧ MR (iter (d3 T F (S.1 0 58) kw) j r) S' ∧ RH T (iter (d3 T F (S.1 0 58) kw) j r)) (nT T) _ (fun k j y hj hI => ?_) (fun k y hI => ?_) 5000 (by omega) S ⟨FD.rf _, rfl, hr, hH⟩
  · obtain ⟨hF, e59, hR, hH2⟩ := hI
    have hT2 := hF.1.tv hT
    obtain ⟨hv, e18, ⟨-, -, -, e34⟩, -⟩ := id hT2
    generalize hrj : iter (d3 T F (S.1 0 58) kw) j r = rj at hR hH2
    have hs : iter (d3 T F (S.1 0 58) kw) (j + 1) r = d3 T F (S.1 0 58) kw j rj := by rw [iter_s, hrj]
    rw [hs]
    have hH3 : RH T (d3 T F (S.1 0 58) kw j rj) := hH2.of (fun i h1 h2 => d3_o (by omega) (by have := (hE j hj).2.2.1; omega)) hM
    simp only [f_Mo_dayGoes_b128, e18, g2 hv, cl (show v < 4096 by omega), e34, hN.2.2.2.1, if_neg (le_nI (show ¬ nT T ≤ j by omega) (by omega) (by omega)), nI_1]
    rcases Mo_isOpen hN hT2 hR hE hj with ⟨c, e⟩ | ⟨c, e⟩
    · rw [e, bind_e, if_neg (by decide)]
      obtain ⟨z, ez, hz1, hz2, hz3⟩ := Mo_tellsAll (kw := kw) hN hT2 (hL.fr hF.1) h8 hR hH2 hE (fun a ha => by rw [e59]; exact hk a ha) hj
      rw [ez, bind_e]
      exact ⟨z, ⟨hF.tr hz1, hz2.trans e59, by rw [d3_a c, ← hF.2]; exact hz3, hH3⟩, rfl⟩
    · rw [e, bind_e, if_pos rfl]
      exact ⟨y, ⟨hF, e59, by rw [d3_b c]; exact hR, hH3⟩, rfl⟩
  · obtain ⟨hF, e59, hR, hH2⟩ := hI
    have hT2 := hF.1.tv hT
    obtain ⟨hv, e18, ⟨-, -, -, e34⟩, -⟩ := id hT2
    simp only [f_Mo_dayGoes_b128, e18, g2 hv, cl (show v < 4096 by omega), e34, hN.2.2.2.1, if_pos (le_rf _)]
    refine (Mo_cutsWater hN hT2 hR).b (fun z hz => ?_)
    simp only [g35, ic_35, hz.2.1 35 (by decide), letS_e]
    exact Ok.i ⟨(hF.tr ⟨hz.1, by rw [hz.2.2]⟩).s sc57 _ _, MR_s hz.2.1 (by decide) _⟩
theorem Mo_day92 {v : Nat} {T : TX} {F : LF} {S : Mem} {r : RW} (hN : TN T) (hT : TV v T S) (hL : ML F S) (h8 : L8 F) (hr : MR r S) (hH : RH T r) (hE : TE_ok T) : Ok (fun S' => FD S S' ∧ MR (dZ (dE T F (S.1 0 58) (fun a => r (26 + a)) r)) S') (f_Mo_dayGoes_l92 5000 0 S) := by
  have hM : nM T ≤ 7 := hN.2.1.2
  refine li_2 f_Mo_dayGoes_b92 f_Mo_dayGoes_l92 (fun _ => rfl) nI (fun j S' => FD S S' ∧ MR r S' ∧ ∀ a, a < j → S'.2.1 0 59 a = r (26 + a)) (nM T) _ (fun k j y hj hI => ?_) (fun k y hI => ?_) 5000 (by omega) S ⟨FD.rf _, hr, fun a ha => by omega⟩
  · obtain ⟨hF, hR, hK⟩ := hI
    obtain ⟨hv, e18, ⟨-, e27, -⟩, -⟩ := hF.1.tv hT
    simp only [f_Mo_dayGoes_b92, e18, g2 hv, cl (show v < 4096 by omega), e27, hN.2.1.1, if_neg (le_nI (show ¬ nM T ≤ j by omega) (by omega) (by omega)), nI_1, a26, g40 (show 26 + j < 40 by omega), cl (show 26 + j < 4096 by omega), hR (26 + j) (by omega), g7 (show j < 7 by omega), letS_e]
    refine ⟨_, ⟨hF.s sc59 _ _, MR_of hR rfl, fun a ha => ?_⟩, rfl⟩
    rw [sA_2, if_pos ⟨rfl, rfl⟩, cl (show j < 4096 by omega), upd_at]
    by_cases e : a = j
    · rw [if_pos e, e]
    · rw [if_neg e]; exact hK a (by omega)
  · obtain ⟨hF, hR, hK⟩ := hI
    have hT2 := hF.1.tv hT
    obtain ⟨hv, e18, ⟨-, e27, -⟩, -⟩ := id hT2
    simp only [f_Mo_dayGoes_b92, e18, g2 hv, cl (show v < 4096 by omega), e27, hN.2.1.1, if_pos (le_rf _)]
    refine (Mo_day128 hN hT2 (hL.fr hF.1) h8 hR hH hE hK).m (fun z hz => ⟨hF.tr hz.1, by rw [← hF.2]; exact hz.2⟩)
theorem Mo_day58 {v : Nat} {T : TX} {F : LF} {S : Mem} {r : RW} (hN : TN T) (hT : TV v T S) (hL : ML F S) (h8 : L8 F) (hr : MR r S) (hH : RH T r) (hE : TE_ok T) : Ok (fun S' => FD S S' ∧ MR (dZ (dE T F (S.1 0 58) (fun a => iter (d2 T F) (nM T) r (26 + a)) (iter (d2 T F) (nM T) r))) S') (f_Mo_dayGoes_l58 5000 0 S) := by
  have hM : nM T ≤ 7 := hN.2.1.2
  have hW : nW T ≤ 4 := hN.1.2
  refine li_2 f_Mo_dayGoes_b58 f_Mo_dayGoes_l58 (fun _ => rfl) nI (fun j S' => FD S S' ∧ MR (iter (d2 T F) j r) S' ∧ RH T (iter (d2 T F) j r)) (nM T) _ (fun k j y hj hI => ?_) (fun k y hI => ?_) 5000 (by omega) S ⟨FD.rf _, hr, hH⟩
  · obtain ⟨hF, hR, hH2⟩ := hI
    have hT2 := hF.1.tv hT
    obtain ⟨hv, e18, ⟨-, e27, -⟩, -⟩ := id hT2
    generalize hrj : iter (d2 T F) j r = rj at hR hH2
    have hs : iter (d2 T F) (j + 1) r = d2 T F j rj := by rw [iter_s, hrj]
    rw [hs]
    have hH3 : RH T (d2 T F j rj) := hH2.of (fun i h1 h2 => d2_h hM hW hH2 hj (by omega) (by omega) (by omega)) hM
    simp only [f_Mo_dayGoes_b58, e18, g2 hv, cl (show v < 4096 by omega), e27, hN.2.1.1, if_neg (le_nI (show ¬ nM T ≤ j by omega) (by omega) (by omega)), nI_1, Mo_isAlive hR, bind_e]
    by_cases c : bitOf (rj 33) j = 0
    · exact ⟨y, ⟨hF, by rw [d2_a c]; exact hR, hH3⟩, by rw [if_pos c]⟩
    · rw [if_neg c]
      obtain ⟨z, ez, hz1, hz2⟩ := Mo_drinks hN hT2 (hL.fr hF.1) h8 hR hH2 hj
      rw [ez, bind_e]
      exact ⟨z, ⟨hF.tr hz1, by rw [d2_b c]; exact hz2, hH3⟩, rfl⟩
  · obtain ⟨hF, hR, hH2⟩ := hI
    have hT2 := hF.1.tv hT
    obtain ⟨hv, e18, ⟨-, e27, -⟩, -⟩ := id hT2
    simp only [f_Mo_dayGoes_b58, e18, g2 hv, cl (show v < 4096 by omega), e27, hN.2.1.1, if_pos (le_rf _)]
    refine (Mo_day92 hN hT2 (hL.fr hF.1) h8 hR hH2 hE).m (fun z hz => ⟨hF.tr hz.1, by rw [← hF.2]; exact hz.2⟩)
theorem Mo_dayGoes {v : Nat} {T : TX} {F : LF} {S : Mem} {r : RW} (hN : TN T) (hT : TV v T S) (hL : ML F S) (h8 : L8 F) (hr : MR r S) (hH : RH T r) (hE : TE_ok T) : Ok (fun S' => FD S S' ∧ MR (dayR T F (S.1 0 58) r) S') (f_Mo_dayGoes S) := by
  have hM : nM T ≤ 7 := hN.2.1.2
  have hW : nW T ≤ 4 := hN.1.2
  refine li_2 f_Mo_dayGoes_b2 f_Mo_dayGoes_l2 (fun _ => rfl) nI (fun j S' => FD S S' ∧ MR (iter (d1 T F) j r) S' ∧ RH T (iter (d1 T F) j r)) (nW T) _ (fun k j y hj hI => ?_) (fun k y hI => ?_) 5000 (by omega) S ⟨FD.rf _, hr, hH⟩
  · obtain ⟨hF, hR, hH2⟩ := hI
    have hT2 := hF.1.tv hT
    obtain ⟨hv, e18, ⟨e24, -⟩, -⟩ := id hT2
    generalize hrj : iter (d1 T F) j r = rj at hR hH2
    have hs : iter (d1 T F) (j + 1) r = d1 T F j rj := by rw [iter_s, hrj]
    rw [hs]
    have hH3 : RH T (d1 T F j rj) := hH2.of (fun i h1 h2 => d1_o (by omega)) hM
    simp only [f_Mo_dayGoes_b2, e18, g2 hv, cl (show v < 4096 by omega), e24, hN.1.1, if_neg (le_nI (show ¬ nW T ≤ j by omega) (by omega) (by omega)), nI_1, g40 (show j < 40 by omega), cl (show j < 4096 by omega), hR j (by omega)]
    obtain ⟨z, ez, hz1, hz2⟩ := Mo_fillsOf hN hT2 (hL.fr hF.1) h8 hR (show j < 4 by omega)
    have hRz := hz2.mr hR
    rw [ez, bind_e]
    simp only [letS_e, hz1, Mo_deepOf hN (hz2.1.tv hT2) hRz (show j < 4 by omega), bind_e, f_Mo_dayGoes_b49, g40 (show j < 40 by omega), nI_1]
    unfold d1 at hH3 ⊢
    by_cases c : dp T rj j ≤ rj j + FL T F rj j
    · rw [if_pos c] at hH3 ⊢
      exact ⟨_, ⟨(hF.tr hz2.fd).s sc57 _ _, MR_s hRz (by omega) _, hH3⟩, by rw [if_pos c]⟩
    · rw [if_neg c] at hH3 ⊢
      exact ⟨_, ⟨(hF.tr hz2.fd).s sc57 _ _, MR_s hRz (by omega) _, hH3⟩, by rw [if_neg c]⟩
  · obtain ⟨hF, hR, hH2⟩ := hI
    have hT2 := hF.1.tv hT
    obtain ⟨hv, e18, ⟨e24, -⟩, -⟩ := id hT2
    simp only [f_Mo_dayGoes_b2, e18, g2 hv, cl (show v < 4096 by omega), e24, hN.1.1, if_pos (le_rf _)]
    refine (Mo_day58 hN hT2 (hL.fr hF.1) h8 hR hH2 hE).m (fun z hz => ⟨hF.tr hz.1, by rw [← hF.2]; exact hz.2⟩)
