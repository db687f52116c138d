/-! THE CLASS: a state measured, settled. -/
theorem orF_c {f g : Nat → Int32} : ∀ n, (∀ j, j < n → f j = g j) → orF f n = orF g n
  | 0, _ => rfl
  | n + 1, h => by simp only [orF]; rw [orF_c n (fun j hj => h j (by omega)), h n (by omega)]
theorem sumF_c {f g : Nat → Int32} : ∀ n, (∀ j, j < n → f j = g j) → sumF f n = sumF g n
  | 0, _ => rfl
  | n + 1, h => by simp only [sumF]; rw [sumF_c n (fun j hj => h j (by omega)), h n (by omega)]
theorem popN_m {x : Int32} {m : Nat} (h : ∀ i, m ≤ i → i < 32 → bt x i = false) : ∀ n, n ≤ 32 → popN x n ≤ m
  | 0, _ => Nat.zero_le _
  | n + 1, hn => by
    rcases Nat.lt_or_ge n m with q | q
    · exact Nat.le_trans (popN_le x (n + 1)) (by omega)
    · have := popN_m h n (by omega)
      simp only [popN, h n q (by omega)]
      simpa using this
theorem knB_e {T : TX} {r : RW} (hN : TN T) (hI : RI T r) (s : Nat) : ∃ p q, knB T r s = nI p ∧ bits (r 33) = nI q ∧ p ≤ q ∧ q ≤ 7 :=
  ⟨_, _, by unfold knB; exact bits_pop _, bits_pop _, popN_and _ _ 12, Nat.le_trans (popN_m hI.1 12 (by decide)) hN.2.1.2⟩
theorem wgt_H {T : TX} {r : RW} {s : Nat} (hN : TN T) (hTH : TH T) (hI : RI T r) (hs : s < nS T) : (isH T r s ∧ ∃ n, 1 ≤ n ∧ n ≤ 990 ∧ wgt T r s = nI n) ∨ (¬ isH T r s ∧ wgt T r s = 0) := by
  obtain ⟨p, q, ep, eq, h1, h2⟩ := knB_e hN hI s
  obtain ⟨⟨h, hh1, hh2, eh⟩, hf⟩ := hTH s hs
  unfold isH wgt shr
  rw [ep, eq, eh]
  by_cases c1 : T 6 s = 0
  · rw [if_pos c1]
    by_cases c2 : p = 0
    · right
      subst c2
      exact ⟨fun z => z.2.1 (by decide), by rw [if_pos (show nI 0 = 0 from rfl)]⟩
    · have e1 : ¬ nI p = 0 := nI_ne0 (by omega) (by omega)
      rw [if_neg e1]
      have d : nI h * 10 / nI p = nI (h * 10 / p) := by rw [show (10 : Int32) = nI 10 from rfl, pk_mul, pk_div (by omega) (by omega) (by omega)]
      by_cases c3 : p = q ∧ 1 < q
      · right
        have c4 : nI p = nI q ∧ ¬ nI q ≤ 1 := ⟨by rw [c3.1], by rw [n1, nI_leI (by omega) (by decide)]; omega⟩
        refine ⟨fun z => ?_, by rw [if_pos c4]⟩
        rcases z.2.2 with z | z
        · rw [nI_ltI (by omega) (by omega)] at z; omega
        · rw [n1, nI_eq (by omega) (by decide)] at z; omega
      · left
        have c4 : ¬ (nI p = nI q ∧ ¬ nI q ≤ 1) := by rw [nI_eq (by omega) (by omega), n1, nI_leI (by omega) (by decide)]; omega
        rw [if_neg c4, d]
        refine ⟨⟨c1, nI_nle (by omega) (by omega), ?_⟩, h * 10 / p, ?_, ?_, rfl⟩
        · by_cases c5 : p < q
          · exact Or.inl (nI_lt c5 (by omega))
          · exact Or.inr (by have : q = 1 := by omega
                             rw [this]; rfl)
        · exact (Nat.le_div_iff_mul_le (by omega)).mpr (by omega)
        · exact Nat.le_trans (Nat.div_le_self _ _) (by omega)
  · right
    exact ⟨fun z => c1 z.1, if_neg c1⟩
/-- it writes only what is measured of the state st -/
def Mf (st : Nat) (S S' : Mem) : Prop := S'.1 = S.1 ∧ (∀ o f, ¬ (o = st ∧ 9 ≤ f ∧ f ≤ 12) → S'.2.1 o f = S.2.1 o f) ∧ S'.2.2 = S.2.2
theorem Mf.rf (st : Nat) (S : Mem) : Mf st S S := ⟨rfl, fun _ _ _ => rfl, rfl⟩
theorem Mf.s {st : Nat} {S S' : Mem} (h : Mf st S S') {f : Nat} (h1 : 9 ≤ f) (h2 : f ≤ 12) (i x : Int32) : Mf st S (sA S' st f i x) := ⟨h.1, fun o f' hn => by rw [sA_2, if_neg (fun z => hn ⟨z.1, by have := z.2; omega, by have := z.2; omega⟩)]; exact h.2.1 o f' hn, h.2.2⟩
theorem CB.mf {T : TX} {r : RW} {st : Nat} {S S' : Mem} (hB : CB T r st S) (h : Mf st S S') : CB T r st S' := by
  unfold CB
  rw [h.1, h.2.1 st 4 (by omega), h.2.1 st 5 (by omega), h.2.1 st 6 (by omega), h.2.1 st 7 (by omega), h.2.1 st 8 (by omega)]
  exact hB
theorem CT.mf {T : TX} {tx st : Nat} {S S' : Mem} (hC : CT T tx S) (h : Mf st S S') (hne : tx ≠ st) : CT T tx S' := by
  unfold CT
  rw [h.1, h.2.1 tx 8 (by omega), h.2.1 tx 9 (by omega), h.2.1 tx 10 (by omega), h.2.1 tx 11 (by omega), h.2.1 tx 12 (by omega), h.2.1 tx 13 (by omega), h.2.1 tx 14 (by omega), h.2.1 tx 15 (by omega), h.2.1 tx 16 (by omega)]
  exact hC
theorem g4 {α : Type} {v : Nat} {k : Option α} (h : v < 4) : gIn (nI v) 4 k = k := gIn_n h (by decide)
theorem g12 {α : Type} {v : Nat} {k : Option α} (h : v < 12) : gIn (nI v) 12 k = k := gIn_n h (by decide)
theorem St_measure93 {T : TX} {r : RW} {st tx : Nat} {S : Mem} (hN : TN T) (hTH : TH T) (hI : RI T r) (hne : tx ≠ st) (hC : CT T tx S) (hB : CB T r st S) (h0 : ∀ w, w < nW T → S.2.1 st 9 w = T 1 w ∧ S.2.1 st 10 w = 0 ∧ S.2.1 st 11 w = drk T r w) : Ok (fun S' => Mf st S S' ∧ CM T r st S') (f_St_measure_l93 st tx 5000 (bits (r 33)) 0 S) := by
  have hS := hN.2.2.1.2
  have hW := hN.1.2
  refine li_3 (f_St_measure_b93 st tx) (f_St_measure_l93 st tx) (fun _ => rfl) (fun _ => bits (r 33)) nI (fun j S' => Mf st S S' ∧ (∀ w, w < nW T → S'.2.1 st 9 w = T 1 w + sumF (fun s => if r (4 + s) = nI w then wgt T r s else 0) j ∧ S'.2.1 st 10 w = orF (fun s => if r (4 + s) = nI w ∧ isH T r s then bitM s else 0) j ∧ S'.2.1 st 11 w = drk T r w) ∧ ∀ s, s < j → S'.2.1 st 12 s = wgt T r s) (nS T) _ (fun k j y hj hy => ?_) (fun k y hy => ?_) 5000 (by omega) S ⟨Mf.rf st S, fun w hw => ⟨by simp [sumF, (h0 w hw).1], (h0 w hw).2.1, (h0 w hw).2.2⟩, fun s hs => by omega⟩
  · obtain ⟨hF, hw, h12⟩ := hy
    have hC2 := hC.mf hF hne
    have hB2 := hB.mf hF
    obtain ⟨p, q, ep, eq, hp, hq⟩ := knB_e hN hI j
    have step : f_St_measure_b93 st tx k (bits (r 33)) (nI j) y = f_St_measure_b146 st tx k (bits (r 33)) (nI j) (wgt T r j) (nI j) y := by
      have eb : f_JInt_bitCount (kn T r j &&& r 33) = some (knB T r j) := bc12 (and_12 hN hI _)
      have es : f_St_share (T 5 j) (knB T r j) (bits (r 33)) = some (shr (T 5 j) (knB T r j) (bits (r 33))) := by rw [ep, eq]; exact St_share hp (by omega)
      simp only [f_St_measure_b93, hC2.1.2.2.1, hN.2.2.1.1, if_neg (le_nI (show ¬ nS T ≤ j by omega) (by omega) (by omega)), St_knowers hN hC2 hB2, bind_e, hB2.1.2.1, eb, Tx_isLie hC2 hj, g8 (show j < 8 by omega), cl (show j < 4096 by omega), (hC2.2.2.2.2.2.1 j hj).1, es, wgt]
      split <;> rfl
    rw [step]
    obtain ⟨y1, hy1⟩ : ∃ y1, sA y st 12 (nI j) (wgt T r j) = y1 := ⟨_, rfl⟩
    have F1 : Mf st S y1 := hy1 ▸ hF.s (by decide) (by decide) _ _
    have B1 := hB.mf F1
    have e12 : ∀ s, s < j + 1 → y1.2.1 st 12 s = wgt T r s := by
      intro s hs
      rw [← hy1, sA_2, if_pos ⟨rfl, rfl⟩, cl (by omega), upd_at]
      by_cases c : s = j
      · rw [if_pos c, c]
      · rw [if_neg c]; exact h12 s (by omega)
    have ew : ∀ w, w < nW T → y1.2.1 st 9 w = T 1 w + sumF (fun s => if r (4 + s) = nI w then wgt T r s else 0) j ∧ y1.2.1 st 10 w = orF (fun s => if r (4 + s) = nI w ∧ isH T r s then bitM s else 0) j ∧ y1.2.1 st 11 w = drk T r w := by
      intro w hh
      rw [← hy1]
      simpa [sA_2] using hw w hh
    have e8 : y1.2.1 st 8 j = r (4 + j) := B1.2.2.2 j hj
    simp only [f_St_measure_b146, g8 (show j < 8 by omega), cl (show j < 4096 by omega), letS_e, hy1, e8, e12 j (by omega), nI_1]
    -- a secret that is nowhere, or does not hold, changes nothing
    have stay : (∀ w, w < nW T → r (4 + j) = nI w → wgt T r j = 0 ∧ ¬ isH T r j) → ∀ w, w < nW T → y1.2.1 st 9 w = T 1 w + sumF (fun s => if r (4 + s) = nI w then wgt T r s else 0) (j + 1) ∧ y1.2.1 st 10 w = orF (fun s => if r (4 + s) = nI w ∧ isH T r s then bitM s else 0) (j + 1) ∧ y1.2.1 st 11 w = drk T r w := by
      intro hz w hh
      rw [sumF_0, orF_0]
      · exact ew w hh
      · by_cases c : r (4 + j) = nI w
        · rw [if_neg (fun z => (hz w hh c).2 z.2)]
        · rw [if_neg (fun z => c z.1)]
      · by_cases c : r (4 + j) = nI w
        · rw [if_pos c, (hz w hh c).1]
        · rw [if_neg c]
    rcases hI.2.2.2.1 j hj with c | ⟨w0, hw0, c⟩
    · have hne2 : ∀ w, w < nW T → ¬ r (4 + j) = nI w := fun w hh z => by
        have : (-2 : Int32) < 0 := by decide
        rw [← c, z] at this
        exact nI_pos (by omega) this
      rw [c, if_pos (by decide)]
      exact ⟨y1, ⟨F1, stay (fun w hh z => absurd z (hne2 w hh)), e12⟩, rfl⟩
    · rw [c, if_neg (nI_pos (by omega))]
      rcases wgt_H hN hTH hI hj with ⟨hH, n, hn1, hn2, en⟩ | ⟨hH, en⟩
      · rw [if_neg (by rw [en]; exact nI_nle (by omega) (by omega))]
        simp only [g4 (show w0 < 4 by omega), cl (show w0 < 4096 by omega)]
        refine ⟨_, ⟨(F1.s (by decide) (by decide) _ _).s (by decide) (by decide) _ _, ?_, fun s hs => by simpa [sA_2] using e12 s hs⟩, rfl⟩
        intro w hh
        obtain ⟨ew1, ew2, ew3⟩ := ew w hh
        by_cases cw : w = w0
        · subst cw
          simp [sA_2, upd_at, cl (show w < 4096 by omega), ew1, ew2, ew3, sumF, orF, c, Int32.add_assoc]
          rw [if_pos hH]
          rfl
        · have cn : ¬ nI w0 = nI w := by rw [nI_eq (by omega) (by omega)]; omega
          simp [sA_2, upd_at, cl (show w0 < 4096 by omega), ew1, ew2, ew3, sumF, orF, c, cn, cw]
      · rw [if_pos (by rw [en]; decide)]
        exact ⟨y1, ⟨F1, stay (fun w hh z => ⟨en, hH⟩), e12⟩, rfl⟩
  · obtain ⟨hF, hw, h12⟩ := hy
    have hC2 := hC.mf hF hne
    simp only [f_St_measure_b93, hC2.1.2.2.1, hN.2.2.1.1, if_pos (le_rf _)]
    exact Ok.i ⟨hF, hw, h12⟩
theorem St_measure {T : TX} {r : RW} {st tx : Nat} {S : Mem} (hN : TN T) (hTH : TH T) (hI : RI T r) (hne : tx ≠ st) (hC : CT T tx S) (hB : CB T r st S) : Ok (fun S' => Mf st S S' ∧ CM T r st S') (f_St_measure st tx S) := by
  have hM := hN.2.1.2
  have hW := hN.1.2
  simp only [f_St_measure, f_St_measure_b0, hB.1.2.1, bc12 (alive_12 hN hI), bind_e]
  refine li_3 (f_St_measure_b10 st tx) (f_St_measure_l10 st tx) (fun _ => rfl) (fun _ => bits (r 33)) nI (fun j S' => Mf st S S' ∧ ∀ w, w < j → S'.2.1 st 9 w = T 1 w ∧ S'.2.1 st 10 w = 0 ∧ S'.2.1 st 11 w = 0) (nW T) _ (fun k j y hj hy => ?_) (fun k y hy => ?_) 5000 (by omega) S ⟨Mf.rf st S, fun w hw => by omega⟩
  · obtain ⟨hF, hw⟩ := hy
    have hC2 := hC.mf hF hne
    simp only [f_St_measure_b10, hC2.1.1, hN.1.1, if_neg (le_nI (show ¬ nW T ≤ j by omega) (by omega) (by omega)), g4 (show j < 4 by omega), cl (show j < 4096 by omega), (hC2.2.2.2.1 j hj).1, letS_e, nI_1]
    refine ⟨_, ⟨((hF.s (by decide) (by decide) _ _).s (by decide) (by decide) _ _).s (by decide) (by decide) _ _, fun w hh => ?_⟩, rfl⟩
    by_cases c : w = j
    · subst c
      simp [sA_2, upd_at, cl (show w < 4096 by omega)]
    · simpa [sA_2, upd_at, cl (show j < 4096 by omega), c] using hw w (by omega)
  · obtain ⟨hF, hw⟩ := hy
    have hC2 := hC.mf hF hne
    simp only [f_St_measure_b10, hC2.1.1, hN.1.1, if_pos (le_rf _)]
    refine li_3 (f_St_measure_b52 st tx) (f_St_measure_l52 st tx) (fun _ => rfl) (fun _ => bits (r 33)) nI (fun j S' => Mf st S S' ∧ ∀ w, w < nW T → S'.2.1 st 9 w = T 1 w ∧ S'.2.1 st 10 w = 0 ∧ S'.2.1 st 11 w = orF (fun a => if bitOf (r 33) a = 1 ∧ r (12 + a) = nI w then bitM a else 0) j) (nM T) _ (fun k j y hj hy => ?_) (fun k y hy => ?_) 5000 (by omega) y ⟨hF, hw⟩
    · obtain ⟨hF, hw⟩ := hy
      have hC2 := hC.mf hF hne
      have hB2 := hB.mf hF
      obtain ⟨hh, eh⟩ := hI.2.2.2.2 j hj
      have e5 : y.2.1 st 5 j = nI (hm r j) := ((hB2.2.2.1 j hj).1).trans eh
      simp only [f_St_measure_b52, hC2.1.2.1, hN.2.1.1, if_neg (le_nI (show ¬ nM T ≤ j by omega) (by omega) (by omega)), St_isAlive hB2, bind_e, g7 (show j < 7 by omega), cl (show j < 4096 by omega), e5, g4 (show hm r j < 4 by omega), cl (show hm r j < 4096 by omega), letS_e, nI_1]
      rcases bit01 (r 33) j with c | c
      · rw [if_pos c]
        refine ⟨y, ⟨hF, fun w hh => ?_⟩, rfl⟩
        rw [orF_0 (if_neg (fun z => absurd (c.symm.trans z.1) (by decide)))]
        exact hw w hh
      · rw [if_neg (by rw [c]; decide)]
        refine ⟨_, ⟨hF.s (by decide) (by decide) _ _, fun w h2 => ?_⟩, rfl⟩
        obtain ⟨ew1, ew2, ew3⟩ := hw w h2
        by_cases cw : w = hm r j
        · subst cw
          simp [sA_2, upd_at, cl (show hm r j < 4096 by omega), ew1, ew2, ew3, orF, c, eh]
          rfl
        · have cn : ¬ r (12 + j) = nI w := by rw [eh, nI_eq (by omega) (by omega)]; omega
          simp [sA_2, upd_at, cl (show hm r j < 4096 by omega), ew1, ew2, ew3, orF, c, cn, cw]
    · obtain ⟨hF, hw⟩ := hy
      have hC2 := hC.mf hF hne
      simp only [f_St_measure_b52, hC2.1.2.1, hN.2.1.1, if_pos (le_rf _)]
      refine (St_measure93 hN hTH hI hne hC2 (hB.mf hF) hw).m (fun z hz => ⟨⟨hz.1.1.trans hF.1, fun o f hn => (hz.1.2.1 o f hn).trans (hF.2.1 o f hn), hz.1.2.2.trans hF.2.2⟩, hz.2⟩)
