/-! THE REFERENCE: a day -/
def mix (h v : Int32) : Int32 := ((h ^^^ v) * 1103515245 + 12345) ^^^ jUshr ((h ^^^ v) * 1103515245 + 12345) 15
def LOT (sd : Int32) (r : RW) (t s : Nat) : Int32 := jUshr (mix (mix sd 49) (128 * r 35 + 8 * nI t + nI s)) 1 - jUshr (mix (mix sd 49) (128 * r 35 + 8 * nI t + nI s)) 1 / 100 * 100
theorem Mo_mixed (h v : Int32) : f_Mo_mixed h v = some (mix h v) := by
  simp only [f_Mo_mixed, f_Mo_mixed_b0, letS_e]; rfl
theorem Mo_lotOf {S : Mem} {r : RW} (hr : MR r S) (t s : Nat) : f_Mo_lotOf (nI t) (nI s) S = some (LOT (S.1 0 58) r t s) := by
  simp only [f_Mo_lotOf, f_Mo_lotOf_b0, Mo_mixed, bind_e, g35, ic_35, hr 35 (by decide), gNz, if_neg (show ¬ (100 : Int32) = 0 by decide)]
  rfl
def drinkR (T : TX) (F : LF) (a : Nat) (r : RW) : RW :=
  if r (hm r a) < DR T F r a then
    (if upd (upd r (hm r a) 0) (19 + a) (upd r (hm r a) 0 (19 + a) + 1) (19 + a) < T 0 4 then upd (upd r (hm r a) 0) (19 + a) (upd r (hm r a) 0 (19 + a) + 1)
     else upd (upd (upd r (hm r a) 0) (19 + a) (upd r (hm r a) 0 (19 + a) + 1)) 33 (upd (upd r (hm r a) 0) (19 + a) (upd r (hm r a) 0 (19 + a) + 1) 33 &&& (bitM a ^^^ (-1))))
  else upd (upd r (hm r a) (r (hm r a) - DR T F r a)) (19 + a) 0
theorem drinkR_o {T : TX} {F : LF} {a : Nat} {r : RW} {i : Nat} (h1 : i ≠ hm r a) (h2 : i ≠ 19 + a) (h3 : i ≠ 33) : drinkR T F a r i = r i := by
  unfold drinkR
  split
  · split
    · rw [upd_at, if_neg h2, upd_at, if_neg h1]
    · rw [upd_at, if_neg h3, upd_at, if_neg h2, upd_at, if_neg h1]
  · rw [upd_at, if_neg h2, upd_at, if_neg h1]
def FD (S S' : Mem) : Prop := Fr S S' ∧ S'.1 0 58 = S.1 0 58
theorem FD.rf (S : Mem) : FD S S := ⟨Fr.rf S, rfl⟩
theorem FD.tr {A B C : Mem} (h1 : FD A B) (h2 : FD B C) : FD A C := ⟨h1.1.tr h2.1, h2.2.trans h1.2⟩
theorem Fs.fd {A B : Mem} (h : Fs A B) : FD A B := ⟨h.1, h.2.2.2⟩
theorem FD.s {A B : Mem} (h : FD A B) {f : Nat} (hf : scA f) (i x : Int32) : FD A (sA B 0 f i x) := ⟨h.1.tr (Fr.s hf), h.2⟩
theorem sc57 : scA 57 := by unfold scA; decide
theorem sc59 : scA 59 := by unfold scA; decide
theorem n33c {α : Type} (S : Mem) (x : Int32) : sA S 0 57 33 x = sA S 0 57 (nI 33) x := rfl
theorem n35c (S : Mem) (x : Int32) : sA S 0 57 35 x = sA S 0 57 (nI 35) x := rfl
theorem RH.of {T : TX} {r r' : RW} (h : RH T r) (e : ∀ i, 12 ≤ i → i < 19 → r' i = r i) (hM : nM T ≤ 7) : RH T r' := by
  intro a ha
  have := h a ha
  unfold hm at this ⊢
  rw [e (12 + a) (by omega) (by omega)]
  exact this
theorem Mo_drinks {v : Nat} {T : TX} {F : LF} {S : Mem} {r : RW} (hN : TN T) (hT : TV v T S) (hL : ML F S) (h8 : L8 F) (hr : MR r S) (hH : RH T r) {a : Nat} (ha : a < nM T) : Ok (fun S' => FD S S' ∧ MR (drinkR T F a r) S') (f_Mo_drinks (nI a) S) := by
  have hM : nM T ≤ 7 := hN.2.1.2
  have hW : nW T ≤ 4 := hN.1.2
  obtain ⟨hh, eh⟩ := hH a ha
  unfold f_Mo_drinks f_Mo_drinks_b0
  simp only [a12, a19, g40 (show 12 + a < 40 by omega), cl (show 12 + a < 4096 by omega), hr (12 + a) (by omega), letS_e]
  rw [eh]
  refine (Mo_drinksOf hN hT hL h8 hr hH ha).b (fun z hz => ?_)
  obtain ⟨ez, hz⟩ := hz
  have hz2 := hz.mr hr
  have fz := hz.fd
  generalize hwe : hm r a = w at hh
  have r1 : MR (upd r w 0) (sA z.2 0 57 (nI w) 0) := MR_s hz2 (by omega) 0
  have r2 := MR_s r1 (show 19 + a < 40 by omega) (upd r w 0 (19 + a) + 1)
  have f1 := fz.s sc57 (nI w) 0
  have f2 := f1.s sc57 (nI (19 + a)) (upd r w 0 (19 + a) + 1)
  obtain ⟨hv, e18, -, ⟨e37, -⟩, -⟩ := f2.1.tv hT
  have q1 : MR (upd r w (r w - DR T F r a)) (sA z.2 0 57 (nI w) (r w - DR T F r a)) := MR_s hz2 (by omega) _
  simp only [g40 (show w < 40 by omega), cl (show w < 4096 by omega), hz2 w (by omega), ez, g40 (show 19 + a < 40 by omega), cl (show 19 + a < 4096 by omega), r1 (19 + a) (by omega), r2 (19 + a) (by omega), e18, g2 hv, cl (show v < 4096 by omega), e37, g33, ic_33, r2 33 (by decide)]
  unfold drinkR
  rw [hwe]
  by_cases c1 : r w < DR T F r a
  · rw [if_pos c1, if_pos c1]
    by_cases c2 : upd (upd r w 0) (19 + a) (upd r w 0 (19 + a) + 1) (19 + a) < T 0 4
    · rw [if_pos c2, if_pos c2]
      exact Ok.i ⟨f2, r2⟩
    · rw [if_neg c2, if_neg c2]
      exact Ok.i ⟨f2.s sc57 _ _, MR_s r2 (by decide) _⟩
  · rw [if_neg c1, if_neg c1]
    exact Ok.i ⟨(fz.s sc57 _ _).s sc57 _ _, MR_s q1 (by omega) _⟩
abbrev opn (T : TX) (r : RW) (t : Nat) : Prop := bitOf (r 34) t = 0 ∧ bitOf (r 33) (fm T t) = 1 ∧ bitOf (r 33) (to T t) = 1
theorem Mo_isOpen {v : Nat} {T : TX} {S : Mem} {r : RW} (hN : TN T) (hT : TV v T S) (hr : MR r S) (hE : TE_ok T) {t : Nat} (ht : t < nT T) : (opn T r t ∧ f_Mo_isOpen (nI t) S = some 1) ∨ (¬ opn T r t ∧ f_Mo_isOpen (nI t) S = some 0) := by
  have hT12 : nT T ≤ 12 := hN.2.2.2.2
  obtain ⟨hfm, ef, hto, et⟩ := hE t ht
  obtain ⟨hv, e18, -, -, -, -, -, h12⟩ := hT
  have e35 : S.2.1 0 35 (12 * v + t) = nI (fm T t) := ((h12 t (by omega)).1).trans ef
  have e36 : S.2.1 0 36 (12 * v + t) = nI (to T t) := ((h12 t (by omega)).2).trans et
  have e34 : S.2.1 0 57 34 = r 34 := hr 34 (by decide)
  simp only [f_Mo_isOpen, f_Mo_isOpen_b0, g34, ic_34, e34, e18, m12, g24 (show 12 * v + t < 24 by omega), cl (show 12 * v + t < 4096 by omega), e35, e36, Mo_isAlive hr, bind_e]
  by_cases c1 : (r 34 >>> (nI t &&& 31)) &&& 1 = 0
  · rw [if_pos c1]
    have c1 : bitOf (r 34) t = 0 := c1
    rcases bit01 (r 33) (fm T t) with c2 | c2
    · rw [if_pos c2]
      exact Or.inr ⟨fun z => absurd (c2.symm.trans z.2.1) (by decide), rfl⟩
    · rw [if_neg (by rw [c2]; decide)]
      rcases bit01 (r 33) (to T t) with c3 | c3
      · rw [if_pos c3]
        exact Or.inr ⟨fun z => absurd (c3.symm.trans z.2.2) (by decide), rfl⟩
      · rw [if_neg (by rw [c3]; decide)]
        exact Or.inl ⟨⟨c1, c2, c3⟩, rfl⟩
  · rw [if_neg c1]
    exact Or.inr ⟨fun z => c1 z.1, rfl⟩
def tell1 (T : TX) (F : LF) (sd : Int32) (kw : Nat → Int32) (t s : Nat) (r : RW) : RW :=
  if bitOf (kw (fm T t)) s = 0 then r else if bitOf (r (26 + to T t)) s = 0 then (if TE T F r t s ≤ LOT sd r t s then r else upd r (26 + to T t) (r (26 + to T t) ||| bitM s)) else r
theorem tell1_a {T : TX} {F : LF} {sd : Int32} {kw : Nat → Int32} {t s : Nat} {r : RW} (h : bitOf (kw (fm T t)) s = 0) : tell1 T F sd kw t s r = r := if_pos h
theorem tell1_b {T : TX} {F : LF} {sd : Int32} {kw : Nat → Int32} {t s : Nat} {r : RW} (h : bitOf (r (26 + to T t)) s = 0) (h2 : TE T F r t s ≤ LOT sd r t s) : tell1 T F sd kw t s r = r := by unfold tell1; rw [if_pos h, if_pos h2]; split <;> rfl
theorem tell1_c {T : TX} {F : LF} {sd : Int32} {kw : Nat → Int32} {t s : Nat} {r : RW} (h0 : ¬ bitOf (kw (fm T t)) s = 0) (h : bitOf (r (26 + to T t)) s = 0) (h2 : ¬ TE T F r t s ≤ LOT sd r t s) : tell1 T F sd kw t s r = upd r (26 + to T t) (r (26 + to T t) ||| bitM s) := by unfold tell1; rw [if_neg h0, if_pos h, if_neg h2]
theorem tell1_d {T : TX} {F : LF} {sd : Int32} {kw : Nat → Int32} {t s : Nat} {r : RW} (h : ¬ bitOf (r (26 + to T t)) s = 0) : tell1 T F sd kw t s r = r := by unfold tell1; rw [if_neg h]; split <;> rfl
theorem tell1_o {T : TX} {F : LF} {sd : Int32} {kw : Nat → Int32} {t s : Nat} {r : RW} {i : Nat} (h : i ≠ 26 + to T t) : tell1 T F sd kw t s r i = r i := by
  unfold tell1
  split
  · rfl
  · split
    · split
      · rfl
      · rw [upd_at, if_neg h]
    · rfl
theorem iter_o {f : Nat → RW → RW} {i : Nat} (h : ∀ n r, f n r i = r i) : ∀ (n : Nat) (r : RW), iter f n r i = r i
  | 0, _ => rfl
  | n + 1, r => (h n _).trans (iter_o h n r)
set_option maxHeartbeats 400000 in
theorem Mo_tellsAll {v : Nat} {T : TX} {F : LF} {S : Mem} {r : RW} {kw : Nat → Int32} (hN : TN T) (hT : TV v T S) (hL : ML F S) (h8 : L8 F) (hr : MR r S) (hH : RH T r) (hE : TE_ok T) (hk : ∀ a, a < nM T → S.2.1 0 59 a = kw a) {t : Nat} (ht : t < nT T) : Ok (fun S' => FD S S' ∧ S'.2.1 0 59 = S.2.1 0 59 ∧ MR (iter (tell1 T F (S.1 0 58) kw t) (nS T) r) S') (f_Mo_tellsAll (nI t) S) := by
  have hT12 : nT T ≤ 12 := hN.2.2.2.2
  have hM : nM T ≤ 7 := hN.2.1.2
  have hS8 : nS T ≤ 8 := hN.2.2.1.2
  obtain ⟨hfm, ef, hto, et⟩ := hE t ht
  have hT0 := hT
  obtain ⟨hv, e18, -, -, -, -, -, h12⟩ := hT
  have e35 : S.2.1 0 35 (12 * v + t) = nI (fm T t) := ((h12 t (by omega)).1).trans ef
  have e36 : S.2.1 0 36 (12 * v + t) = nI (to T t) := ((h12 t (by omega)).2).trans et
  simp only [f_Mo_tellsAll, f_Mo_tellsAll_b0, e18, m12, g24 (show 12 * v + t < 24 by omega), cl (show 12 * v + t < 4096 by omega), e35, e36, letS_e]
  refine li_5 f_Mo_tellsAll_b33 f_Mo_tellsAll_l33 (fun _ => rfl) (fun _ => nI t) (fun _ => nI (fm T t)) (fun _ => nI (to T t)) nI (fun j S' => FD S S' ∧ S'.2.1 0 59 = S.2.1 0 59 ∧ MR (iter (tell1 T F (S.1 0 58) kw t) j r) S') (nS T) _ (fun k j y hj hI => ?_) (fun k y hI => ?_) 5000 (by omega) S ⟨FD.rf _, rfl, hr⟩
  · obtain ⟨hF, e59, hR⟩ := hI
    have hT2 := hF.1.tv hT0
    obtain ⟨hv, e18, ⟨-, -, e30, -⟩, -⟩ := id hT2
    have hH2 : RH T (iter (tell1 T F (S.1 0 58) kw t) j r) := hH.of (fun i h1 h2 => iter_o (fun n r => tell1_o (by omega)) j r) hM
    simp only [f_Mo_tellsAll_b33, e18, g2 hv, cl (show v < 4096 by omega), e30, hN.2.2.1.1, if_neg (le_nI (show ¬ nS T ≤ j by omega) (by omega) (by omega)), g7 (show fm T t < 7 by omega), cl (show fm T t < 4096 by omega), e59, hk _ hfm, Mo_knows hR (show to T t < 7 by omega), Mo_lotOf hR, bind_e, nI_1, a26, letS_e, g40 (show 26 + to T t < 40 by omega), cl (show 26 + to T t < 4096 by omega)]
    rw [show (kw (fm T t) >>> (nI j &&& 31)) &&& 1 = bitOf (kw (fm T t)) j from rfl]
    generalize hrj : iter (tell1 T F (S.1 0 58) kw t) j r = rj at hR hH2
    have hs : iter (tell1 T F (S.1 0 58) kw t) (j + 1) r = tell1 T F (S.1 0 58) kw t j rj := by rw [iter_s, hrj]
    rw [hs]
    by_cases c1 : bitOf (kw (fm T t)) j = 0
    · exact ⟨y, ⟨hF, e59, by rw [tell1_a c1]; exact hR⟩, by rw [if_pos c1]⟩
    · rw [if_neg c1]
      by_cases c2 : bitOf (rj (26 + to T t)) j = 0
      · rw [if_pos c2]
        obtain ⟨z, ez, hz1, hz2⟩ := Mo_tellsOf hN hT2 (hL.fr hF.1) h8 hR hH2 hE ht (show j < 8 by omega)
        rw [ez]
        simp only [bind_e, hz1, hz2.mr hR (26 + to T t) (by omega), hF.2]
        by_cases c3 : TE T F rj t j ≤ LOT (S.1 0 58) rj t j
        · exact ⟨z.2, ⟨hF.tr hz2.fd, hz2.2.2.1.trans e59, by rw [tell1_b c2 c3]; exact hz2.mr hR⟩, by rw [if_pos c3]⟩
        · exact ⟨_, ⟨(hF.tr hz2.fd).s sc57 _ _, (show (sA z.2 0 57 _ _).2.1 0 59 = _ from hz2.2.2.1).trans e59, by rw [tell1_c c1 c2 c3]; exact MR_s (hz2.mr hR) (by omega) _⟩, by rw [if_neg c3]; rfl⟩
      · exact ⟨y, ⟨hF, e59, by rw [tell1_d c2]; exact hR⟩, by rw [if_neg c2]⟩
  · obtain ⟨hF, e59, hR⟩ := hI
    obtain ⟨hv, e18, ⟨-, -, e30, -⟩, -⟩ := hF.1.tv hT0
    simp only [f_Mo_tellsAll_b33, e18, g2 hv, cl (show v < 4096 by omega), e30, hN.2.2.1.1, if_pos (le_rf _)]
    exact Ok.i ⟨hF, e59, hR⟩
