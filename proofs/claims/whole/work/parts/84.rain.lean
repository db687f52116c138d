/-! RAIN: rows that are alike but for where lies are whispered. -/
def liE (T : TX) (r r' : RW) : Prop := (∀ i, i < 4 ∨ 12 ≤ i → r' i = r i) ∧ ∀ s, s < nS T → T 6 s = 0 → r' (4 + s) = r (4 + s)
theorem liE.rf (T : TX) (r : RW) : liE T r r := ⟨fun _ _ => rfl, fun _ _ _ => rfl⟩
theorem liE.u {T : TX} {r r' : RW} (h : liE T r r') (k : Nat) {x y : Int32} (e : y = x) : liE T (upd r k x) (upd r' k y) := by
  subst e
  refine ⟨fun i hi => ?_, fun s hs h6 => ?_⟩
  · rw [upd_at, upd_at]; split
    · rfl
    · exact h.1 i hi
  · rw [upd_at, upd_at]; split
    · rfl
    · exact h.2 s hs h6
theorem liE.l {T : TX} {r r' : RW} (h : liE T r r') {s : Nat} (h6 : ¬ T 6 s = 0) (hs : s < 8) (x : Int32) : liE T r (upd r' (4 + s) x) := by
  refine ⟨fun i hi => ?_, fun u hu h0 => ?_⟩
  · rw [upd_at, if_neg (by omega)]; exact h.1 i hi
  · rw [upd_at, if_neg (fun z => h6 (by rw [show s = u by omega]; exact h0))]; exact h.2 u hu h0
theorem kn_l {T : TX} {r r' : RW} (h : liE T r r') (s : Nat) : kn T r' s = kn T r s := orF_c _ (fun j hj => by rw [h.1 (26 + j) (by omega)])
theorem knB_l {T : TX} {r r' : RW} (h : liE T r r') (s : Nat) : knB T r' s = knB T r s := by unfold knB; rw [kn_l h, h.1 33 (by omega)]
theorem wgt_l {T : TX} {r r' : RW} (h : liE T r r') (s : Nat) : wgt T r' s = wgt T r s := by unfold wgt; rw [knB_l h, h.1 33 (by omega)]
theorem dp_l {T : TX} {r r' : RW} (h : liE T r r') (w : Nat) : dp T r' w = dp T r w := by
  unfold dp
  rw [sumF_c (nS T) (g := fun s => if r (4 + s) = nI w then wgt T r s else 0) (fun j hj => ?_)]
  by_cases q : T 6 j = 0
  · rw [h.2 j hj q, wgt_l h]
  · have e : ∀ x : RW, wgt T x j = 0 := fun x => by unfold wgt; rw [if_neg q]
    rw [e, e]; split <;> split <;> rfl
theorem hld_l {T : TX} {r r' : RW} (h : liE T r r') (w : Nat) : hld T r' w = hld T r w := orF_c _ (fun j hj => by
  by_cases q : T 6 j = 0
  · simp only [isH, knB_l h, h.2 j hj q, h.1 33 (by omega)]
  · rw [if_neg (fun z => q z.2.1), if_neg (fun z => q z.2.1)])
theorem drk_l {T : TX} {r r' : RW} (h : liE T r r') (w : Nat) : drk T r' w = drk T r w := orF_c _ (fun j hj => by rw [h.1 33 (by omega), h.1 (12 + j) (by omega)])
theorem hm_l {T : TX} {r r' : RW} (h : liE T r r') (a : Nat) : hm r' a = hm r a := by unfold hm; rw [h.1 (12 + a) (by omega)]
theorem FL_l {T : TX} {F : LF} {r r' : RW} (h : liE T r r') {w : Nat} (hw : w < 4) : FL T F r' w = FL T F r w := by unfold FL; rw [h.1 35 (by omega), dp_l h, h.1 w (by omega), hld_l h, drk_l h]
theorem DR_l {T : TX} {F : LF} {r r' : RW} (h : liE T r r') {a : Nat} (hw : hm r a < 4) : DR T F r' a = DR T F r a := by unfold DR; rw [hm_l h, h.1 35 (by omega), dp_l h, h.1 (hm r a) (by omega), h.1 (19 + a) (by omega), h.1 (26 + a) (by omega), drk_l h]
theorem TE_l {T : TX} {F : LF} {r r' : RW} (h : liE T r r') {t : Nat} (hw : hm r (fm T t) < 4) (s : Nat) : TE T F r' t s = TE T F r t s := by unfold TE; rw [hm_l h, h.1 35 (by omega), dp_l h, h.1 (hm r (fm T t)) (by omega), h.1 (19 + fm T t) (by omega), h.1 (26 + fm T t) (by omega), drk_l h]
theorem LOT_l {T : TX} {sd : Int32} {r r' : RW} (h : liE T r r') (t s : Nat) : LOT sd r' t s = LOT sd r t s := by unfold LOT; rw [h.1 35 (by omega)]
theorem cutR_l {T : TX} {r r' : RW} (h : liE T r r') {w : Nat} (hw : w < 4) : liE T (cutR T w r) (cutR T w r') := by
  rw [cutR_m, cutR_m]
  exact h.u w (by rw [h.1 w (by omega), dp_l h])
theorem d1_l {T : TX} {F : LF} {r r' : RW} (h : liE T r r') {w : Nat} (hw : w < 4) : liE T (d1 T F w r) (d1 T F w r') := by
  unfold d1
  exact h.u w (by rw [h.1 w (by omega), dp_l h, FL_l h hw])
theorem drink_l {T : TX} {F : LF} {r r' : RW} (h : liE T r r') {a : Nat} (hw : hm r a < 4) : liE T (drinkR T F a r) (drinkR T F a r') := by
  unfold drinkR
  rw [hm_l h, DR_l h hw, h.1 (hm r a) (by omega)]
  have k1 := h.u (hm r a) (x := 0) rfl
  have k2 := k1.u (19 + a) (x := upd r (hm r a) 0 (19 + a) + 1) (y := upd r' (hm r a) 0 (19 + a) + 1) (by rw [k1.1 (19 + a) (by omega)])
  by_cases q : r (hm r a) < DR T F r a
  · rw [if_pos q, if_pos q, k2.1 (19 + a) (by omega)]
    by_cases q2 : upd (upd r (hm r a) 0) (19 + a) (upd r (hm r a) 0 (19 + a) + 1) (19 + a) < T 0 4
    · rw [if_pos q2, if_pos q2]; exact k2
    · rw [if_neg q2, if_neg q2]
      exact k2.u 33 (by rw [k2.1 33 (by omega)])
  · rw [if_neg q, if_neg q]
    exact (h.u (hm r a) (x := r (hm r a) - DR T F r a) rfl).u (19 + a) rfl
theorem d2_l {T : TX} {F : LF} {r r' : RW} (h : liE T r r') {a : Nat} (hw : hm r a < 4) : liE T (d2 T F a r) (d2 T F a r') := by
  unfold d2
  rw [h.1 33 (by omega)]
  split
  · exact h
  · exact drink_l h hw
theorem tell_l {T : TX} {F : LF} {sd : Int32} {kw : Nat → Int32} {r r' : RW} (h : liE T r r') {t : Nat} (hw : hm r (fm T t) < 4) (s : Nat) : liE T (tell1 T F sd kw t s r) (tell1 T F sd kw t s r') := by
  unfold tell1
  rw [h.1 (26 + to T t) (by omega), TE_l h hw, LOT_l h]
  split
  · exact h
  · split
    · split
      · exact h
      · exact h.u _ rfl
    · exact h
theorem iter_l {T : TX} {f : Nat → RW → RW} {Q : RW → Prop} : ∀ n (r r' : RW), liE T r r' → Q r → (∀ j x y, j < n → Q x → liE T x y → Q (f j x) ∧ liE T (f j x) (f j y)) → liE T (iter f n r) (iter f n r') ∧ Q (iter f n r)
  | 0, _, _, h, q, _ => ⟨h, q⟩
  | n + 1, r, r', h, q, hf => by
    have k := iter_l n r r' h q (fun j x y hj => hf j x y (by omega))
    rw [iter_s, iter_s]
    exact ⟨(hf n _ _ (by omega) k.2 k.1).2, (hf n _ _ (by omega) k.2 k.1).1⟩
theorem d3_l {T : TX} {F : LF} {sd : Int32} {kw : Nat → Int32} {r r' : RW} (hN : TN T) (hE : TE_ok T) (hI : RI T r) (h : liE T r r') {t : Nat} (ht : t < nT T) : liE T (d3 T F sd kw t r) (d3 T F sd kw t r') := by
  have h4 := hN.1.2
  unfold d3
  have e : opn T r' t ↔ opn T r t := by unfold opn; rw [h.1 34 (by omega), h.1 33 (by omega)]
  by_cases q : opn T r t
  · rw [if_pos q, if_pos (e.mpr q)]
    exact (iter_l (Q := RI T) (nS T) r r' h hI (fun j x y hj qx hxy => ⟨qx.tell hN hE ht hj, tell_l hxy (by have := (qx.2.2.2.2 (fm T t) (hE t ht).1).1; omega) j⟩)).1
  · rw [if_neg q, if_neg (fun z => q (e.mp z))]; exact h
theorem day_l {T : TX} {F : LF} {sd : Int32} {r r' : RW} (hN : TN T) (hE : TE_ok T) (hI : RI T r) (h : liE T r r') : liE T (dayR T F sd r) (dayR T F sd r') := by
  have h4 := hN.1.2
  have k1 := iter_l (f := d1 T F) (Q := RI T) (nW T) r r' h hI (fun j x y hj qx hxy => ⟨qx.e1 hN hj, d1_l hxy (by omega)⟩)
  have k2 : liE T (dB T F r) (dB T F r') ∧ RI T (dB T F r) := iter_l (f := d2 T F) (Q := RI T) (nM T) _ _ k1.1 k1.2 (fun j x y hj qx hxy => ⟨qx.e2 hN hj, d2_l hxy (by have := (qx.2.2.2.2 j hj).1; omega)⟩)
  have ekw : (fun a => dB T F r' (26 + a)) = fun a => dB T F r (26 + a) := by funext a; exact k2.1.1 (26 + a) (by omega)
  have k3 := iter_l (f := d3 T F sd (fun a => dB T F r (26 + a))) (Q := RI T) (nT T) _ _ k2.1 k2.2 (fun j x y hj qx hxy => ⟨qx.e3 hN hE hj, d3_l hN hE qx hxy hj⟩)
  have k4 := iter_l (f := cutR T) (Q := fun _ => True) (nW T) _ _ k3.1 trivial (fun j x y hj _ hxy => ⟨trivial, cutR_l hxy (by omega)⟩)
  unfold dayR dZ dE
  rw [ekw]
  exact k4.1.u 35 (by rw [k4.1.1 35 (by omega)])
theorem days_l {T : TX} {F : LF} {sd : Int32} {r r' : RW} (hT : TG T F) (hG : GR T r) (h : liE T r r') : ∀ n, liE T (days T F sd n r) (days T F sd n r')
  | 0 => h
  | n + 1 => day_l hT.1 hT.2.2.1 (GR.days (sd := sd) hT hG n).1 (days_l hT hG h n)
theorem thr_l {T : TX} {r r' : RW} (h : liE T r r') : thr T r' = thr T r := sumF_c _ (fun j hj => by rw [h.1 33 (by omega), h.1 (19 + j) (by omega)])
