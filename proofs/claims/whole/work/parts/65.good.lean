/-! GOOD ROWS: what every row that stands keeps, and what days and cuts leave of it. -/
def WI (T : TX) (r : RW) : Prop := ∀ w, w < nW T → ∃ n, n ≤ 8919 ∧ r w = nI n
def WDp (T : TX) (r : RW) : Prop := ∀ w, w < nW T → r w ≤ dp T r w
def TI (T : TX) (r : RW) : Prop := ∀ a, a < nM T → ∃ n, n ≤ 99 ∧ r (19 + a) = nI n ∧ (bt (r 33) a = true → nI n < T 0 4)
def GR (T : TX) (r : RW) : Prop := RI T r ∧ WI T r ∧ WDp T r ∧ TI T r
theorem sum_b {f : Nat → Int32} {m : Nat} (hm : m ≤ 990) : ∀ n, n ≤ 8 → (∀ j, j < n → ∃ v, v ≤ m ∧ f j = nI v) → ∃ v, v ≤ m * n ∧ sumF f n = nI v
  | 0, _, _ => ⟨0, by omega, rfl⟩
  | n + 1, hn, h => by
    obtain ⟨v, hv, e⟩ := sum_b hm n (by omega) (fun j hj => h j (by omega))
    obtain ⟨x, hx, ex⟩ := h n (by omega)
    exact ⟨v + x, by rw [Nat.mul_succ]; omega, by simp only [sumF]; rw [e, ex, nI_add]⟩
theorem wgt_b {T : TX} {r : RW} {s : Nat} (hN : TN T) (hTH : TH T) (hI : RI T r) (hs : s < nS T) : ∃ v, v ≤ 990 ∧ wgt T r s = nI v := by
  rcases wgt_H hN hTH hI hs with ⟨-, n, -, h2, e⟩ | ⟨-, e⟩
  · exact ⟨n, h2, e⟩
  · exact ⟨0, by omega, e⟩
theorem dp_b {T : TX} {F : LF} {r : RW} (hT : TG T F) (hI : RI T r) {w : Nat} (hw : w < nW T) : ∃ n, n ≤ 8919 ∧ dp T r w = nI n := by
  have h8 := hT.1.2.2.1.2
  obtain ⟨a, ha, ea⟩ := (hT.2.2.2.1.2.1 w hw).1
  obtain ⟨v, hv, ev⟩ := sum_b (f := fun s => if r (4 + s) = nI w then wgt T r s else 0) (m := 990) (by omega) (nS T) h8 (fun j hj => by
    by_cases c : r (4 + j) = nI w
    · simp only [if_pos c]; exact wgt_b hT.1 hT.2.1 hI hj
    · simp only [if_neg c]; exact ⟨0, by omega, rfl⟩)
  refine ⟨a + v, ?_, ?_⟩
  · have : 990 * nS T ≤ 990 * 8 := Nat.mul_le_mul_left _ h8
    omega
  · unfold dp; rw [ea, ev, nI_add]
theorem hel_b (x : Int32) {m : Nat} (hm : m < 2 ^ 31) : ∃ v, v ≤ m ∧ hel x (nI m) = nI v := by
  unfold hel
  by_cases c : 0 ≤ x
  · rw [if_pos c]
    obtain ⟨j, hj, rfl⟩ := nI_of (Int32.not_lt.mpr c)
    by_cases c2 : nI j ≤ nI m
    · rw [if_pos c2]; exact ⟨j, (nI_leI hj hm).mp c2, rfl⟩
    · rw [if_neg c2]; exact ⟨m, Nat.le_refl m, rfl⟩
  · rw [if_neg c]; exact ⟨0, Nat.zero_le _, rfl⟩
theorem aL_b (F : LF) (k : Nat) (f : Nat → Int32) (plain : Int32) {m : Nat} (hm : m < 2 ^ 31) : ∃ v, v ≤ m ∧ aL F k f plain (nI m) = nI v := by
  unfold aL
  cases F k with
  | none => exact hel_b _ hm
  | some g => exact hel_b _ hm
theorem FL_b (T : TX) (F : LF) (r : RW) (w : Nat) : ∃ v, v ≤ 999 ∧ FL T F r w = nI v := aL_b F 0 _ 10 (m := 999) (by decide)
theorem DR_b (T : TX) (F : LF) (r : RW) (a : Nat) : ∃ v, v ≤ 99 ∧ DR T F r a = nI v := aL_b F 2 _ _ (m := 99) (by decide)
theorem WI.u {T : TX} {r : RW} (h : WI T r) {w n : Nat} (hn : n ≤ 8919) {x : Int32} (e : x = nI n) : WI T (upd r w x) := fun v hv => by
  rw [upd_at]
  by_cases c : v = w
  · rw [if_pos c]; exact ⟨n, hn, e⟩
  · rw [if_neg c]; exact h v hv
theorem WI.o {T : TX} {r r' : RW} (h : WI T r) (e : ∀ i, i < nW T → r' i = r i) : WI T r' := fun w hw => by rw [e w hw]; exact h w hw
theorem WI.e1 {T : TX} {F : LF} {r : RW} (hT : TG T F) (hI : RI T r) (h : WI T r) {w : Nat} (hw : w < nW T) : WI T (d1 T F w r) := by
  unfold d1
  by_cases c : dp T r w ≤ r w + FL T F r w
  · obtain ⟨n, hn, e⟩ := dp_b hT hI hw
    rw [if_pos c]
    exact h.u hn e
  · obtain ⟨n, hn, e⟩ := dp_b hT hI hw
    obtain ⟨m, hm, e2⟩ := h w hw
    obtain ⟨f, hf, e3⟩ := FL_b T F r w
    rw [if_neg c]
    rw [e, e2, e3, nI_add, nI_leI (by omega) (by omega)] at c
    exact h.u (n := m + f) (by omega) (by rw [e2, e3, nI_add])
theorem WI.dr {T : TX} {F : LF} {r : RW} (hT : TG T F) (hI : RI T r) (h : WI T r) {a : Nat} (ha : a < nM T) : WI T (drinkR T F a r) := by
  have h4 := hT.1.1.2
  have h7 := hT.1.2.1.2
  have hh := (hI.2.2.2.2 a ha).1
  have q : ∀ {x : RW} (y : Int32), WI T x → WI T (upd x (19 + a) y) := fun y hx => hx.o (fun i hi => by rw [upd_at, if_neg (by omega)])
  have q0 := h.u (w := hm r a) (n := 0) (x := 0) (by omega) rfl
  unfold drinkR
  by_cases c : r (hm r a) < DR T F r a
  · rw [if_pos c]
    split
    · exact q _ q0
    · exact (q _ q0).o (fun i hi => by rw [upd_at, if_neg (by omega)])
  · rw [if_neg c]
    obtain ⟨m, hm, e2⟩ := h (hm r a) hh
    obtain ⟨f, hf, e3⟩ := DR_b T F r a
    rw [e2, e3, nI_ltI (by omega) (by omega)] at c
    exact q _ (h.u (n := m - f) (by omega) (by rw [e2, e3, pk_sub (by omega)]))
theorem WI.e2 {T : TX} {F : LF} {r : RW} (hT : TG T F) (hI : RI T r) (h : WI T r) {a : Nat} (ha : a < nM T) : WI T (d2 T F a r) := by
  unfold d2
  split
  · exact h
  · exact h.dr hT hI ha
theorem cutR_d {T : TX} {r : RW} {w : Nat} (hw : w < 4) : dSame r (cutR T w r) := fun i hi => cutR_o (by omega)
theorem WI.ct {T : TX} {F : LF} {r : RW} (hT : TG T F) (hI : RI T r) (h : WI T r) : WI T (iter (cutR T) (nW T) r) := by
  have h4 := hT.1.1.2
  refine (iter_ind (P := fun r => RI T r ∧ WI T r) _ _ ⟨hI, h⟩ (fun j a hj ha => ⟨ha.1.o hT.1 (fun i hi => cutR_o (by omega)), ?_⟩)).2
  unfold cutR
  split
  · exact ha.2
  · obtain ⟨n, hn, e⟩ := dp_b hT ha.1 hj
    exact ha.2.u hn e
theorem cut_d {T : TX} {r : RW} (h4 : nW T ≤ 4) : ∀ n, n ≤ nW T → dSame r (iter (cutR T) n r)
  | 0, _ => fun _ _ => rfl
  | n + 1, hn => fun i hi => by rw [iter_s]; exact (cutR_d (by omega) i hi).trans (cut_d h4 n (by omega) i hi)
theorem WDp.ct {T : TX} {r : RW} (hN : TN T) : WDp T (iter (cutR T) (nW T) r) := by
  have h4 := hN.1.2
  have h7 := hN.2.1.2
  have h8 := hN.2.2.1.2
  have : ∀ n, n ≤ nW T → ∀ w, w < n → iter (cutR T) n r w ≤ dp T r w := by
    intro n
    induction n with
    | zero => intro _ w h; omega
    | succ n ih =>
      intro hn w hw
      rw [iter_s]
      have ed := dp_c h7 h8 (cut_d (r := r) h4 n (by omega))
      by_cases c : w = n
      · subst c
        rw [cutR_m, upd_at, if_pos rfl, ed]
        unfold jMmin
        split
        · exact Int32.le_refl _
        · rename_i q; exact Int32.not_lt.mp q
      · rw [cutR_o c]; exact ih (by omega) w (by omega)
  intro w hw
  rw [dp_c h7 h8 (cut_d (r := r) h4 _ (Nat.le_refl _))]
  exact this _ (Nat.le_refl _) w hw
theorem cut_id {T : TX} {r : RW} (h : WDp T r) : iter (cutR T) (nW T) r = r := iter_id _ (fun j hj => cutR_p (h j hj))
theorem TI.o {T : TX} {r r' : RW} (h : TI T r) (e : ∀ i, (19 ≤ i ∧ i < 26) ∨ i = 33 → r' i = r i) (h7 : nM T ≤ 7) : TI T r' := fun a ha => by rw [e (19 + a) (by omega), e 33 (by omega)]; exact h a ha
theorem TI.dr {T : TX} {F : LF} {r : RW} (hT : TG T F) (hI : RI T r) (h : TI T r) {a : Nat} (ha : a < nM T) (hal : bt (r 33) a = true) : TI T (drinkR T F a r) := by
  have h4 := hT.1.1.2
  have h7 := hT.1.2.1.2
  have hh := (hI.2.2.2.2 a ha).1
  obtain ⟨n, hn, en, hna⟩ := h a ha
  have hna := hna hal
  obtain ⟨t, ht1, ht2, et⟩ := hT.2.2.2.1.2.2.1
  have hlt : n < t := by rw [et, nI_ltI (by omega) (by omega)] at hna; exact hna
  intro b hb
  obtain ⟨m, hmm, em, hmb⟩ := h b hb
  have e19 : upd r (hm r a) 0 (19 + a) = nI n := by rw [upd_at, if_neg (by omega)]; exact en
  unfold drinkR
  rw [e19, nI_1]
  by_cases c : r (hm r a) < DR T F r a
  · rw [if_pos c]
    by_cases c2 : upd (upd r (hm r a) 0) (19 + a) (nI (n + 1)) (19 + a) < T 0 4
    · rw [if_pos c2]
      rw [upd_at, if_pos rfl] at c2
      by_cases e : b = a
      · subst e
        refine ⟨n + 1, by omega, by rw [upd_at, if_pos rfl], fun _ => c2⟩
      · refine ⟨m, hmm, by rw [upd_at, if_neg (by omega), upd_at, if_neg (by omega)]; exact em, fun z => hmb ?_⟩
        rw [upd_at, if_neg (by omega), upd_at, if_neg (by omega)] at z; exact z
    · rw [if_neg c2]
      by_cases e : b = a
      · subst e
        refine ⟨n + 1, by omega, by rw [upd_at, if_neg (by omega), upd_at, if_pos rfl], fun z => ?_⟩
        rw [upd_at, if_pos rfl, b_and, b_xor, bt_bitM (by omega) (by omega), b_m1 b (by omega)] at z
        simp at z
      · refine ⟨m, hmm, by rw [upd_at, if_neg (by omega), upd_at, if_neg (by omega), upd_at, if_neg (by omega)]; exact em, fun z => hmb ?_⟩
        rw [upd_at, if_pos rfl, b_and, upd_at, if_neg (by omega), upd_at, if_neg (by omega)] at z
        simp at z
        exact z.1
  · rw [if_neg c]
    by_cases e : b = a
    · subst e
      refine ⟨0, by omega, by rw [upd_at, if_pos rfl]; rfl, fun _ => by rw [et]; exact nI_lt (by omega) (by omega)⟩
    · refine ⟨m, hmm, by rw [upd_at, if_neg (by omega), upd_at, if_neg (by omega)]; exact em, fun z => hmb ?_⟩
      rw [upd_at, if_neg (by omega), upd_at, if_neg (by omega)] at z; exact z
theorem TI.e2 {T : TX} {F : LF} {r : RW} (hT : TG T F) (hI : RI T r) (h : TI T r) {a : Nat} (ha : a < nM T) : TI T (d2 T F a r) := by
  unfold d2
  split
  · exact h
  · rename_i c
    exact h.dr hT hI ha (by
      have h7 := hT.1.2.1.2
      rw [bitOf_0 _ (by omega)] at c
      cases hb : bt (r 33) a with
      | true => rfl
      | false => exact absurd hb c)
theorem TI.ct {T : TX} {r : RW} (hN : TN T) (h : TI T r) : TI T (iter (cutR T) (nW T) r) := by
  have h4 := hN.1.2
  exact iter_ind (P := TI T) _ _ h (fun j a hj ha => ha.o (fun i hi => cutR_o (by omega)) hN.2.1.2)
theorem GR.cut {T : TX} {F : LF} {r : RW} (hT : TG T F) (hI : RI T r) (h : WI T r) (ht : TI T r) : GR T (iter (cutR T) (nW T) r) := ⟨hI.cut hT.1, h.ct hT hI, WDp.ct hT.1, ht.ct hT.1⟩
theorem WDp.c {T : TX} {r r' : RW} (hN : TN T) (h : WDp T r) (hd : dSame r r') (e : ∀ i, i < nW T → r' i = r i) : WDp T r' := fun w hw => by rw [dp_c hN.2.1.2 hN.2.2.1.2 hd, e w hw]; exact h w hw
theorem GR.day {T : TX} {F : LF} {r : RW} (sd : Int32) (hT : TG T F) (h : GR T r) : GR T (dayR T F sd r) := by
  have h4 := hT.1.1.2
  have h7 := hT.1.2.1.2
  have a1 : RI T (iter (d1 T F) (nW T) r) ∧ WI T (iter (d1 T F) (nW T) r) ∧ TI T (iter (d1 T F) (nW T) r) := iter_ind (P := fun r => RI T r ∧ WI T r ∧ TI T r) _ _ ⟨h.1, h.2.1, h.2.2.2⟩ (fun j a hj ha => ⟨ha.1.e1 hT.1 hj, ha.2.1.e1 hT ha.1 hj, ha.2.2.o (fun i hi => d1_o (by omega)) h7⟩)
  have a2 : RI T (dB T F r) ∧ WI T (dB T F r) ∧ TI T (dB T F r) := iter_ind (P := fun r => RI T r ∧ WI T r ∧ TI T r) _ _ a1 (fun j a hj ha => ⟨ha.1.e2 hT.1 hj, ha.2.1.e2 hT ha.1 hj, ha.2.2.e2 hT ha.1 hj⟩)
  have a3 : RI T (iter (d3 T F sd (fun a => dB T F r (26 + a))) (nT T) (dB T F r)) ∧ WI T (iter (d3 T F sd (fun a => dB T F r (26 + a))) (nT T) (dB T F r)) ∧ TI T (iter (d3 T F sd (fun a => dB T F r (26 + a))) (nT T) (dB T F r)) := iter_ind (P := fun r => RI T r ∧ WI T r ∧ TI T r) _ _ a2 (fun j a hj ha => by
    have := (hT.2.2.1 j hj).2.2.1
    exact ⟨ha.1.e3 hT.1 hT.2.2.1 hj, ha.2.1.o (fun i hi => d3_o (by omega) (by omega)), ha.2.2.o (fun i hi => d3_o (by omega) (by omega)) h7⟩)
  have a4 := GR.cut hT a3.1 a3.2.1 a3.2.2
  unfold dayR dZ dE
  refine ⟨a4.1.o hT.1 (fun i hi => by rw [upd_at, if_neg (by omega)]), a4.2.1.o (fun i hi => by rw [upd_at, if_neg (by omega)]), a4.2.2.1.c hT.1 (dSame.z (by decide) _) (fun i hi => by rw [upd_at, if_neg (by omega)]), a4.2.2.2.o (fun i hi => by rw [upd_at, if_neg (by omega)]) h7⟩
theorem GR.days {T : TX} {F : LF} {sd : Int32} {r : RW} (hT : TG T F) (h : GR T r) : ∀ n, GR T (days T F sd n r)
  | 0 => h
  | n + 1 => by rw [days_s]; exact GR.day sd hT (GR.days hT h n)
