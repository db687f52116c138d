/-! BOTH, operation by operation: what is done. -/
def GX (T : TX) (U : UX) (H : HX) (N : NX) (B : BX) : Prop := (∀ i, i < U.1 → GR T (U.2 i)) ∧ (∀ s, s < 3 → H.1 s = true → GR T (H.2 s)) ∧ (∀ i, i < N.1 → (∃ w, w < nW T ∧ N.2 0 i = nI w) ∧ ∃ s, s < 2 ^ nS T ∧ N.2 1 i = nI s) ∧ ∀ i, i < B.1 → ∃ y : Int8, B.2 i = y.toInt32
def WO (T : TX) (F : LF) (r : RW) (U : UX) (H : HX) (N : NX) (B : BX) : Prop := TG T F ∧ GR T r ∧ GX T U H N B
def Rel (SC SM : Mem) : Prop := ∃ v tx T F r U H N B P, WO T F r U H N B ∧ MOK v T F r U H N B P SM ∧ COK tx T F r U H N B P SC
def Sim (x y : Option (Int32 × Mem)) : Prop := ∃ a SC SM, x = some (a, SC) ∧ y = some (a, SM) ∧ Rel SC SM
theorem Sim.ok {x y : Option (Int32 × Mem)} {a : Int32} {v tx : Nat} {T : TX} {F : LF} {r : RW} {U : UX} {H : HX} {N : NX} {B : BX} {P : Int32} (w : WO T F r U H N B) (hx : Ok (fun z : Int32 × Mem => z.1 = a ∧ COK tx T F r U H N B P z.2) x) (hy : Ok (fun z : Int32 × Mem => z.1 = a ∧ MOK v T F r U H N B P z.2) y) : Sim x y := by
  obtain ⟨⟨a1, S1⟩, rfl, e1, h1⟩ := hx
  obtain ⟨⟨a2, S2⟩, rfl, e2, h2⟩ := hy
  exact ⟨a, S1, S2, by rw [← e1], by rw [← e2], v, tx, T, F, r, U, H, N, B, P, w, h2, h1⟩
theorem Ok.e {α : Type} {P : α → Prop} {x : Option α} {a : α} (e : x = some a) (h : P a) : Ok P x := ⟨a, e, h⟩
theorem WO.pu {T : TX} {F : LF} {r r' : RW} {U : UX} {H : HX} {N : NX} {B : BX} (w : WO T F r U H N B) (h : GR T r') : WO T F r' (push U r) H N B := by
  obtain ⟨w1, w2, w3, w4⟩ := w
  refine ⟨w1, h, fun i hi => ?_, w4⟩
  unfold push at hi ⊢
  by_cases q : U.1 = 40
  · rw [if_pos q] at hi ⊢
    have hi : i < 40 := hi
    show GR T (updR (fun i => U.2 (i + 1)) 39 r i)
    unfold updR
    by_cases qi : i = 39
    · rw [if_pos qi]; exact w2
    · rw [if_neg qi]; exact w3 (i + 1) (by omega)
  · rw [if_neg q] at hi ⊢
    have hi : i < U.1 + 1 := hi
    show GR T (updR U.2 U.1 r i)
    unfold updR
    by_cases qi : i = U.1
    · rw [if_pos qi]; exact w2
    · rw [if_neg qi]; exact w3 i (by omega)
theorem S_feed {SC SM : Mem} (h : Rel SC SM) (x1 x2 x3 x4 x5 : Int32) : Sim (f_Co_feed x1 x2 x3 x4 x5 SC) (f_Mo_feed x1 x2 x3 x4 x5 SM) := by
  obtain ⟨v, tx, T, F, r, U, H, N, B, P, w, hM, hC⟩ := h
  by_cases q : B.1 + 20 ≤ 2000
  · refine Sim.ok ⟨w.1, w.2.1, w.2.2.1, w.2.2.2.1, w.2.2.2.2.1, ?_⟩ (Co_feed_y hC q x1 x2 x3 x4 x5) (Mo_feed_y hM q x1 x2 x3 x4 x5)
    have ha : ∀ (B : BX) (x : Int32), (∀ i, i < B.1 → ∃ y : Int8, B.2 i = y.toInt32) → ∀ i, i < (app B x).1 → ∃ y : Int8, (app B x).2 i = y.toInt32 := by
      intro B x hb i hi
      have hi : i < B.1 + 4 := hi
      show ∃ y : Int8, cpF B.1 4 (byt x) B.2 i = y.toInt32
      unfold cpF
      by_cases q : B.1 ≤ i ∧ i < B.1 + 4
      · rw [if_pos q]; unfold byt; rw [pk_vb]; exact ⟨_, rfl⟩
      · rw [if_neg q]; exact hb i (by omega)
    exact ha _ _ (ha _ _ (ha _ _ (ha _ _ (ha _ _ w.2.2.2.2.2))))
  · exact Sim.ok w (Ok.e (Co_feed_n hC q x1 x2 x3 x4 x5) ⟨rfl, hC⟩) (Ok.e (Mo_feed_n hM q x1 x2 x3 x4 x5) ⟨rfl, hM⟩)
theorem S_back {SC SM : Mem} (h : Rel SC SM) (x : Int32) : Sim (f_Co_back x SC) (f_Mo_back x SM) := by
  obtain ⟨v, tx, T, F, r, U, H, N, B, P, w, hM, hC⟩ := h
  rcases rg x (n := B.1 + 1) (by have := hM.2.2.2.2.2.1.2.1; omega) with ⟨n, hn, rfl⟩ | ⟨q, -⟩
  · exact Sim.ok (B := (B.1 - n, B.2)) ⟨w.1, w.2.1, w.2.2.1, w.2.2.2.1, w.2.2.2.2.1, fun i hi => w.2.2.2.2.2 i (by have : i < B.1 - n := hi; omega)⟩ (Co_back_y hC hn) (Mo_back_y hM hn)
  · exact Sim.ok w (Ok.e (Co_back_n hC q) ⟨rfl, hC⟩) (Ok.e (Mo_back_n hM q) ⟨rfl, hM⟩)
theorem S_forget {SC SM : Mem} (h : Rel SC SM) : Sim (f_Co_forget SC) (f_Mo_forget SM) := by
  obtain ⟨v, tx, T, F, r, U, H, N, B, P, w, hM, hC⟩ := h
  exact Sim.ok ⟨w.1, w.2.1, w.2.2.1, w.2.2.2.1, fun i hi => absurd hi (by show ¬ i < 0; omega), w.2.2.2.2.2⟩ (Co_forget hC) (Mo_forget hM)
theorem S_note {SC SM : Mem} (h : Rel SC SM) (x1 x2 x3 : Int32) : Sim (f_Co_note x1 x2 x3 SC) (f_Mo_note x1 x2 x3 SM) := by
  obtain ⟨v, tx, T, F, r, U, H, N, B, P, w, hM, hC⟩ := h
  have hN := w.1.1
  have p := p2_12 (nS T) (by have := hN.2.2.1.2; omega)
  have no : ∀ hx, Sim (f_Co_note x1 x2 x3 SC) (f_Mo_note x1 x2 x3 SM) := fun hx => Sim.ok w (Ok.e (Co_note_n hN hC hx) ⟨rfl, hC⟩) (Ok.e (Mo_note_n hN hM hx) ⟨rfl, hM⟩)
  by_cases q0 : N.1 = 20
  · exact no (Or.inl q0)
  rcases rg x1 (n := nW T) (by have := hN.1.2; omega) with ⟨a, ha, e1⟩ | ⟨q, -⟩
  case inr => exact no (Or.inr (Or.inl q))
  rcases rg x2 (n := 2 ^ nS T) (by omega) with ⟨b, hb, e2⟩ | ⟨q, -⟩
  case inr => exact no (Or.inr (Or.inr (Or.inl q)))
  rcases rg x3 (n := 10000) (by decide) with ⟨c, hc, e3⟩ | ⟨q, -⟩
  case inr => exact no (Or.inr (Or.inr (Or.inr q)))
  subst e1 e2 e3
  have h0 : N.1 < 20 := by have := hM.2.2.2.2.1.2.1; omega
  refine Sim.ok ⟨w.1, w.2.1, w.2.2.1, w.2.2.2.1, fun i hi => ?_, w.2.2.2.2.2⟩ (Co_note_y hN hC h0 ha hb hc) (Mo_note_y hN hM h0 ha hb hc)
  have hi : i < N.1 + 1 := hi
  unfold updN
  by_cases q : i = N.1
  · exact ⟨⟨a, ha, by simp [q]⟩, b, hb, by simp [q]⟩
  · simp only [if_neg q]; exact w.2.2.2.2.1 i (by omega)
theorem S_hold {SC SM : Mem} (h : Rel SC SM) (x : Int32) : Sim (f_Co_hold x SC) (f_Mo_hold x SM) := by
  obtain ⟨v, tx, T, F, r, U, H, N, B, P, w, hM, hC⟩ := h
  rcases rg x (n := 3) (by decide) with ⟨s, hs, rfl⟩ | ⟨q, -⟩
  · refine Sim.ok ⟨w.1, w.2.1, w.2.2.1, fun i hi hb => ?_, w.2.2.2.2⟩ (Co_hold_y w.1.1 hC hs) (Mo_hold_y hM hs)
    show GR T (updR H.2 s r i)
    have hb : updB H.1 s true i = true := hb
    unfold updR
    by_cases q : i = s
    · rw [if_pos q]; exact w.2.1
    · rw [if_neg q]; unfold updB at hb; rw [if_neg q] at hb; exact w.2.2.2.1 i hi hb
  · exact Sim.ok w (Ok.e (Co_hold_n q) ⟨rfl, hC⟩) (Ok.e (Mo_hold_n q) ⟨rfl, hM⟩)
theorem S_restore {SC SM : Mem} (h : Rel SC SM) (x : Int32) : Sim (f_Co_restore x SC) (f_Mo_restore x SM) := by
  obtain ⟨v, tx, T, F, r, U, H, N, B, P, w, hM, hC⟩ := h
  rcases rg x (n := 3) (by decide) with ⟨s, hs, rfl⟩ | ⟨q, -⟩
  · by_cases q : H.1 s = true
    · have g := w.2.2.2.1 s hs q
      exact Sim.ok ⟨w.1, g, fun i hi => absurd hi (by show ¬ i < 0; omega), w.2.2.2⟩ (Co_restore_y w.1 hC hs q g) (Mo_restore_y hM hs q)
    · have q := Bool.eq_false_iff.mpr q
      exact Sim.ok w (Ok.e (Co_restore_e hC hs q) ⟨rfl, hC⟩) (Ok.e (Mo_restore_e hM hs q) ⟨rfl, hM⟩)
  · exact Sim.ok w (Ok.e (Co_restore_n q) ⟨rfl, hC⟩) (Ok.e (Mo_restore_n q) ⟨rfl, hM⟩)
theorem S_undo {SC SM : Mem} (h : Rel SC SM) : Sim (f_Co_undo SC) (f_Mo_undo SM) := by
  obtain ⟨v, tx, T, F, r, U, H, N, B, P, w, hM, hC⟩ := h
  rcases Nat.eq_zero_or_pos U.1 with q | q
  · exact Sim.ok w (Ok.e (Co_undo_n hC q) ⟨rfl, hC⟩) (Ok.e (Mo_undo_n hM q) ⟨rfl, hM⟩)
  · have e : U.1 = (U.1 - 1) + 1 := by omega
    have g := w.2.2.1 (U.1 - 1) (by omega)
    exact Sim.ok (U := (U.1 - 1, U.2)) ⟨w.1, g, fun i hi => w.2.2.1 i (by have : i < U.1 - 1 := hi; omega), w.2.2.2⟩ (Co_undo_y w.1 hC e g) (Mo_undo_y hM e)
-- rows changed by hand
theorem dp_k {T : TX} {r r' : RW} (hN : TN T) (h : ∀ i, (4 ≤ i ∧ i < 12) ∨ (26 ≤ i ∧ i < 34) → r' i = r i) (w : Nat) : dp T r' w = dp T r w := by
  have h7 := hN.2.1.2
  have h8 := hN.2.2.1.2
  have e1 : ∀ s, kn T r' s = kn T r s := fun s => orF_c _ (fun j hj => by rw [h (26 + j) (by omega)])
  have e2 : ∀ s, wgt T r' s = wgt T r s := fun s => by unfold wgt knB; rw [e1, h 33 (by omega)]
  unfold dp
  rw [sumF_c (nS T) (g := fun s => if r (4 + s) = nI w then wgt T r s else 0) (fun j hj => by rw [h (4 + j) (by omega), e2])]
theorem GR.go {T : TX} {r : RW} (hN : TN T) (h : GR T r) {a w : Nat} (ha : a < nM T) (hw : w < nW T) : GR T (upd r (12 + a) (nI w)) := by
  have h4 := hN.1.2
  have h7 := hN.2.1.2
  have h8 := hN.2.2.1.2
  obtain ⟨⟨i1, i2, i3, i4, i5⟩, h2, h3, h5⟩ := h
  have e : ∀ i, i < 12 ∨ 19 ≤ i → upd r (12 + a) (nI w) i = r i := fun i hi => by rw [upd_at, if_neg (by omega)]
  refine ⟨⟨by rw [e 33 (by omega)]; exact i1, fun b hb => by rw [e (26 + b) (by omega)]; exact i2 b hb, by rw [e 34 (by omega)]; exact i3, fun s hs => by rw [e (4 + s) (by omega)]; exact i4 s hs, fun b hb => ?_⟩, h2.o (fun i hi => e i (by omega)), fun v hv => ?_, h5.o (fun i hi => e i (by omega)) h7⟩
  · unfold hm
    rw [upd_at]
    by_cases q : b = a
    · rw [if_pos (by omega), cl (by omega)]; exact ⟨hw, rfl⟩
    · rw [if_neg (by omega)]; exact i5 b hb
  · rw [dp_k hN (fun i hi => e i (by omega)), e v (by omega)]; exact h3 v hv
theorem GR.ct {T : TX} {r : RW} (hN : TN T) (h : GR T r) {t : Nat} (ht : t < nT T) : GR T (upd r 34 (r 34 ^^^ bitM t)) := by
  have h4 := hN.1.2
  have h7 := hN.2.1.2
  have h8 := hN.2.2.1.2
  have h12 := hN.2.2.2.2
  obtain ⟨⟨i1, i2, i3, i4, i5⟩, h2, h3, h5⟩ := h
  have e : ∀ i, i ≠ 34 → upd r 34 (r 34 ^^^ bitM t) i = r i := fun i hi => by rw [upd_at, if_neg hi]
  refine ⟨⟨by rw [e 33 (by omega)]; exact i1, fun b hb => by rw [e (26 + b) (by omega)]; exact i2 b hb, fun i k1 k2 => ?_, fun s hs => by rw [e (4 + s) (by omega)]; exact i4 s hs, fun b hb => ?_⟩, h2.o (fun i hi => e i (by omega)), fun v hv => ?_, h5.o (fun i hi => e i (by omega)) h7⟩
  · rw [upd_at, if_pos rfl, b_xor, i3 i k1 k2, bt_bitM (by omega) k2]
    simp; omega
  · unfold hm; rw [e (12 + b) (by omega)]; exact i5 b hb
  · rw [dp_k hN (fun i hi => e i (by omega)), e v (by omega)]; exact h3 v hv
theorem RI.i {T : TX} {r : RW} (hN : TN T) (h : RI T r) {s w : Nat} (hs : s < nS T) (hw : w < nW T) : RI T (upd r (4 + s) (nI w)) := by
  have h4 := hN.1.2
  have h7 := hN.2.1.2
  have h8 := hN.2.2.1.2
  obtain ⟨i1, i2, i3, i4, i5⟩ := h
  have e : ∀ i, i < 4 ∨ 12 ≤ i → upd r (4 + s) (nI w) i = r i := fun i hi => by rw [upd_at, if_neg (by omega)]
  refine ⟨by rw [e 33 (by omega)]; exact i1, fun b hb => by rw [e (26 + b) (by omega)]; exact i2 b hb, by rw [e 34 (by omega)]; exact i3, fun u hu => ?_, fun b hb => ?_⟩
  · rw [upd_at]
    by_cases q : u = s
    · rw [if_pos (by omega)]; exact Or.inr ⟨w, hw, rfl⟩
    · rw [if_neg (by omega)]; exact i4 u hu
  · unfold hm; rw [e (12 + b) (by omega)]; exact i5 b hb
