/-! THE REFERENCE: laws asked, a day. F k: what law k (0 fills, 1 tells, 2 drinks) tells of the variables, if it is told. -/
abbrev LF : Type := Nat → Option ((Nat → Int32) → Int32)
def hel (x most : Int32) : Int32 := if 0 ≤ x then (if x ≤ most then x else most) else 0
theorem Mo_held (x most : Int32) : f_Mo_held x most = some (hel x most) := by
  unfold f_Mo_held f_Mo_held_b0 hel
  split
  · split <;> rfl
  · rfl
def aL (F : LF) (k : Nat) (vars : Nat → Int32) (plain most : Int32) : Int32 := match F k with
  | none => hel plain most
  | some g => hel (g vars) most
/-- the cells in which the reference keeps its laws -/
def LwM (S S' : Mem) : Prop := S'.1 0 18 = S.1 0 18 ∧ ∀ f i, ((f = 40 ∨ f = 41) ∧ 3 * (S.1 0 18).toNatClampNeg ≤ i ∧ i < 3 * (S.1 0 18).toNatClampNeg + 3) ∨ ((43 ≤ f ∧ f ≤ 47) ∧ 130 * (S.1 0 18).toNatClampNeg ≤ i ∧ i < 130 * (S.1 0 18).toNatClampNeg + 130) ∨ ((f = 49 ∨ f = 50) ∧ 420 * (S.1 0 18).toNatClampNeg ≤ i ∧ i < 420 * (S.1 0 18).toNatClampNeg + 420) → S'.2.1 0 f i = S.2.1 0 f i
/-- what the reference's laws tell, whatever else its memory holds -/
def ML (F : LF) (S : Mem) : Prop := ∀ (S2 : Mem) (k : Nat) (plain most : Int32), LwM S S2 → k < 3 → Ok (fun z : Int32 × Mem => z.1 = aL F k (S2.2.1 0 53) plain most ∧ Fr S2 z.2 ∧ z.2.2.1 0 57 = S2.2.1 0 57 ∧ z.2.2.1 0 53 = S2.2.1 0 53 ∧ z.2.2.1 0 59 = S2.2.1 0 59 ∧ z.2.1 0 58 = S2.1 0 58) (f_Mo_asks (nI k) plain most S2)
theorem Fr.lw {S S' : Mem} (h : Fr S S') : LwM S S' := ⟨h.1 18 (by unfold scI; decide), fun f i hf => by rw [h.2.1 f (by unfold scA; omega)]⟩
theorem LwM.tr {A B C : Mem} (h1 : LwM A B) (h2 : LwM B C) : LwM A C := ⟨h2.1.trans h1.1, fun f i hf => (h2.2 f i (by rw [h1.1]; exact hf)).trans (h1.2 f i hf)⟩
theorem ML.fr {F : LF} {S S' : Mem} (h : ML F S) (hF : Fr S S') : ML F S' := fun S2 k plain most hl hk => h S2 k plain most (hF.lw.tr hl) hk
def var8 (d dp_ wet dry kno hv wi wh : Int32) : Nat → Int32 := fun k => match k with
  | 0 => d | 1 => dp_ | 2 => wet | 3 => dry | 4 => kno | 5 => hv | 6 => wi | 7 => wh | _ => 0
def V8 (f : Nat → Int32) (g : Nat → Int32) : Prop := ∀ k, k < 8 → f k = g k
/-- a law looks at its eight variables alone -/
def L8 (F : LF) : Prop := ∀ k g, F k = some g → ∀ f f', V8 f f' → g f = g f'
theorem aL_8 {F : LF} (h : L8 F) {k : Nat} {f f' : Nat → Int32} (hv : V8 f f') (plain most : Int32) : aL F k f plain most = aL F k f' plain most := by
  unfold aL
  cases hF : F k with
  | none => rfl
  | some g => simp only; rw [h k g hF f f' hv]
/-- it writes only variables -/
def Vr (S S' : Mem) : Prop := S'.1 = S.1 ∧ (∀ f, f ≠ 53 → S'.2.1 0 f = S.2.1 0 f) ∧ S'.2.2 = S.2.2
theorem Vr.fr {S S' : Mem} (h : Vr S S') : Fr S S' := ⟨fun k _ => by rw [h.1], fun f hf => h.2.1 f (fun e => hf (by rw [e]; unfold scA; decide)), h.2.2⟩
theorem gv {α : Type} {k : Option α} (i : Int32) (j : Nat) (e : i = nI j) (h : j < 8) : gIn i 8 k = k := gIn_l i j e h (by decide)
theorem ic_0 : (0 : Int32).toNatClampNeg = 0 := by decide
theorem ic_1 : (1 : Int32).toNatClampNeg = 1 := by decide
theorem ic_2 : (2 : Int32).toNatClampNeg = 2 := by decide
theorem ic_3 : (3 : Int32).toNatClampNeg = 3 := by decide
theorem ic_4 : (4 : Int32).toNatClampNeg = 4 := by decide
theorem ic_5 : (5 : Int32).toNatClampNeg = 5 := by decide
theorem ic_6 : (6 : Int32).toNatClampNeg = 6 := by decide
theorem ic_7 : (7 : Int32).toNatClampNeg = 7 := by decide
theorem gv0 {α : Type} {k : Option α} : gIn 0 8 k = k := gv 0 0 rfl (by decide)
theorem gv1 {α : Type} {k : Option α} : gIn 1 8 k = k := gv 1 1 rfl (by decide)
theorem gv2 {α : Type} {k : Option α} : gIn 2 8 k = k := gv 2 2 rfl (by decide)
theorem gv3 {α : Type} {k : Option α} : gIn 3 8 k = k := gv 3 3 rfl (by decide)
theorem gv4 {α : Type} {k : Option α} : gIn 4 8 k = k := gv 4 4 rfl (by decide)
theorem gv5 {α : Type} {k : Option α} : gIn 5 8 k = k := gv 5 5 rfl (by decide)
theorem gv6 {α : Type} {k : Option α} : gIn 6 8 k = k := gv 6 6 rfl (by decide)
theorem gv7 {α : Type} {k : Option α} : gIn 7 8 k = k := gv 7 7 rfl (by decide)
theorem Vr.rf (S : Mem) : Vr S S := ⟨rfl, fun _ _ => rfl, rfl⟩
theorem Vr.s {S S' : Mem} (h : Vr S S') (i x : Int32) : Vr S (sA S' 0 53 i x) := ⟨h.1, fun f hf => by rw [sA_2, if_neg (fun z => hf z.2)]; exact h.2.1 f hf, h.2.2⟩
theorem Vr.mr {S S' : Mem} (h : Vr S S') {r : RW} (hr : MR r S) : MR r S' := MR_of hr (h.2.1 57 (by decide))
theorem v53 (S : Mem) (i x : Int32) (k : Nat) : (sA S 0 53 i x).2.1 0 53 k = if k = i.toNatClampNeg then x else S.2.1 0 53 k := by
  rw [sA_2, if_pos ⟨rfl, rfl⟩, upd_at]
theorem lt8 {P : Nat → Prop} (h0 : P 0) (h1 : P 1) (h2 : P 2) (h3 : P 3) (h4 : P 4) (h5 : P 5) (h6 : P 6) (h7 : P 7) : ∀ k, k < 8 → P k := by
  intro k hk
  rcases (show k = 0 ∨ k = 1 ∨ k = 2 ∨ k = 3 ∨ k = 4 ∨ k = 5 ∨ k = 6 ∨ k = 7 by omega) with rfl | rfl | rfl | rfl | rfl | rfl | rfl | rfl <;> assumption
theorem Mo_setsWell {v : Nat} {T : TX} {S : Mem} {r : RW} (hN : TN T) (hT : TV v T S) (hr : MR r S) {w : Nat} (hw : w < 4) : Ok (fun S' => Vr S S' ∧ S'.2.1 0 53 0 = r 35 ∧ S'.2.1 0 53 1 = dp T r w ∧ S'.2.1 0 53 2 = r w ∧ S'.2.1 0 53 3 = 0 ∧ S'.2.1 0 53 5 = 0 ∧ S'.2.1 0 53 6 = bits (drk T r w)) (f_Mo_setsWell (nI w) S) := by
  have e35 : S.2.1 0 57 35 = r 35 := hr 35 (by decide)
  have V1 := (Vr.rf S).s 0 (r 35)
  have V2 := V1.s 1 (dp T r w)
  have V3 := V2.s 2 (r w)
  have e2 := V2.mr hr w (by omega)
  simp only [f_Mo_setsWell, f_Mo_setsWell_b0, g35, ic_35, e35, gv0, gv1, gv2, gv3, gv5, gv6, letS_e, Mo_deepOf hN (V1.fr.tv hT) (V1.mr hr) hw, bind_e, g40 (show w < 40 by omega), cl (show w < 4096 by omega), e2, Mo_drinkersOf hN (V3.fr.tv hT) (V3.mr hr), Mo_bits]
  refine Ok.i ⟨((V3.s 6 _).s 3 _).s 5 _, ?_, ?_, ?_, ?_, ?_, ?_⟩ <;> simp [v53, ic_0, ic_1, ic_2, ic_3, ic_5, ic_6]
def FL (T : TX) (F : LF) (r : RW) (w : Nat) : Int32 := aL F 0 (var8 (r 35) (dp T r w) (r w) 0 (bits (hld T r w)) 0 (bits (drk T r w)) (nI w)) 10 999
def hm (r : RW) (a : Nat) : Nat := (r (12 + a)).toNatClampNeg
def DR (T : TX) (F : LF) (r : RW) (a : Nat) : Int32 := aL F 2 (var8 (r 35) (dp T r (hm r a)) (r (hm r a)) (r (19 + a)) (bits (r (26 + a))) 0 (bits (drk T r (hm r a))) (nI a)) (T 4 a) 99
def fm (T : TX) (t : Nat) : Nat := (T 8 t).toNatClampNeg
def to (T : TX) (t : Nat) : Nat := (T 9 t).toNatClampNeg
def TE (T : TX) (F : LF) (r : RW) (t s : Nat) : Int32 := aL F 1 (var8 (r 35) (dp T r (hm r (fm T t))) (r (hm r (fm T t))) (r (19 + fm T t)) (bits (r (26 + fm T t))) (T 5 s) (bits (drk T r (hm r (fm T t)))) (nI t)) 0 100
/-- men drink from wells that are there; ties go between men that are there -/
def RH (T : TX) (r : RW) : Prop := ∀ a, a < nM T → hm r a < nW T ∧ r (12 + a) = nI (hm r a)
def TE_ok (T : TX) : Prop := ∀ t, t < nT T → fm T t < nM T ∧ T 8 t = nI (fm T t) ∧ to T t < nM T ∧ T 9 t = nI (to T t)
/-- behind a law that was asked -/
def Fs (S S' : Mem) : Prop := Fr S S' ∧ S'.2.1 0 57 = S.2.1 0 57 ∧ S'.2.1 0 59 = S.2.1 0 59 ∧ S'.1 0 58 = S.1 0 58
theorem Vr.fs {S S' : Mem} (h : Vr S S') : Fs S S' := ⟨h.fr, h.2.1 57 (by decide), h.2.1 59 (by decide), by rw [h.1]⟩
theorem Fs.tr {A B C : Mem} (h1 : Fs A B) (h2 : Fs B C) : Fs A C := ⟨h1.1.tr h2.1, h2.2.1.trans h1.2.1, h2.2.2.1.trans h1.2.2.1, h2.2.2.2.trans h1.2.2.2⟩
theorem Fs.mr {S S' : Mem} (h : Fs S S') {r : RW} (hr : MR r S) : MR r S' := MR_of hr h.2.1
theorem asks_at {F : LF} {S S2 : Mem} (hL : ML F S) (h8 : L8 F) (hF : Fr S S2) {k : Nat} (hk : k < 3) {f : Nat → Int32} (hv : V8 (S2.2.1 0 53) f) (plain most : Int32) : Ok (fun z : Int32 × Mem => z.1 = aL F k f plain most ∧ Fs S2 z.2) (f_Mo_asks (nI k) plain most S2) :=
  (hL S2 k plain most hF.lw hk).m (fun z h => ⟨h.1.trans (aL_8 h8 hv plain most), h.2.1, h.2.2.1, h.2.2.2.2.1, h.2.2.2.2.2⟩)
theorem Mo_fillsOf {v : Nat} {T : TX} {F : LF} {S : Mem} {r : RW} (hN : TN T) (hT : TV v T S) (hL : ML F S) (h8 : L8 F) (hr : MR r S) {w : Nat} (hw : w < 4) : Ok (fun z : Int32 × Mem => z.1 = FL T F r w ∧ Fs S z.2) (f_Mo_fillsOf (nI w) S) := by
  unfold f_Mo_fillsOf f_Mo_fillsOf_b0
  refine (Mo_setsWell hN hT hr hw).b (fun S1 h1 => ?_)
  obtain ⟨hV, e0, e1, e2, e3, e5, e6⟩ := h1
  simp only [Mo_holding hN (hV.fr.tv hT) (hV.mr hr), bind_e, Mo_bits, gv4, gv7, letS_e]
  have V2 := (hV.s 4 (bits (hld T r w))).s 7 (nI w)
  refine (asks_at hL h8 V2.fr (k := 0) (by decide) (f := var8 (r 35) (dp T r w) (r w) 0 (bits (hld T r w)) 0 (bits (drk T r w)) (nI w)) ?_ 10 999).b (fun z hz => Ok.i ⟨hz.1, V2.fs.tr hz.2⟩)
  refine lt8 ?_ ?_ ?_ ?_ ?_ ?_ ?_ ?_ <;> simp [v53, ic_4, ic_7, var8, e0, e1, e2, e3, e5, e6]
theorem Mo_setsMan {v : Nat} {T : TX} {S : Mem} {r : RW} (hN : TN T) (hT : TV v T S) (hr : MR r S) (hH : RH T r) {a : Nat} (ha : a < nM T) : Ok (fun S' => Vr S S' ∧ S'.2.1 0 53 0 = r 35 ∧ S'.2.1 0 53 1 = dp T r (hm r a) ∧ S'.2.1 0 53 2 = r (hm r a) ∧ S'.2.1 0 53 3 = r (19 + a) ∧ S'.2.1 0 53 4 = bits (r (26 + a)) ∧ S'.2.1 0 53 5 = 0 ∧ S'.2.1 0 53 6 = bits (drk T r (hm r a)) ∧ S'.2.1 0 53 7 = nI a) (f_Mo_setsMan (nI a) S) := by
  have hN0 := hN
  obtain ⟨⟨-, hW⟩, ⟨-, hM⟩, -⟩ := hN
  obtain ⟨hh, eh⟩ := hH a ha
  unfold f_Mo_setsMan f_Mo_setsMan_b0
  rw [a12, a19, a26, g40 (show 12 + a < 40 by omega), cl (show 12 + a < 4096 by omega), cl (show 19 + a < 4096 by omega), cl (show 26 + a < 4096 by omega), hr (12 + a) (by omega), eh]
  refine (Mo_setsWell hN0 hT hr (by omega)).b (fun S1 h1 => ?_)
  obtain ⟨hV, e0, e1, e2, e3, e5, e6⟩ := h1
  have V2 := hV.s 3 (r (19 + a))
  simp only [g40 (show 19 + a < 40 by omega), g40 (show 26 + a < 40 by omega), gv3, gv4, gv7, letS_e, hV.mr hr (19 + a) (by omega), V2.mr hr (26 + a) (by omega), Mo_bits, bind_e]
  refine Ok.i ⟨(V2.s 4 _).s 7 _, ?_, ?_, ?_, ?_, ?_, ?_, ?_, ?_⟩ <;> simp [v53, ic_3, ic_4, ic_7, e0, e1, e2, e5, e6]
theorem Mo_drinksOf {v : Nat} {T : TX} {F : LF} {S : Mem} {r : RW} (hN : TN T) (hT : TV v T S) (hL : ML F S) (h8 : L8 F) (hr : MR r S) (hH : RH T r) {a : Nat} (ha : a < nM T) : Ok (fun z : Int32 × Mem => z.1 = DR T F r a ∧ Fs S z.2) (f_Mo_drinksOf (nI a) S) := by
  have hM : nM T ≤ 7 := hN.2.1.2
  unfold f_Mo_drinksOf f_Mo_drinksOf_b0
  refine (Mo_setsMan hN hT hr hH ha).b (fun S1 h1 => ?_)
  obtain ⟨hV, e0, e1, e2, e3, e4, e5, e6, e7⟩ := h1
  obtain ⟨hv, e18, -, -, -, h7, -⟩ := hV.fr.tv hT
  simp only [e18, m7, g14 (show 7 * v + a < 14 by omega), cl (show 7 * v + a < 4096 by omega), (h7 a (by omega)).2]
  refine (asks_at hL h8 hV.fr (k := 2) (by decide) (f := var8 (r 35) (dp T r (hm r a)) (r (hm r a)) (r (19 + a)) (bits (r (26 + a))) 0 (bits (drk T r (hm r a))) (nI a)) ?_ (T 4 a) 99).b (fun z hz => Ok.i ⟨hz.1, hV.fs.tr hz.2⟩)
  refine lt8 ?_ ?_ ?_ ?_ ?_ ?_ ?_ ?_ <;> simp [var8, e0, e1, e2, e3, e4, e5, e6, e7]
