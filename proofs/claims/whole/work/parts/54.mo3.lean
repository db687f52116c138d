/-! THE REFERENCE: laws asked, a day. F k: what law k (0 fills, 1 tells, 2 drinks) tells of the variables, if it is told. -/
abbrev LF : Type := Nat → Option ((Nat → Int32) → Int32)
def hel (x most : Int32) : Int32 := if 0 ≤ x then (if x ≤ most then x else most) else 0
theorem Mo_held (x most : Int32) : f_Mo_held x most = some (hel x most) := by
  unfold f_Mo_held f_Mo_held_b0 hel
  split
  · split <;> rfl
  · rfl
def aL (F : LF) (k : Nat) (vars : Nat → Int32) (plain most : Int32) : Int32 := match F k with
  | none => hel plain most
  | some g => hel (g vars) most
/-- the cells in which the reference keeps its laws -/
def LwM (S S' : Mem) : Prop := S'.1 0 18 = S.1 0 18 ∧ ∀ f, (f = 40 ∨ f = 41 ∨ f = 43 ∨ f = 44 ∨ f = 45 ∨ f = 46 ∨ f = 47 ∨ f = 49 ∨ f = 50) → S'.2.1 0 f = S.2.1 0 f
/-- what the reference's laws tell, whatever else its memory holds -/
def ML (F : LF) (S : Mem) : Prop := ∀ (S2 : Mem) (k : Nat) (plain most : Int32), LwM S S2 → k < 3 → Ok (fun z : Int32 × Mem => z.1 = aL F k (S2.2.1 0 53) plain most ∧ Fr S2 z.2 ∧ z.2.2.1 0 57 = S2.2.1 0 57 ∧ z.2.2.1 0 53 = S2.2.1 0 53 ∧ z.2.2.1 0 59 = S2.2.1 0 59 ∧ z.2.1 0 58 = S2.1 0 58) (f_Mo_asks (nI k) plain most S2)
theorem Fr.lw {S S' : Mem} (h : Fr S S') : LwM S S' := ⟨h.1 18 (by unfold scI; decide), fun f hf => h.2.1 f (by rcases hf with rfl | rfl | rfl | rfl | rfl | rfl | rfl | rfl | rfl <;> (unfold scA; decide))⟩
theorem LwM.tr {A B C : Mem} (h1 : LwM A B) (h2 : LwM B C) : LwM A C := ⟨h2.1.trans h1.1, fun f hf => (h2.2 f hf).trans (h1.2 f hf)⟩
theorem ML.fr {F : LF} {S S' : Mem} (h : ML F S) (hF : Fr S S') : ML F S' := fun S2 k plain most hl hk => h S2 k plain most (hF.lw.tr hl) hk
def var8 (d dp_ wet dry kno hv wi wh : Int32) : Nat → Int32 := fun k => match k with
  | 0 => d | 1 => dp_ | 2 => wet | 3 => dry | 4 => kno | 5 => hv | 6 => wi | 7 => wh | _ => 0
def V8 (f : Nat → Int32) (g : Nat → Int32) : Prop := ∀ k, k < 8 → f k = g k
/-- a law looks at its eight variables alone -/
def L8 (F : LF) : Prop := ∀ k g, F k = some g → ∀ f f', V8 f f' → g f = g f'
theorem aL_8 {F : LF} (h : L8 F) {k : Nat} {f f' : Nat → Int32} (hv : V8 f f') (plain most : Int32) : aL F k f plain most = aL F k f' plain most := by
  unfold aL
  cases hF : F k with
  | none => rfl
  | some g => simp only; rw [h k g hF f f' hv]
/-- it writes only variables -/
def Vr (S S' : Mem) : Prop := S'.1 = S.1 ∧ (∀ f, f ≠ 53 → S'.2.1 0 f = S.2.1 0 f) ∧ S'.2.2 = S.2.2
theorem Vr.fr {S S' : Mem} (h : Vr S S') : Fr S S' := ⟨fun k _ => by rw [h.1], fun f hf => h.2.1 f (fun e => hf (by rw [e]; unfold scA; decide)), h.2.2⟩
theorem gv {α : Type} {k : Option α} (i : Int32) (j : Nat) (e : i = nI j) (h : j < 8) : gIn i 8 k = k := gIn_l i j e h (by decide)
theorem Mo_setsWell {v : Nat} {T : TX} {S : Mem} {r : RW} (hN : TN T) (hT : TV v T S) (hr : MR r S) {w : Nat} (hw : w < 4) : Ok (fun S' => Vr S S' ∧ ∀ k4 k7, V8 (fun k => if k = 4 then k4 else if k = 7 then k7 else S'.2.1 0 53 k) (var8 (r 35) (dp T r w) (r w) 0 k4 0 (bits (drk T r w)) k7)) (f_Mo_setsWell (nI w) S) := by
  sorry
