/-! THE ROWS: G X V nL Q pc lv st S: with the memory S in the heap, the locals lv and the stack st, at pc, the machine comes to Q. -/
abbrev CX : Type := Program × Launch × Env × Room × State × MethodId × Array Value × List Frame × Method × Code × (Nat → Prop) × Nat × Nat
def lp (ls : Array Slot) (nL : Nat) (lv : List (Option Value)) : Prop := ls.size = nL ∧ lv_wf ls ∧ ∀ (i : Nat) (v : Value), lv[i]? = some (some v) → ls[i]? = some (.val v)
def G (X : CX) (V : WV) (nL : Nat) (Q : State → Prop) (pc : Nat) (lv : List (Option Value)) (st : List Value) (S : Mem) : Prop :=
  match X with
  | (p, l, e, R, s, m, args, below, meth, c, A, nc, ns) => ∀ (H : Heap) (locs : List Loc) (ls : Array Slot), va_P V.1 vwCl (WD V S) H → va_S A s.heap H locs → lp ls nL lv → W p l e R s m args below meth c H locs nc ns Q (F0 m pc ls st)
def Ck (X : CX) (V : WV) (cc : ByteArray) (nL : Nat) (own : String) (ret : Option FieldType) (fr lo : Nat) : Prop :=
  match X with
  | (p, _, _, R, s, m, args, _, meth, c, A, nc, ns) => p.tables.exec = Jvm.exec ∧ c.code = cc ∧ c.maxLocals = nL ∧ s.vm.findClass own = some m.cls ∧ (∀ w ∈ gTbl, w.before args s = true) ∧ meth.locks = false ∧ meth.sig.returnType = ret ∧ va_K V.1 vwCl (tyV V) s ∧ (∀ S, va_D A (WD V S)) ∧ VOk V ∧ fr ≤ R.frames ∧ lo ≤ R.locals ∧ SK V A s ∧ (∀ q, AV V q → A q) ∧ nc ≤ R.cells ∧ ns ≤ R.slots ∧ (∀ S, va_D (AV V) (WD V S))
def gIn {α : Type} (i : Int32) (n : Nat) (k : Option α) : Option α := if i < 0 ∨ n ≤ i.toNatClampNeg then none else k
theorem gIn_some {α : Type} {i : Int32} {n : Nat} {k : Option α} {r : α} (h : gIn i n k = some r) : vp_in i n ∧ k = some r := by
  unfold gIn at h
  by_cases c : i < 0 ∨ n ≤ i.toNatClampNeg
  · rw [if_pos c] at h; cases h
  · rw [if_neg c] at h; exact ⟨c, h⟩
theorem gIn_in {α : Type} {i : Int32} {n : Nat} {k : Option α} (h : vp_in i n) : gIn i n k = k := if_neg h
/-- a division: by 0 it is none -/
def gNz {α : Type} (y : Int32) (k : Option α) : Option α := if y = 0 then none else k
theorem gNz_some {α : Type} {y : Int32} {k : Option α} {r : α} (h : gNz y k = some r) : ¬ y = 0 ∧ k = some r := by
  unfold gNz at h
  by_cases c : y = 0
  · rw [if_pos c] at h; cases h
  · rw [if_neg c] at h; exact ⟨c, h⟩
/-- a boolean's answer is 0 or 1 -/
def gZ {α : Type} (y : Int32) (k : Option α) : Option α := if y = 0 ∨ y = 1 then k else none
theorem gZ_some {α : Type} {y : Int32} {k : Option α} {r : α} (h : gZ y k = some r) : (y = 0 ∨ y = 1) ∧ k = some r := by
  unfold gZ at h
  by_cases c : y = 0 ∨ y = 1
  · rw [if_pos c] at h; exact ⟨c, h⟩
  · rw [if_neg c] at h; cases h
def gCp {α : Type} (sp dp n : Int32) (n0 n1 : Nat) (k : Option α) : Option α := if sp < 0 ∨ dp < 0 ∨ n < 0 ∨ n0 < sp.toNatClampNeg + n.toNatClampNeg ∨ n1 < dp.toNatClampNeg + n.toNatClampNeg then none else k
def klL : Option Value → Option Value
  | some (.long _) => none
  | some (.double _) => none
  | u => u
def lvSt : List (Option Value) → Nat → Value → List (Option Value)
  | [], _, _ => []
  | _ :: t, 0, v => some v :: t
  | u :: t, 1, v => klL u :: lvSt t 0 v
  | u :: t, i + 2, v => u :: lvSt t (i + 1) v
theorem lvSt_get : ∀ (lv : List (Option Value)) (i : Nat) (w : Value) (j : Nat) (v : Value), (lvSt lv i w)[j]? = some (some v) → (j = i ∧ v = w) ∨ (j ≠ i ∧ lv[j]? = some (some v) ∧ ¬ (j + 1 = i ∧ v.category = 2))
  | [], i, w, j, v, h => by simp [lvSt] at h
  | u :: t, 0, w, 0, v, h => by
    simp [lvSt] at h
    exact Or.inl ⟨rfl, h.symm⟩
  | u :: t, 0, w, j + 1, v, h => by
    simp [lvSt] at h
    exact Or.inr ⟨by omega, by simpa using h, by omega⟩
  | u :: t, 1, w, 0, v, h => by
    simp [lvSt] at h
    refine Or.inr ⟨by omega, ?_, fun q => ?_⟩
    · match u, h with
      | some (.int _), h => simpa [klL] using h
      | some (.ref _), h => simpa [klL] using h
      | some .null, h => simpa [klL] using h
      | some (.retAddr _), h => simpa [klL] using h
      | some (.float _), h => simpa [klL] using h
      | some (.long _), h => simp [klL] at h
      | some (.double _), h => simp [klL] at h
      | none, h => simp [klL] at h
    · match u, h, q.2 with
      | some (.int _), h, q => simp [klL] at h; rw [← h] at q; simp [Value.category] at q
      | some (.ref _), h, q => simp [klL] at h; rw [← h] at q; simp [Value.category] at q
      | some .null, h, q => simp [klL] at h; rw [← h] at q; simp [Value.category] at q
      | some (.retAddr _), h, q => simp [klL] at h; rw [← h] at q; simp [Value.category] at q
      | some (.float _), h, q => simp [klL] at h; rw [← h] at q; simp [Value.category] at q
      | some (.long _), h, q => simp [klL] at h
      | some (.double _), h, q => simp [klL] at h
      | none, h, q => simp [klL] at h
  | u :: t, 1, w, j + 1, v, h => by
    simp only [lvSt, List.getElem?_cons_succ] at h
    rcases lvSt_get t 0 w j v h with q | q
    · exact Or.inl ⟨by omega, q.2⟩
    · exact Or.inr ⟨by omega, by simpa using q.2.1, fun z => by omega⟩
  | u :: t, i + 2, w, 0, v, h => by
    simp [lvSt] at h
    exact Or.inr ⟨by omega, by simpa using h, by omega⟩
  | u :: t, i + 2, w, j + 1, v, h => by
    simp only [lvSt, List.getElem?_cons_succ] at h
    rcases lvSt_get t (i + 1) w j v h with q | q
    · exact Or.inl ⟨by omega, q.2⟩
    · exact Or.inr ⟨by omega, by simpa using q.2.1, fun z => q.2.2 ⟨by omega, z.2⟩⟩
def lvSL (lv : List (Option Value)) (i : Nat) (v : Value) : List (Option Value) := (lvSt lv i v).set (i + 1) none
def lvPr (lv : List (Option Value)) : List (Nat × Value) := (List.range lv.length).filterMap (fun i => match lv[i]? with | some (some v) => some (i, v) | _ => none)
theorem lvPr_mem {lv : List (Option Value)} {q : Nat × Value} : q ∈ lvPr lv ↔ lv[q.1]? = some (some q.2) := by
  unfold lvPr
  rw [List.mem_filterMap]
  constructor
  · rintro ⟨i, hi, h⟩
    cases hv : lv[i]? with
    | none => rw [hv] at h; simp at h
    | some u =>
      rw [hv] at h
      cases u with
      | none => simp at h
      | some v => simp at h; rw [← h]; exact hv
  · intro h
    refine ⟨q.1, List.mem_range.mpr (List.getElem?_eq_some_iff.mp h).1, ?_⟩
    rw [h]
theorem lp_has {ls : Array Slot} {nL : Nat} {lv : List (Option Value)} (h : lp ls nL lv) : lv_has ls nL (lvPr lv) := ⟨h.1, h.2.1, fun q hq => h.2.2 q.1 q.2 (lvPr_mem.mp hq)⟩
theorem lp_st {ls' : Array Slot} {nL i : Nat} {lv : List (Option Value)} {w : Value} (h : lv_has ls' nL ((i, w) :: (lvPr lv).filter (fun q => !(q.1 == i) && !(q.1 + 1 == i && q.2.category == 2)))) : lp ls' nL (lvSt lv i w) := by
  refine ⟨h.1, h.2.1, fun j v hj => ?_⟩
  rcases lvSt_get lv i w j v hj with ⟨rfl, rfl⟩ | ⟨h1, h2, h3⟩
  · exact h.2.2 (j, v) List.mem_cons_self
  · refine h.2.2 (j, v) (List.mem_cons_of_mem _ (List.mem_filter.mpr ⟨lvPr_mem.mpr h2, ?_⟩))
    simp only [Bool.and_eq_true, Bool.not_eq_true', beq_eq_false_iff_ne, ne_eq, Bool.and_eq_false_imp, beq_iff_eq]
    exact ⟨h1, fun e => fun e2 => h3 ⟨e, e2⟩⟩
theorem lp_stL {ls' : Array Slot} {nL i : Nat} {lv : List (Option Value)} {w : Value} (h : lv_has ls' nL ((i, w) :: (lvPr lv).filter (fun q => !(q.1 == i) && (!(q.1 == i + 1) && !(q.1 + 1 == i && q.2.category == 2))))) : lp ls' nL (lvSL lv i w) := by
  refine ⟨h.1, h.2.1, fun j v hj => ?_⟩
  have hne : j ≠ i + 1 := by
    intro e
    subst e
    unfold lvSL at hj
    rw [List.getElem?_set] at hj
    simp at hj
  have hj : (lvSt lv i w)[j]? = some (some v) := by
    unfold lvSL at hj
    rwa [List.getElem?_set_ne (fun e => hne e.symm)] at hj
  rcases lvSt_get lv i w j v hj with ⟨rfl, rfl⟩ | ⟨h1, h2, h3⟩
  · exact h.2.2 (j, v) List.mem_cons_self
  · refine h.2.2 (j, v) (List.mem_cons_of_mem _ (List.mem_filter.mpr ⟨lvPr_mem.mpr h2, ?_⟩))
    simp only [Bool.and_eq_true, Bool.not_eq_true', beq_eq_false_iff_ne, ne_eq, Bool.and_eq_false_imp, beq_iff_eq]
    exact ⟨h1, hne, fun e => fun e2 => h3 ⟨e, e2⟩⟩
/-- the same place with fewer locals known -/
theorem g_less {X : CX} {V : WV} {nL : Nat} {Q : State → Prop} {pc : Nat} {lv lv' : List (Option Value)} {st : List Value} {S : Mem} (h : ∀ (i : Nat) (v : Value), lv'[i]? = some (some v) → lv[i]? = some (some v)) (k : G X V nL Q pc lv' st S) : G X V nL Q pc lv st S := by
  obtain ⟨p, l, e, R, s, m, args, below, meth, c, A, nc, ns⟩ := X
  exact fun H locs ls hP hS hl => k H locs ls hP hS ⟨hl.1, hl.2.1, fun i v q => hl.2.2 i v (h i v q)⟩
theorem g_iload_n {X : CX} {V : WV} {cc : ByteArray} {nL : Nat} {own : String} {ret : Option FieldType} {fr lo : Nat} {Q : State → Prop} {pc : Nat} {lv : List (Option Value)} {st : List Value} {S : Mem} (hC : Ck X V cc nL own ret fr lo) {j : Fin 4} {i : Nat} {x : Int32} (hi : (j : Nat) = i) (hg : lv[i]? = some (some (.int x))) (hd : decode cc pc = .ok (.iload_n j, 1))
    (k : G X V nL Q (pc + 1) (lv) (.int x :: st) (S)) : G X V nL Q pc lv (st) S := by
  obtain ⟨p, l, e, R, s, m, args, below, meth, c, A, nc, ns⟩ := X
  obtain ⟨hx, hb, hml, hown, hts, hlk, hr, hK, hD, hV, hfr, hlo, hSK, hAV, hnc, hns, hD0⟩ := hC
  exact fun H locs ls hP hS hl => lv_iload_n hx hb hd hi (hl.2.2 i _ hg) (k H locs ls hP hS hl)
theorem g_iload {X : CX} {V : WV} {cc : ByteArray} {nL : Nat} {own : String} {ret : Option FieldType} {fr lo : Nat} {Q : State → Prop} {pc : Nat} {lv : List (Option Value)} {st : List Value} {S : Mem} (hC : Ck X V cc nL own ret fr lo) {i : Nat} {x : Int32} (hg : lv[i]? = some (some (.int x))) (hd : decode cc pc = .ok (.iload i, 2))
    (k : G X V nL Q (pc + 2) (lv) (.int x :: st) (S)) : G X V nL Q pc lv (st) S := by
  obtain ⟨p, l, e, R, s, m, args, below, meth, c, A, nc, ns⟩ := X
  obtain ⟨hx, hb, hml, hown, hts, hlk, hr, hK, hD, hV, hfr, hlo, hSK, hAV, hnc, hns, hD0⟩ := hC
  exact fun H locs ls hP hS hl => lv_iload hx hb hd (hl.2.2 i _ hg) (k H locs ls hP hS hl)
theorem g_aload_n {X : CX} {V : WV} {cc : ByteArray} {nL : Nat} {own : String} {ret : Option FieldType} {fr lo : Nat} {Q : State → Prop} {pc : Nat} {lv : List (Option Value)} {st : List Value} {S : Mem} (hC : Ck X V cc nL own ret fr lo) {j : Fin 4} {i : Nat} {x : Nat} (hi : (j : Nat) = i) (hg : lv[i]? = some (some (.ref x))) (hd : decode cc pc = .ok (.aload_n j, 1))
    (k : G X V nL Q (pc + 1) (lv) (.ref x :: st) (S)) : G X V nL Q pc lv (st) S := by
  obtain ⟨p, l, e, R, s, m, args, below, meth, c, A, nc, ns⟩ := X
  obtain ⟨hx, hb, hml, hown, hts, hlk, hr, hK, hD, hV, hfr, hlo, hSK, hAV, hnc, hns, hD0⟩ := hC
  exact fun H locs ls hP hS hl => lv_aload_n hx hb hd hi (hl.2.2 i _ hg) (k H locs ls hP hS hl)
theorem g_aload {X : CX} {V : WV} {cc : ByteArray} {nL : Nat} {own : String} {ret : Option FieldType} {fr lo : Nat} {Q : State → Prop} {pc : Nat} {lv : List (Option Value)} {st : List Value} {S : Mem} (hC : Ck X V cc nL own ret fr lo) {i : Nat} {x : Nat} (hg : lv[i]? = some (some (.ref x))) (hd : decode cc pc = .ok (.aload i, 2))
    (k : G X V nL Q (pc + 2) (lv) (.ref x :: st) (S)) : G X V nL Q pc lv (st) S := by
  obtain ⟨p, l, e, R, s, m, args, below, meth, c, A, nc, ns⟩ := X
  obtain ⟨hx, hb, hml, hown, hts, hlk, hr, hK, hD, hV, hfr, hlo, hSK, hAV, hnc, hns, hD0⟩ := hC
  exact fun H locs ls hP hS hl => lv_aload hx hb hd (hl.2.2 i _ hg) (k H locs ls hP hS hl)
theorem g_lload_n {X : CX} {V : WV} {cc : ByteArray} {nL : Nat} {own : String} {ret : Option FieldType} {fr lo : Nat} {Q : State → Prop} {pc : Nat} {lv : List (Option Value)} {st : List Value} {S : Mem} (hC : Ck X V cc nL own ret fr lo) {j : Fin 4} {i : Nat} {x : Int64} (hi : (j : Nat) = i) (hg : lv[i]? = some (some (.long x))) (hd : decode cc pc = .ok (.lload_n j, 1))
    (k : G X V nL Q (pc + 1) (lv) (.long x :: st) (S)) : G X V nL Q pc lv (st) S := by
  obtain ⟨p, l, e, R, s, m, args, below, meth, c, A, nc, ns⟩ := X
  obtain ⟨hx, hb, hml, hown, hts, hlk, hr, hK, hD, hV, hfr, hlo, hSK, hAV, hnc, hns, hD0⟩ := hC
  exact fun H locs ls hP hS hl => lv_lload_n hx hb hd hi (hl.2.2 i _ hg) (k H locs ls hP hS hl)
theorem g_lload {X : CX} {V : WV} {cc : ByteArray} {nL : Nat} {own : String} {ret : Option FieldType} {fr lo : Nat} {Q : State → Prop} {pc : Nat} {lv : List (Option Value)} {st : List Value} {S : Mem} (hC : Ck X V cc nL own ret fr lo) {i : Nat} {x : Int64} (hg : lv[i]? = some (some (.long x))) (hd : decode cc pc = .ok (.lload i, 2))
    (k : G X V nL Q (pc + 2) (lv) (.long x :: st) (S)) : G X V nL Q pc lv (st) S := by
  obtain ⟨p, l, e, R, s, m, args, below, meth, c, A, nc, ns⟩ := X
  obtain ⟨hx, hb, hml, hown, hts, hlk, hr, hK, hD, hV, hfr, hlo, hSK, hAV, hnc, hns, hD0⟩ := hC
  exact fun H locs ls hP hS hl => lv_lload hx hb hd (hl.2.2 i _ hg) (k H locs ls hP hS hl)
theorem g_istore_n {X : CX} {V : WV} {cc : ByteArray} {nL : Nat} {own : String} {ret : Option FieldType} {fr lo : Nat} {Q : State → Prop} {pc : Nat} {lv : List (Option Value)} {st : List Value} {S : Mem} (hC : Ck X V cc nL own ret fr lo) {j : Fin 4} {i : Nat} {x : Int32} (hi : (j : Nat) = i) (hn : i < nL) (hd : decode cc pc = .ok (.istore_n j, 1))
    (k : G X V nL Q (pc + 1) (lvSt lv i (.int x)) (st) (S)) : G X V nL Q pc lv (.int x :: st) S := by
  obtain ⟨p, l, e, R, s, m, args, below, meth, c, A, nc, ns⟩ := X
  obtain ⟨hx, hb, hml, hown, hts, hlk, hr, hK, hD, hV, hfr, hlo, hSK, hAV, hnc, hns, hD0⟩ := hC
  exact fun H locs ls hP hS hl => lv_istore_n hx hb hd hi (lp_has hl) hn rfl (fun ls2 hl2 => k H locs ls2 hP hS (lp_st hl2))
theorem g_istore {X : CX} {V : WV} {cc : ByteArray} {nL : Nat} {own : String} {ret : Option FieldType} {fr lo : Nat} {Q : State → Prop} {pc : Nat} {lv : List (Option Value)} {st : List Value} {S : Mem} (hC : Ck X V cc nL own ret fr lo) {i : Nat} {x : Int32} (hn : i < nL) (hd : decode cc pc = .ok (.istore i, 2))
    (k : G X V nL Q (pc + 2) (lvSt lv i (.int x)) (st) (S)) : G X V nL Q pc lv (.int x :: st) S := by
  obtain ⟨p, l, e, R, s, m, args, below, meth, c, A, nc, ns⟩ := X
  obtain ⟨hx, hb, hml, hown, hts, hlk, hr, hK, hD, hV, hfr, hlo, hSK, hAV, hnc, hns, hD0⟩ := hC
  exact fun H locs ls hP hS hl => lv_istore hx hb hd (lp_has hl) hn rfl (fun ls2 hl2 => k H locs ls2 hP hS (lp_st hl2))
theorem g_astore_n {X : CX} {V : WV} {cc : ByteArray} {nL : Nat} {own : String} {ret : Option FieldType} {fr lo : Nat} {Q : State → Prop} {pc : Nat} {lv : List (Option Value)} {st : List Value} {S : Mem} (hC : Ck X V cc nL own ret fr lo) {j : Fin 4} {i : Nat} {x : Nat} (hi : (j : Nat) = i) (hn : i < nL) (hd : decode cc pc = .ok (.astore_n j, 1))
    (k : G X V nL Q (pc + 1) (lvSt lv i (.ref x)) (st) (S)) : G X V nL Q pc lv (.ref x :: st) S := by
  obtain ⟨p, l, e, R, s, m, args, below, meth, c, A, nc, ns⟩ := X
  obtain ⟨hx, hb, hml, hown, hts, hlk, hr, hK, hD, hV, hfr, hlo, hSK, hAV, hnc, hns, hD0⟩ := hC
  exact fun H locs ls hP hS hl => lv_astore_n hx hb hd hi (lp_has hl) hn rfl (fun ls2 hl2 => k H locs ls2 hP hS (lp_st hl2))
theorem g_astore {X : CX} {V : WV} {cc : ByteArray} {nL : Nat} {own : String} {ret : Option FieldType} {fr lo : Nat} {Q : State → Prop} {pc : Nat} {lv : List (Option Value)} {st : List Value} {S : Mem} (hC : Ck X V cc nL own ret fr lo) {i : Nat} {x : Nat} (hn : i < nL) (hd : decode cc pc = .ok (.astore i, 2))
    (k : G X V nL Q (pc + 2) (lvSt lv i (.ref x)) (st) (S)) : G X V nL Q pc lv (.ref x :: st) S := by
  obtain ⟨p, l, e, R, s, m, args, below, meth, c, A, nc, ns⟩ := X
  obtain ⟨hx, hb, hml, hown, hts, hlk, hr, hK, hD, hV, hfr, hlo, hSK, hAV, hnc, hns, hD0⟩ := hC
  exact fun H locs ls hP hS hl => lv_astore hx hb hd (lp_has hl) hn rfl (fun ls2 hl2 => k H locs ls2 hP hS (lp_st hl2))
theorem g_lstore_n {X : CX} {V : WV} {cc : ByteArray} {nL : Nat} {own : String} {ret : Option FieldType} {fr lo : Nat} {Q : State → Prop} {pc : Nat} {lv : List (Option Value)} {st : List Value} {S : Mem} (hC : Ck X V cc nL own ret fr lo) {j : Fin 4} {i : Nat} {x : Int64} (hi : (j : Nat) = i) (hn : i + 1 < nL) (hd : decode cc pc = .ok (.lstore_n j, 1))
    (k : G X V nL Q (pc + 1) (lvSL lv i (.long x)) (st) (S)) : G X V nL Q pc lv (.long x :: st) S := by
  obtain ⟨p, l, e, R, s, m, args, below, meth, c, A, nc, ns⟩ := X
  obtain ⟨hx, hb, hml, hown, hts, hlk, hr, hK, hD, hV, hfr, hlo, hSK, hAV, hnc, hns, hD0⟩ := hC
  exact fun H locs ls hP hS hl => lv_lstore_n hx hb hd hi (lp_has hl) hn rfl (fun ls2 hl2 => k H locs ls2 hP hS (lp_stL hl2))
theorem g_lstore {X : CX} {V : WV} {cc : ByteArray} {nL : Nat} {own : String} {ret : Option FieldType} {fr lo : Nat} {Q : State → Prop} {pc : Nat} {lv : List (Option Value)} {st : List Value} {S : Mem} (hC : Ck X V cc nL own ret fr lo) {i : Nat} {x : Int64} (hn : i + 1 < nL) (hd : decode cc pc = .ok (.lstore i, 2))
    (k : G X V nL Q (pc + 2) (lvSL lv i (.long x)) (st) (S)) : G X V nL Q pc lv (.long x :: st) S := by
  obtain ⟨p, l, e, R, s, m, args, below, meth, c, A, nc, ns⟩ := X
  obtain ⟨hx, hb, hml, hown, hts, hlk, hr, hK, hD, hV, hfr, hlo, hSK, hAV, hnc, hns, hD0⟩ := hC
  exact fun H locs ls hP hS hl => lv_lstore hx hb hd (lp_has hl) hn rfl (fun ls2 hl2 => k H locs ls2 hP hS (lp_stL hl2))
theorem g_iinc {X : CX} {V : WV} {cc : ByteArray} {nL : Nat} {own : String} {ret : Option FieldType} {fr lo : Nat} {Q : State → Prop} {pc : Nat} {lv : List (Option Value)} {st : List Value} {S : Mem} (hC : Ck X V cc nL own ret fr lo) {i : Nat} {n : Int} {x v : Int32} (hg : lv[i]? = some (some (.int x))) (hv : x + Int32.ofInt n = v) (hn : i < nL) (hd : decode cc pc = .ok (.iinc i n, 3))
    (k : G X V nL Q (pc + 3) (lvSt lv i (.int v)) st S) : G X V nL Q pc lv st S := by
  obtain ⟨p, l, e, R, s, m, args, below, meth, c, A, nc, ns⟩ := X
  obtain ⟨hx, hb, hml, hown, hts, hlk, hr, hK, hD, hV, hfr, hlo, hSK, hAV, hnc, hns, hD0⟩ := hC
  obtain ⟨j, hj⟩ := List.getElem?_of_mem ((lvPr_mem (q := (i, .int x))).mpr hg)
  exact fun H locs ls hP hS hl => lv_iinc hx hb hd (lp_has hl) hj hv hn rfl (fun ls2 hl2 => k H locs ls2 hP hS (lp_st hl2))
theorem g_iconst {X : CX} {V : WV} {cc : ByteArray} {nL : Nat} {own : String} {ret : Option FieldType} {fr lo : Nat} {Q : State → Prop} {pc : Nat} {lv : List (Option Value)} {st : List Value} {S : Mem} (hC : Ck X V cc nL own ret fr lo) {n : Int} {v : Int32} (hv : Int32.ofInt n = v) (hd : decode cc pc = .ok (.iconst n, 1))
    (k : G X V nL Q (pc + 1) (lv) (.int v :: st) (S)) : G X V nL Q pc lv (st) S := by
  obtain ⟨p, l, e, R, s, m, args, below, meth, c, A, nc, ns⟩ := X
  obtain ⟨hx, hb, hml, hown, hts, hlk, hr, hK, hD, hV, hfr, hlo, hSK, hAV, hnc, hns, hD0⟩ := hC
  exact fun H locs ls hP hS hl => lv_iconst hx hb hd hv (k H locs ls hP hS hl)
theorem g_bipush {X : CX} {V : WV} {cc : ByteArray} {nL : Nat} {own : String} {ret : Option FieldType} {fr lo : Nat} {Q : State → Prop} {pc : Nat} {lv : List (Option Value)} {st : List Value} {S : Mem} (hC : Ck X V cc nL own ret fr lo) {n : Int} {v : Int32} (hv : (Int8.ofInt n).toInt32 = v) (hd : decode cc pc = .ok (.bipush n, 2))
    (k : G X V nL Q (pc + 2) (lv) (.int v :: st) (S)) : G X V nL Q pc lv (st) S := by
  obtain ⟨p, l, e, R, s, m, args, below, meth, c, A, nc, ns⟩ := X
  obtain ⟨hx, hb, hml, hown, hts, hlk, hr, hK, hD, hV, hfr, hlo, hSK, hAV, hnc, hns, hD0⟩ := hC
  exact fun H locs ls hP hS hl => lv_bipush hx hb hd hv (k H locs ls hP hS hl)
theorem g_sipush {X : CX} {V : WV} {cc : ByteArray} {nL : Nat} {own : String} {ret : Option FieldType} {fr lo : Nat} {Q : State → Prop} {pc : Nat} {lv : List (Option Value)} {st : List Value} {S : Mem} (hC : Ck X V cc nL own ret fr lo) {n : Int} {v : Int32} (hv : (Int16.ofInt n).toInt32 = v) (hd : decode cc pc = .ok (.sipush n, 3))
    (k : G X V nL Q (pc + 3) (lv) (.int v :: st) (S)) : G X V nL Q pc lv (st) S := by
  obtain ⟨p, l, e, R, s, m, args, below, meth, c, A, nc, ns⟩ := X
  obtain ⟨hx, hb, hml, hown, hts, hlk, hr, hK, hD, hV, hfr, hlo, hSK, hAV, hnc, hns, hD0⟩ := hC
  exact fun H locs ls hP hS hl => lv_sipush hx hb hd hv (k H locs ls hP hS hl)
theorem g_lconst {X : CX} {V : WV} {cc : ByteArray} {nL : Nat} {own : String} {ret : Option FieldType} {fr lo : Nat} {Q : State → Prop} {pc : Nat} {lv : List (Option Value)} {st : List Value} {S : Mem} (hC : Ck X V cc nL own ret fr lo) {n : Fin 2} {v : Int64} (hv : Int64.ofNat (n : Nat) = v) (hd : decode cc pc = .ok (.lconst n, 1))
    (k : G X V nL Q (pc + 1) (lv) (.long v :: st) (S)) : G X V nL Q pc lv (st) S := by
  obtain ⟨p, l, e, R, s, m, args, below, meth, c, A, nc, ns⟩ := X
  obtain ⟨hx, hb, hml, hown, hts, hlk, hr, hK, hD, hV, hfr, hlo, hSK, hAV, hnc, hns, hD0⟩ := hC
  exact fun H locs ls hP hS hl => lv_lconst hx hb hd hv (k H locs ls hP hS hl)
theorem g_ldc {X : CX} {V : WV} {cc : ByteArray} {nL : Nat} {own : String} {ret : Option FieldType} {fr lo : Nat} {Q : State → Prop} {pc : Nat} {lv : List (Option Value)} {st : List Value} {S : Mem} (hC : Ck X V cc nL own ret fr lo) {index : Nat} {v : Int32} (hw : Cond.constant own index v ∈ gTbl) (hd : decode cc pc = .ok (.ldc index, 2))
    (k : G X V nL Q (pc + 2) (lv) (.int v :: st) (S)) : G X V nL Q pc lv (st) S := by
  obtain ⟨p, l, e, R, s, m, args, below, meth, c, A, nc, ns⟩ := X
  obtain ⟨hx, hb, hml, hown, hts, hlk, hr, hK, hD, hV, hfr, hlo, hSK, hAV, hnc, hns, hD0⟩ := hC
  exact fun H locs ls hP hS hl => lv_ldc hx hb hown (hts _ hw) hd (k H locs ls hP hS hl)
theorem g_ldcw {X : CX} {V : WV} {cc : ByteArray} {nL : Nat} {own : String} {ret : Option FieldType} {fr lo : Nat} {Q : State → Prop} {pc : Nat} {lv : List (Option Value)} {st : List Value} {S : Mem} (hC : Ck X V cc nL own ret fr lo) {index : Nat} {v : Int32} (hw : Cond.constant own index v ∈ gTbl) (hd : decode cc pc = .ok (.ldc_w index, 3))
    (k : G X V nL Q (pc + 3) (lv) (.int v :: st) (S)) : G X V nL Q pc lv (st) S := by
  obtain ⟨p, l, e, R, s, m, args, below, meth, c, A, nc, ns⟩ := X
  obtain ⟨hx, hb, hml, hown, hts, hlk, hr, hK, hD, hV, hfr, hlo, hSK, hAV, hnc, hns, hD0⟩ := hC
  exact fun H locs ls hP hS hl => lv_ldcw hx hb hown (hts _ hw) hd (k H locs ls hP hS hl)
theorem g_ldc2 {X : CX} {V : WV} {cc : ByteArray} {nL : Nat} {own : String} {ret : Option FieldType} {fr lo : Nat} {Q : State → Prop} {pc : Nat} {lv : List (Option Value)} {st : List Value} {S : Mem} (hC : Ck X V cc nL own ret fr lo) {index : Nat} {v : Int64} (hw : Cond.constantLong own index v ∈ gTbl) (hd : decode cc pc = .ok (.ldc2_w index, 3))
    (k : G X V nL Q (pc + 3) (lv) (.long v :: st) (S)) : G X V nL Q pc lv (st) S := by
  obtain ⟨p, l, e, R, s, m, args, below, meth, c, A, nc, ns⟩ := X
  obtain ⟨hx, hb, hml, hown, hts, hlk, hr, hK, hD, hV, hfr, hlo, hSK, hAV, hnc, hns, hD0⟩ := hC
  exact fun H locs ls hP hS hl => lv_ldc2 hx hb hown (hts _ hw) hd (k H locs ls hP hS hl)
theorem g_iadd {X : CX} {V : WV} {cc : ByteArray} {nL : Nat} {own : String} {ret : Option FieldType} {fr lo : Nat} {Q : State → Prop} {pc : Nat} {lv : List (Option Value)} {st : List Value} {S : Mem} (hC : Ck X V cc nL own ret fr lo) {x y : Int32} (hd : decode cc pc = .ok (.iadd, 1))
    (k : G X V nL Q (pc + 1) (lv) (.int (x + y) :: st) (S)) : G X V nL Q pc lv (.int y :: .int x :: st) S := by
  obtain ⟨p, l, e, R, s, m, args, below, meth, c, A, nc, ns⟩ := X
  obtain ⟨hx, hb, hml, hown, hts, hlk, hr, hK, hD, hV, hfr, hlo, hSK, hAV, hnc, hns, hD0⟩ := hC
  exact fun H locs ls hP hS hl => lv_iadd hx hb hd (k H locs ls hP hS hl)
theorem g_isub {X : CX} {V : WV} {cc : ByteArray} {nL : Nat} {own : String} {ret : Option FieldType} {fr lo : Nat} {Q : State → Prop} {pc : Nat} {lv : List (Option Value)} {st : List Value} {S : Mem} (hC : Ck X V cc nL own ret fr lo) {x y : Int32} (hd : decode cc pc = .ok (.isub, 1))
    (k : G X V nL Q (pc + 1) (lv) (.int (x - y) :: st) (S)) : G X V nL Q pc lv (.int y :: .int x :: st) S := by
  obtain ⟨p, l, e, R, s, m, args, below, meth, c, A, nc, ns⟩ := X
  obtain ⟨hx, hb, hml, hown, hts, hlk, hr, hK, hD, hV, hfr, hlo, hSK, hAV, hnc, hns, hD0⟩ := hC
  exact fun H locs ls hP hS hl => lv_isub hx hb hd (k H locs ls hP hS hl)
theorem g_imul {X : CX} {V : WV} {cc : ByteArray} {nL : Nat} {own : String} {ret : Option FieldType} {fr lo : Nat} {Q : State → Prop} {pc : Nat} {lv : List (Option Value)} {st : List Value} {S : Mem} (hC : Ck X V cc nL own ret fr lo) {x y : Int32} (hd : decode cc pc = .ok (.imul, 1))
    (k : G X V nL Q (pc + 1) (lv) (.int (x * y) :: st) (S)) : G X V nL Q pc lv (.int y :: .int x :: st) S := by
  obtain ⟨p, l, e, R, s, m, args, below, meth, c, A, nc, ns⟩ := X
  obtain ⟨hx, hb, hml, hown, hts, hlk, hr, hK, hD, hV, hfr, hlo, hSK, hAV, hnc, hns, hD0⟩ := hC
  exact fun H locs ls hP hS hl => lv_imul hx hb hd (k H locs ls hP hS hl)
theorem g_iand {X : CX} {V : WV} {cc : ByteArray} {nL : Nat} {own : String} {ret : Option FieldType} {fr lo : Nat} {Q : State → Prop} {pc : Nat} {lv : List (Option Value)} {st : List Value} {S : Mem} (hC : Ck X V cc nL own ret fr lo) {x y : Int32} (hd : decode cc pc = .ok (.iand, 1))
    (k : G X V nL Q (pc + 1) (lv) (.int (x &&& y) :: st) (S)) : G X V nL Q pc lv (.int y :: .int x :: st) S := by
  obtain ⟨p, l, e, R, s, m, args, below, meth, c, A, nc, ns⟩ := X
  obtain ⟨hx, hb, hml, hown, hts, hlk, hr, hK, hD, hV, hfr, hlo, hSK, hAV, hnc, hns, hD0⟩ := hC
  exact fun H locs ls hP hS hl => lv_iand hx hb hd (k H locs ls hP hS hl)
theorem g_ior {X : CX} {V : WV} {cc : ByteArray} {nL : Nat} {own : String} {ret : Option FieldType} {fr lo : Nat} {Q : State → Prop} {pc : Nat} {lv : List (Option Value)} {st : List Value} {S : Mem} (hC : Ck X V cc nL own ret fr lo) {x y : Int32} (hd : decode cc pc = .ok (.ior, 1))
    (k : G X V nL Q (pc + 1) (lv) (.int (x ||| y) :: st) (S)) : G X V nL Q pc lv (.int y :: .int x :: st) S := by
  obtain ⟨p, l, e, R, s, m, args, below, meth, c, A, nc, ns⟩ := X
  obtain ⟨hx, hb, hml, hown, hts, hlk, hr, hK, hD, hV, hfr, hlo, hSK, hAV, hnc, hns, hD0⟩ := hC
  exact fun H locs ls hP hS hl => lv_ior hx hb hd (k H locs ls hP hS hl)
theorem g_ixor {X : CX} {V : WV} {cc : ByteArray} {nL : Nat} {own : String} {ret : Option FieldType} {fr lo : Nat} {Q : State → Prop} {pc : Nat} {lv : List (Option Value)} {st : List Value} {S : Mem} (hC : Ck X V cc nL own ret fr lo) {x y : Int32} (hd : decode cc pc = .ok (.ixor, 1))
    (k : G X V nL Q (pc + 1) (lv) (.int (x ^^^ y) :: st) (S)) : G X V nL Q pc lv (.int y :: .int x :: st) S := by
  obtain ⟨p, l, e, R, s, m, args, below, meth, c, A, nc, ns⟩ := X
  obtain ⟨hx, hb, hml, hown, hts, hlk, hr, hK, hD, hV, hfr, hlo, hSK, hAV, hnc, hns, hD0⟩ := hC
  exact fun H locs ls hP hS hl => lv_ixor hx hb hd (k H locs ls hP hS hl)
theorem g_ishl {X : CX} {V : WV} {cc : ByteArray} {nL : Nat} {own : String} {ret : Option FieldType} {fr lo : Nat} {Q : State → Prop} {pc : Nat} {lv : List (Option Value)} {st : List Value} {S : Mem} (hC : Ck X V cc nL own ret fr lo) {x y : Int32} (hd : decode cc pc = .ok (.ishl, 1))
    (k : G X V nL Q (pc + 1) (lv) (.int (x <<< (y &&& 31)) :: st) (S)) : G X V nL Q pc lv (.int y :: .int x :: st) S := by
  obtain ⟨p, l, e, R, s, m, args, below, meth, c, A, nc, ns⟩ := X
  obtain ⟨hx, hb, hml, hown, hts, hlk, hr, hK, hD, hV, hfr, hlo, hSK, hAV, hnc, hns, hD0⟩ := hC
  exact fun H locs ls hP hS hl => lv_ishl hx hb hd (k H locs ls hP hS hl)
theorem g_ishr {X : CX} {V : WV} {cc : ByteArray} {nL : Nat} {own : String} {ret : Option FieldType} {fr lo : Nat} {Q : State → Prop} {pc : Nat} {lv : List (Option Value)} {st : List Value} {S : Mem} (hC : Ck X V cc nL own ret fr lo) {x y : Int32} (hd : decode cc pc = .ok (.ishr, 1))
    (k : G X V nL Q (pc + 1) (lv) (.int (x >>> (y &&& 31)) :: st) (S)) : G X V nL Q pc lv (.int y :: .int x :: st) S := by
  obtain ⟨p, l, e, R, s, m, args, below, meth, c, A, nc, ns⟩ := X
  obtain ⟨hx, hb, hml, hown, hts, hlk, hr, hK, hD, hV, hfr, hlo, hSK, hAV, hnc, hns, hD0⟩ := hC
  exact fun H locs ls hP hS hl => lv_ishr hx hb hd (k H locs ls hP hS hl)
def jUshr (x y : Int32) : Int32 := (x.toUInt32 >>> (y.toUInt32 &&& Int32.toUInt32 31)).toInt32
theorem g_iushr {X : CX} {V : WV} {cc : ByteArray} {nL : Nat} {own : String} {ret : Option FieldType} {fr lo : Nat} {Q : State → Prop} {pc : Nat} {lv : List (Option Value)} {st : List Value} {S : Mem} (hC : Ck X V cc nL own ret fr lo) {x y : Int32} (hd : decode cc pc = .ok (.iushr, 1))
    (k : G X V nL Q (pc + 1) (lv) (.int (jUshr x y) :: st) (S)) : G X V nL Q pc lv (.int y :: .int x :: st) S := by
  obtain ⟨p, l, e, R, s, m, args, below, meth, c, A, nc, ns⟩ := X
  obtain ⟨hx, hb, hml, hown, hts, hlk, hr, hK, hD, hV, hfr, hlo, hSK, hAV, hnc, hns, hD0⟩ := hC
  exact fun H locs ls hP hS hl => lv_iushr hx hb hd rfl (k H locs ls hP hS hl)
theorem g_ladd {X : CX} {V : WV} {cc : ByteArray} {nL : Nat} {own : String} {ret : Option FieldType} {fr lo : Nat} {Q : State → Prop} {pc : Nat} {lv : List (Option Value)} {st : List Value} {S : Mem} (hC : Ck X V cc nL own ret fr lo) {x y : Int64} (hd : decode cc pc = .ok (.ladd, 1))
    (k : G X V nL Q (pc + 1) (lv) (.long (x + y) :: st) (S)) : G X V nL Q pc lv (.long y :: .long x :: st) S := by
  obtain ⟨p, l, e, R, s, m, args, below, meth, c, A, nc, ns⟩ := X
  obtain ⟨hx, hb, hml, hown, hts, hlk, hr, hK, hD, hV, hfr, hlo, hSK, hAV, hnc, hns, hD0⟩ := hC
  exact fun H locs ls hP hS hl => lv_ladd hx hb hd (k H locs ls hP hS hl)
theorem g_lsub {X : CX} {V : WV} {cc : ByteArray} {nL : Nat} {own : String} {ret : Option FieldType} {fr lo : Nat} {Q : State → Prop} {pc : Nat} {lv : List (Option Value)} {st : List Value} {S : Mem} (hC : Ck X V cc nL own ret fr lo) {x y : Int64} (hd : decode cc pc = .ok (.lsub, 1))
    (k : G X V nL Q (pc + 1) (lv) (.long (x - y) :: st) (S)) : G X V nL Q pc lv (.long y :: .long x :: st) S := by
  obtain ⟨p, l, e, R, s, m, args, below, meth, c, A, nc, ns⟩ := X
  obtain ⟨hx, hb, hml, hown, hts, hlk, hr, hK, hD, hV, hfr, hlo, hSK, hAV, hnc, hns, hD0⟩ := hC
  exact fun H locs ls hP hS hl => lv_lsub hx hb hd (k H locs ls hP hS hl)
theorem g_lmul {X : CX} {V : WV} {cc : ByteArray} {nL : Nat} {own : String} {ret : Option FieldType} {fr lo : Nat} {Q : State → Prop} {pc : Nat} {lv : List (Option Value)} {st : List Value} {S : Mem} (hC : Ck X V cc nL own ret fr lo) {x y : Int64} (hd : decode cc pc = .ok (.lmul, 1))
    (k : G X V nL Q (pc + 1) (lv) (.long (x * y) :: st) (S)) : G X V nL Q pc lv (.long y :: .long x :: st) S := by
  obtain ⟨p, l, e, R, s, m, args, below, meth, c, A, nc, ns⟩ := X
  obtain ⟨hx, hb, hml, hown, hts, hlk, hr, hK, hD, hV, hfr, hlo, hSK, hAV, hnc, hns, hD0⟩ := hC
  exact fun H locs ls hP hS hl => lv_lmul hx hb hd (k H locs ls hP hS hl)
theorem g_i2b {X : CX} {V : WV} {cc : ByteArray} {nL : Nat} {own : String} {ret : Option FieldType} {fr lo : Nat} {Q : State → Prop} {pc : Nat} {lv : List (Option Value)} {st : List Value} {S : Mem} (hC : Ck X V cc nL own ret fr lo) {x : Int32} (hd : decode cc pc = .ok (.i2b, 1))
    (k : G X V nL Q (pc + 1) (lv) (.int x.toInt8.toInt32 :: st) (S)) : G X V nL Q pc lv (.int x :: st) S := by
  obtain ⟨p, l, e, R, s, m, args, below, meth, c, A, nc, ns⟩ := X
  obtain ⟨hx, hb, hml, hown, hts, hlk, hr, hK, hD, hV, hfr, hlo, hSK, hAV, hnc, hns, hD0⟩ := hC
  exact fun H locs ls hP hS hl => lv_i2b hx hb hd rfl (k H locs ls hP hS hl)
theorem g_i2c {X : CX} {V : WV} {cc : ByteArray} {nL : Nat} {own : String} {ret : Option FieldType} {fr lo : Nat} {Q : State → Prop} {pc : Nat} {lv : List (Option Value)} {st : List Value} {S : Mem} (hC : Ck X V cc nL own ret fr lo) {x : Int32} (hd : decode cc pc = .ok (.i2c, 1))
    (k : G X V nL Q (pc + 1) (lv) (.int (x.toUInt32 % 65536).toInt32 :: st) (S)) : G X V nL Q pc lv (.int x :: st) S := by
  obtain ⟨p, l, e, R, s, m, args, below, meth, c, A, nc, ns⟩ := X
  obtain ⟨hx, hb, hml, hown, hts, hlk, hr, hK, hD, hV, hfr, hlo, hSK, hAV, hnc, hns, hD0⟩ := hC
  exact fun H locs ls hP hS hl => lv_i2c hx hb hd rfl (k H locs ls hP hS hl)
theorem g_i2l {X : CX} {V : WV} {cc : ByteArray} {nL : Nat} {own : String} {ret : Option FieldType} {fr lo : Nat} {Q : State → Prop} {pc : Nat} {lv : List (Option Value)} {st : List Value} {S : Mem} (hC : Ck X V cc nL own ret fr lo) {x : Int32} (hd : decode cc pc = .ok (.i2l, 1))
    (k : G X V nL Q (pc + 1) (lv) (.long x.toInt64 :: st) (S)) : G X V nL Q pc lv (.int x :: st) S := by
  obtain ⟨p, l, e, R, s, m, args, below, meth, c, A, nc, ns⟩ := X
  obtain ⟨hx, hb, hml, hown, hts, hlk, hr, hK, hD, hV, hfr, hlo, hSK, hAV, hnc, hns, hD0⟩ := hC
  exact fun H locs ls hP hS hl => lv_i2l hx hb hd rfl (k H locs ls hP hS hl)
theorem g_l2i {X : CX} {V : WV} {cc : ByteArray} {nL : Nat} {own : String} {ret : Option FieldType} {fr lo : Nat} {Q : State → Prop} {pc : Nat} {lv : List (Option Value)} {st : List Value} {S : Mem} (hC : Ck X V cc nL own ret fr lo) {x : Int64} (hd : decode cc pc = .ok (.l2i, 1))
    (k : G X V nL Q (pc + 1) (lv) (.int x.toInt32 :: st) (S)) : G X V nL Q pc lv (.long x :: st) S := by
  obtain ⟨p, l, e, R, s, m, args, below, meth, c, A, nc, ns⟩ := X
  obtain ⟨hx, hb, hml, hown, hts, hlk, hr, hK, hD, hV, hfr, hlo, hSK, hAV, hnc, hns, hD0⟩ := hC
  exact fun H locs ls hP hS hl => lv_l2i hx hb hd rfl (k H locs ls hP hS hl)
theorem g_dup {X : CX} {V : WV} {cc : ByteArray} {nL : Nat} {own : String} {ret : Option FieldType} {fr lo : Nat} {Q : State → Prop} {pc : Nat} {lv : List (Option Value)} {st : List Value} {S : Mem} (hC : Ck X V cc nL own ret fr lo) {u : Value} (hu : u.category = 1) (hd : decode cc pc = .ok (.dup, 1))
    (k : G X V nL Q (pc + 1) (lv) (u :: u :: st) (S)) : G X V nL Q pc lv (u :: st) S := by
  obtain ⟨p, l, e, R, s, m, args, below, meth, c, A, nc, ns⟩ := X
  obtain ⟨hx, hb, hml, hown, hts, hlk, hr, hK, hD, hV, hfr, hlo, hSK, hAV, hnc, hns, hD0⟩ := hC
  exact fun H locs ls hP hS hl => lv_dup hx hb hd hu (k H locs ls hP hS hl)
theorem g_dup2 {X : CX} {V : WV} {cc : ByteArray} {nL : Nat} {own : String} {ret : Option FieldType} {fr lo : Nat} {Q : State → Prop} {pc : Nat} {lv : List (Option Value)} {st : List Value} {S : Mem} (hC : Ck X V cc nL own ret fr lo) {u w : Value} (hu : u.category = 1) (hw : w.category = 1) (hd : decode cc pc = .ok (.dup2, 1))
    (k : G X V nL Q (pc + 1) (lv) (u :: w :: u :: w :: st) (S)) : G X V nL Q pc lv (u :: w :: st) S := by
  obtain ⟨p, l, e, R, s, m, args, below, meth, c, A, nc, ns⟩ := X
  obtain ⟨hx, hb, hml, hown, hts, hlk, hr, hK, hD, hV, hfr, hlo, hSK, hAV, hnc, hns, hD0⟩ := hC
  exact fun H locs ls hP hS hl => lv_dup2_11 hx hb hd hu hw (k H locs ls hP hS hl)
theorem g_pop {X : CX} {V : WV} {cc : ByteArray} {nL : Nat} {own : String} {ret : Option FieldType} {fr lo : Nat} {Q : State → Prop} {pc : Nat} {lv : List (Option Value)} {st : List Value} {S : Mem} (hC : Ck X V cc nL own ret fr lo) {u : Value} (hu : u.category = 1) (hd : decode cc pc = .ok (.pop, 1))
    (k : G X V nL Q (pc + 1) (lv) (st) (S)) : G X V nL Q pc lv (u :: st) S := by
  obtain ⟨p, l, e, R, s, m, args, below, meth, c, A, nc, ns⟩ := X
  obtain ⟨hx, hb, hml, hown, hts, hlk, hr, hK, hD, hV, hfr, hlo, hSK, hAV, hnc, hns, hD0⟩ := hC
  exact fun H locs ls hP hS hl => lv_pop hx hb hd hu (k H locs ls hP hS hl)
theorem g_goto {X : CX} {V : WV} {cc : ByteArray} {nL : Nat} {own : String} {ret : Option FieldType} {fr lo : Nat} {Q : State → Prop} {pc : Nat} {lv : List (Option Value)} {st : List Value} {S : Mem} (hC : Ck X V cc nL own ret fr lo) {off : Int} {tgt : Nat} (ht : (pc : Int) + off = (tgt : Int)) (hd : decode cc pc = .ok (.goto off, 3))
    (k : G X V nL Q (tgt) (lv) (st) (S)) : G X V nL Q pc lv (st) S := by
  obtain ⟨p, l, e, R, s, m, args, below, meth, c, A, nc, ns⟩ := X
  obtain ⟨hx, hb, hml, hown, hts, hlk, hr, hK, hD, hV, hfr, hlo, hSK, hAV, hnc, hns, hD0⟩ := hC
  exact fun H locs ls hP hS hl => lv_goto hx hb hd ht (k H locs ls hP hS hl)
theorem g_idiv {X : CX} {V : WV} {cc : ByteArray} {nL : Nat} {own : String} {ret : Option FieldType} {fr lo : Nat} {Q : State → Prop} {pc : Nat} {lv : List (Option Value)} {st : List Value} {S : Mem} (hC : Ck X V cc nL own ret fr lo) {x y : Int32} {α : Type} {f : Option α} {z : α} (hd : decode cc pc = .ok (.idiv, 1)) (h : gNz y f = some z)
    (k : f = some z → G X V nL Q (pc + 1) lv (.int (x / y) :: st) S) : G X V nL Q pc lv (.int y :: .int x :: st) S := by
  obtain ⟨hy, h⟩ := gNz_some h
  have k := k h
  obtain ⟨p, l, e, R, s, m, args, below, meth, c, A, nc, ns⟩ := X
  obtain ⟨hx, hb, hml, hown, hts, hlk, hr, hK, hD, hV, hfr, hlo, hSK, hAV, hnc, hns, hD0⟩ := hC
  exact fun H locs ls hP hS hl => lv_idiv hx hb hd hy (k H locs ls hP hS hl)
theorem g_irem {X : CX} {V : WV} {cc : ByteArray} {nL : Nat} {own : String} {ret : Option FieldType} {fr lo : Nat} {Q : State → Prop} {pc : Nat} {lv : List (Option Value)} {st : List Value} {S : Mem} (hC : Ck X V cc nL own ret fr lo) {x y : Int32} {α : Type} {f : Option α} {z : α} (hd : decode cc pc = .ok (.irem, 1)) (h : gNz y f = some z)
    (k : f = some z → G X V nL Q (pc + 1) lv (.int (x - x / y * y) :: st) S) : G X V nL Q pc lv (.int y :: .int x :: st) S := by
  obtain ⟨hy, h⟩ := gNz_some h
  have k := k h
  obtain ⟨p, l, e, R, s, m, args, below, meth, c, A, nc, ns⟩ := X
  obtain ⟨hx, hb, hml, hown, hts, hlk, hr, hK, hD, hV, hfr, hlo, hSK, hAV, hnc, hns, hD0⟩ := hC
  exact fun H locs ls hP hS hl => lv_irem hx hb hd hy (k H locs ls hP hS hl)
theorem g_if_eq {X : CX} {V : WV} {cc : ByteArray} {nL : Nat} {own : String} {ret : Option FieldType} {fr lo : Nat} {Q : State → Prop} {pc : Nat} {lv : List (Option Value)} {st : List Value} {S : Mem} (hC : Ck X V cc nL own ret fr lo) {x : Int32} {off : Int} {tgt : Nat} {α : Type} {f g : Option α} {z : α} (ht : (pc : Int) + off = (tgt : Int)) (hd : decode cc pc = .ok (.ifCond .eq off, 3)) (h : (if x = 0 then f else g) = some z)
    (k1 : f = some z → G X V nL Q tgt lv st S) (k2 : g = some z → G X V nL Q (pc + 3) lv st S) : G X V nL Q pc lv (.int x :: st) S := by
  obtain ⟨p, l, e, R, s, m, args, below, meth, c, A, nc, ns⟩ := X
  obtain ⟨hx, hb, hml, hown, hts, hlk, hr, hK, hD, hV, hfr, hlo, hSK, hAV, hnc, hns, hD0⟩ := hC
  refine fun H locs ls hP hS hl => lv_if_eq hx hb hd ht (fun q => ?_) (fun q => ?_)
  · rw [if_pos q] at h; exact k1 h H locs ls hP hS hl
  · rw [if_neg q] at h; exact k2 h H locs ls hP hS hl
theorem g_icmp_eq {X : CX} {V : WV} {cc : ByteArray} {nL : Nat} {own : String} {ret : Option FieldType} {fr lo : Nat} {Q : State → Prop} {pc : Nat} {lv : List (Option Value)} {st : List Value} {S : Mem} (hC : Ck X V cc nL own ret fr lo) {x y : Int32} {off : Int} {tgt : Nat} {α : Type} {f g : Option α} {z : α} (ht : (pc : Int) + off = (tgt : Int)) (hd : decode cc pc = .ok (.if_icmp .eq off, 3)) (h : (if x = y then f else g) = some z)
    (k1 : f = some z → G X V nL Q tgt lv st S) (k2 : g = some z → G X V nL Q (pc + 3) lv st S) : G X V nL Q pc lv (.int y :: .int x :: st) S := by
  obtain ⟨p, l, e, R, s, m, args, below, meth, c, A, nc, ns⟩ := X
  obtain ⟨hx, hb, hml, hown, hts, hlk, hr, hK, hD, hV, hfr, hlo, hSK, hAV, hnc, hns, hD0⟩ := hC
  refine fun H locs ls hP hS hl => lv_icmp_eq hx hb hd ht (fun q => ?_) (fun q => ?_)
  · rw [if_pos q] at h; exact k1 h H locs ls hP hS hl
  · rw [if_neg q] at h; exact k2 h H locs ls hP hS hl
theorem g_if_ne {X : CX} {V : WV} {cc : ByteArray} {nL : Nat} {own : String} {ret : Option FieldType} {fr lo : Nat} {Q : State → Prop} {pc : Nat} {lv : List (Option Value)} {st : List Value} {S : Mem} (hC : Ck X V cc nL own ret fr lo) {x : Int32} {off : Int} {tgt : Nat} {α : Type} {f g : Option α} {z : α} (ht : (pc : Int) + off = (tgt : Int)) (hd : decode cc pc = .ok (.ifCond .ne off, 3)) (h : (if x = 0 then g else f) = some z)
    (k1 : f = some z → G X V nL Q tgt lv st S) (k2 : g = some z → G X V nL Q (pc + 3) lv st S) : G X V nL Q pc lv (.int x :: st) S := by
  obtain ⟨p, l, e, R, s, m, args, below, meth, c, A, nc, ns⟩ := X
  obtain ⟨hx, hb, hml, hown, hts, hlk, hr, hK, hD, hV, hfr, hlo, hSK, hAV, hnc, hns, hD0⟩ := hC
  refine fun H locs ls hP hS hl => lv_if_ne hx hb hd ht (fun q => ?_) (fun q => ?_)
  · rw [if_neg q] at h; exact k1 h H locs ls hP hS hl
  · rw [if_pos q] at h; exact k2 h H locs ls hP hS hl
theorem g_icmp_ne {X : CX} {V : WV} {cc : ByteArray} {nL : Nat} {own : String} {ret : Option FieldType} {fr lo : Nat} {Q : State → Prop} {pc : Nat} {lv : List (Option Value)} {st : List Value} {S : Mem} (hC : Ck X V cc nL own ret fr lo) {x y : Int32} {off : Int} {tgt : Nat} {α : Type} {f g : Option α} {z : α} (ht : (pc : Int) + off = (tgt : Int)) (hd : decode cc pc = .ok (.if_icmp .ne off, 3)) (h : (if x = y then g else f) = some z)
    (k1 : f = some z → G X V nL Q tgt lv st S) (k2 : g = some z → G X V nL Q (pc + 3) lv st S) : G X V nL Q pc lv (.int y :: .int x :: st) S := by
  obtain ⟨p, l, e, R, s, m, args, below, meth, c, A, nc, ns⟩ := X
  obtain ⟨hx, hb, hml, hown, hts, hlk, hr, hK, hD, hV, hfr, hlo, hSK, hAV, hnc, hns, hD0⟩ := hC
  refine fun H locs ls hP hS hl => lv_icmp_ne hx hb hd ht (fun q => ?_) (fun q => ?_)
  · rw [if_neg q] at h; exact k1 h H locs ls hP hS hl
  · rw [if_pos q] at h; exact k2 h H locs ls hP hS hl
theorem g_if_lt {X : CX} {V : WV} {cc : ByteArray} {nL : Nat} {own : String} {ret : Option FieldType} {fr lo : Nat} {Q : State → Prop} {pc : Nat} {lv : List (Option Value)} {st : List Value} {S : Mem} (hC : Ck X V cc nL own ret fr lo) {x : Int32} {off : Int} {tgt : Nat} {α : Type} {f g : Option α} {z : α} (ht : (pc : Int) + off = (tgt : Int)) (hd : decode cc pc = .ok (.ifCond .lt off, 3)) (h : (if x < 0 then f else g) = some z)
    (k1 : f = some z → G X V nL Q tgt lv st S) (k2 : g = some z → G X V nL Q (pc + 3) lv st S) : G X V nL Q pc lv (.int x :: st) S := by
  obtain ⟨p, l, e, R, s, m, args, below, meth, c, A, nc, ns⟩ := X
  obtain ⟨hx, hb, hml, hown, hts, hlk, hr, hK, hD, hV, hfr, hlo, hSK, hAV, hnc, hns, hD0⟩ := hC
  refine fun H locs ls hP hS hl => lv_if_lt hx hb hd ht (fun q => ?_) (fun q => ?_)
  · rw [if_pos q] at h; exact k1 h H locs ls hP hS hl
  · rw [if_neg q] at h; exact k2 h H locs ls hP hS hl
theorem g_icmp_lt {X : CX} {V : WV} {cc : ByteArray} {nL : Nat} {own : String} {ret : Option FieldType} {fr lo : Nat} {Q : State → Prop} {pc : Nat} {lv : List (Option Value)} {st : List Value} {S : Mem} (hC : Ck X V cc nL own ret fr lo) {x y : Int32} {off : Int} {tgt : Nat} {α : Type} {f g : Option α} {z : α} (ht : (pc : Int) + off = (tgt : Int)) (hd : decode cc pc = .ok (.if_icmp .lt off, 3)) (h : (if x < y then f else g) = some z)
    (k1 : f = some z → G X V nL Q tgt lv st S) (k2 : g = some z → G X V nL Q (pc + 3) lv st S) : G X V nL Q pc lv (.int y :: .int x :: st) S := by
  obtain ⟨p, l, e, R, s, m, args, below, meth, c, A, nc, ns⟩ := X
  obtain ⟨hx, hb, hml, hown, hts, hlk, hr, hK, hD, hV, hfr, hlo, hSK, hAV, hnc, hns, hD0⟩ := hC
  refine fun H locs ls hP hS hl => lv_icmp_lt hx hb hd ht (fun q => ?_) (fun q => ?_)
  · rw [if_pos q] at h; exact k1 h H locs ls hP hS hl
  · rw [if_neg q] at h; exact k2 h H locs ls hP hS hl
theorem g_if_ge {X : CX} {V : WV} {cc : ByteArray} {nL : Nat} {own : String} {ret : Option FieldType} {fr lo : Nat} {Q : State → Prop} {pc : Nat} {lv : List (Option Value)} {st : List Value} {S : Mem} (hC : Ck X V cc nL own ret fr lo) {x : Int32} {off : Int} {tgt : Nat} {α : Type} {f g : Option α} {z : α} (ht : (pc : Int) + off = (tgt : Int)) (hd : decode cc pc = .ok (.ifCond .ge off, 3)) (h : (if 0 ≤ x then f else g) = some z)
    (k1 : f = some z → G X V nL Q tgt lv st S) (k2 : g = some z → G X V nL Q (pc + 3) lv st S) : G X V nL Q pc lv (.int x :: st) S := by
  obtain ⟨p, l, e, R, s, m, args, below, meth, c, A, nc, ns⟩ := X
  obtain ⟨hx, hb, hml, hown, hts, hlk, hr, hK, hD, hV, hfr, hlo, hSK, hAV, hnc, hns, hD0⟩ := hC
  refine fun H locs ls hP hS hl => lv_if_ge hx hb hd ht (fun q => ?_) (fun q => ?_)
  · rw [if_pos q] at h; exact k1 h H locs ls hP hS hl
  · rw [if_neg q] at h; exact k2 h H locs ls hP hS hl
theorem g_icmp_ge {X : CX} {V : WV} {cc : ByteArray} {nL : Nat} {own : String} {ret : Option FieldType} {fr lo : Nat} {Q : State → Prop} {pc : Nat} {lv : List (Option Value)} {st : List Value} {S : Mem} (hC : Ck X V cc nL own ret fr lo) {x y : Int32} {off : Int} {tgt : Nat} {α : Type} {f g : Option α} {z : α} (ht : (pc : Int) + off = (tgt : Int)) (hd : decode cc pc = .ok (.if_icmp .ge off, 3)) (h : (if y ≤ x then f else g) = some z)
    (k1 : f = some z → G X V nL Q tgt lv st S) (k2 : g = some z → G X V nL Q (pc + 3) lv st S) : G X V nL Q pc lv (.int y :: .int x :: st) S := by
  obtain ⟨p, l, e, R, s, m, args, below, meth, c, A, nc, ns⟩ := X
  obtain ⟨hx, hb, hml, hown, hts, hlk, hr, hK, hD, hV, hfr, hlo, hSK, hAV, hnc, hns, hD0⟩ := hC
  refine fun H locs ls hP hS hl => lv_icmp_ge hx hb hd ht (fun q => ?_) (fun q => ?_)
  · rw [if_pos q] at h; exact k1 h H locs ls hP hS hl
  · rw [if_neg q] at h; exact k2 h H locs ls hP hS hl
theorem g_if_gt {X : CX} {V : WV} {cc : ByteArray} {nL : Nat} {own : String} {ret : Option FieldType} {fr lo : Nat} {Q : State → Prop} {pc : Nat} {lv : List (Option Value)} {st : List Value} {S : Mem} (hC : Ck X V cc nL own ret fr lo) {x : Int32} {off : Int} {tgt : Nat} {α : Type} {f g : Option α} {z : α} (ht : (pc : Int) + off = (tgt : Int)) (hd : decode cc pc = .ok (.ifCond .gt off, 3)) (h : (if 0 < x then f else g) = some z)
    (k1 : f = some z → G X V nL Q tgt lv st S) (k2 : g = some z → G X V nL Q (pc + 3) lv st S) : G X V nL Q pc lv (.int x :: st) S := by
  obtain ⟨p, l, e, R, s, m, args, below, meth, c, A, nc, ns⟩ := X
  obtain ⟨hx, hb, hml, hown, hts, hlk, hr, hK, hD, hV, hfr, hlo, hSK, hAV, hnc, hns, hD0⟩ := hC
  refine fun H locs ls hP hS hl => lv_if_gt hx hb hd ht (fun q => ?_) (fun q => ?_)
  · rw [if_pos q] at h; exact k1 h H locs ls hP hS hl
  · rw [if_neg q] at h; exact k2 h H locs ls hP hS hl
theorem g_icmp_gt {X : CX} {V : WV} {cc : ByteArray} {nL : Nat} {own : String} {ret : Option FieldType} {fr lo : Nat} {Q : State → Prop} {pc : Nat} {lv : List (Option Value)} {st : List Value} {S : Mem} (hC : Ck X V cc nL own ret fr lo) {x y : Int32} {off : Int} {tgt : Nat} {α : Type} {f g : Option α} {z : α} (ht : (pc : Int) + off = (tgt : Int)) (hd : decode cc pc = .ok (.if_icmp .gt off, 3)) (h : (if y < x then f else g) = some z)
    (k1 : f = some z → G X V nL Q tgt lv st S) (k2 : g = some z → G X V nL Q (pc + 3) lv st S) : G X V nL Q pc lv (.int y :: .int x :: st) S := by
  obtain ⟨p, l, e, R, s, m, args, below, meth, c, A, nc, ns⟩ := X
  obtain ⟨hx, hb, hml, hown, hts, hlk, hr, hK, hD, hV, hfr, hlo, hSK, hAV, hnc, hns, hD0⟩ := hC
  refine fun H locs ls hP hS hl => lv_icmp_gt hx hb hd ht (fun q => ?_) (fun q => ?_)
  · rw [if_pos q] at h; exact k1 h H locs ls hP hS hl
  · rw [if_neg q] at h; exact k2 h H locs ls hP hS hl
theorem g_if_le {X : CX} {V : WV} {cc : ByteArray} {nL : Nat} {own : String} {ret : Option FieldType} {fr lo : Nat} {Q : State → Prop} {pc : Nat} {lv : List (Option Value)} {st : List Value} {S : Mem} (hC : Ck X V cc nL own ret fr lo) {x : Int32} {off : Int} {tgt : Nat} {α : Type} {f g : Option α} {z : α} (ht : (pc : Int) + off = (tgt : Int)) (hd : decode cc pc = .ok (.ifCond .le off, 3)) (h : (if x ≤ 0 then f else g) = some z)
    (k1 : f = some z → G X V nL Q tgt lv st S) (k2 : g = some z → G X V nL Q (pc + 3) lv st S) : G X V nL Q pc lv (.int x :: st) S := by
  obtain ⟨p, l, e, R, s, m, args, below, meth, c, A, nc, ns⟩ := X
  obtain ⟨hx, hb, hml, hown, hts, hlk, hr, hK, hD, hV, hfr, hlo, hSK, hAV, hnc, hns, hD0⟩ := hC
  refine fun H locs ls hP hS hl => lv_if_le hx hb hd ht (fun q => ?_) (fun q => ?_)
  · rw [if_pos q] at h; exact k1 h H locs ls hP hS hl
  · rw [if_neg q] at h; exact k2 h H locs ls hP hS hl
theorem g_icmp_le {X : CX} {V : WV} {cc : ByteArray} {nL : Nat} {own : String} {ret : Option FieldType} {fr lo : Nat} {Q : State → Prop} {pc : Nat} {lv : List (Option Value)} {st : List Value} {S : Mem} (hC : Ck X V cc nL own ret fr lo) {x y : Int32} {off : Int} {tgt : Nat} {α : Type} {f g : Option α} {z : α} (ht : (pc : Int) + off = (tgt : Int)) (hd : decode cc pc = .ok (.if_icmp .le off, 3)) (h : (if x ≤ y then f else g) = some z)
    (k1 : f = some z → G X V nL Q tgt lv st S) (k2 : g = some z → G X V nL Q (pc + 3) lv st S) : G X V nL Q pc lv (.int y :: .int x :: st) S := by
  obtain ⟨p, l, e, R, s, m, args, below, meth, c, A, nc, ns⟩ := X
  obtain ⟨hx, hb, hml, hown, hts, hlk, hr, hK, hD, hV, hfr, hlo, hSK, hAV, hnc, hns, hD0⟩ := hC
  refine fun H locs ls hP hS hl => lv_icmp_le hx hb hd ht (fun q => ?_) (fun q => ?_)
  · rw [if_pos q] at h; exact k1 h H locs ls hP hS hl
  · rw [if_neg q] at h; exact k2 h H locs ls hP hS hl
theorem g_lcmp {X : CX} {V : WV} {cc : ByteArray} {nL : Nat} {own : String} {ret : Option FieldType} {fr lo : Nat} {Q : State → Prop} {pc : Nat} {lv : List (Option Value)} {st : List Value} {S : Mem} (hC : Ck X V cc nL own ret fr lo) {x y : Int64} (hd : decode cc pc = .ok (.lcmp, 1))
    (k : G X V nL Q (pc + 1) lv (.int (lg_cmp x y) :: st) S) : G X V nL Q pc lv (.long y :: .long x :: st) S := by
  obtain ⟨p, l, e, R, s, m, args, below, meth, c, A, nc, ns⟩ := X
  obtain ⟨hx, hb, hml, hown, hts, hlk, hr, hK, hD, hV, hfr, hlo, hSK, hAV, hnc, hns, hD0⟩ := hC
  exact fun H locs ls hP hS hl => W.lcmp hx hb hd (k H locs ls hP hS hl)
