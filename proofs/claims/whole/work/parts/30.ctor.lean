/-! CONSTRUCTORS: E X D nL Q nc ns pc lv st ws: with just these cells, nc cells of ns slots made so far, the machine comes to Q. -/
def tyC (cy : Nat → ClassId) : List (ClassId × FieldType) := [(cy 0, .int), (cy 1, .byte), (cy 2, .long), (cy 3, .boolean)]
abbrev KS : Type := Nat × (Nat → Nat) × (Nat → Nat)
def V0 (D : va_G) (cy : Nat → ClassId) (K : KS) : WV := (D, (cy, K), fun _ _ => 0, [], [])
def nestL : List (String × Nat × MethodName) := [("SecretWells", 34, ⟨"SecretWells$State", "<init>", "()V"⟩), ("SecretWells", 44, ⟨"SecretWells$Days", "<init>", "()V"⟩), ("SecretWells", 51, ⟨"SecretWells$Rain", "<init>", "()V"⟩), ("SecretWells", 58, ⟨"SecretWells$People", "<init>", "()V"⟩), ("SecretWells", 65, ⟨"SecretWells$Notes", "<init>", "()V"⟩), ("SecretWells", 84, ⟨"SecretWells$Text", "<init>", "()V"⟩), ("SecretWells$Text", 66, ⟨"SecretWells$Law", "<init>", "()V"⟩)]
def NW (U : State) : Prop := ∀ q ∈ nestL, va_Nw (.methodLinkNest q.1 q.2.1 q.2.2 "SecretWells") U
theorem NW.warm {s U : State} (h : NW s) (hW : s.WarmedH U.vm) : NW U := fun q hq => (h q hq).warmM hW
theorem NW.same {s U : State} (h : NW s) (hv : s.vm = U.vm) : NW U := fun q hq => (h q hq).same rfl hv
def E (X : CX) (D : va_G) (nL : Nat) (Q : State → Prop) (nc ns pc : Nat) (lv : List (Option Value)) (st : List Value) (ws : va_W) : Prop :=
  match X with
  | (p, l, e, R, s, m, args, below, meth, c, A, _, _) => ∀ (H : Heap) (locs : List Loc) (ls : Array Slot), va_P D vwCl ws H → va_D A ws → va_S A s.heap H locs → lp ls nL lv → W p l e R s m args below meth c H locs nc ns Q (F0 m pc ls st)
def Ek (X : CX) (D : va_G) (cy : Nat → ClassId) (K : KS) (cc : ByteArray) (nL : Nat) (own : String) (fr lo rc rs : Nat) : Prop :=
  match X with
  | (p, _, _, R, s, m, args, _, meth, c, A, _, _) => p.tables.exec = Jvm.exec ∧ c.code = cc ∧ c.maxLocals = nL ∧ s.vm.findClass own = some m.cls ∧ (∀ w ∈ gTbl, w.before args s = true) ∧ meth.locks = false ∧ (own = "SecretWellsLaw" ∨ meth.sig.returnType = none) ∧ (own = "SecretWellsLaw" ∨ meth.name = "<init>") ∧ va_K D vwCl (tyC cy) s ∧ fr ≤ R.frames ∧ lo ≤ R.locals ∧ rc ≤ R.cells ∧ rs ≤ R.slots ∧ (∀ q, s.heap.size ≤ q → A q) ∧ SK (V0 D cy K) A s ∧ NW s
theorem e_iload_n {X : CX} {D : va_G} {cy : Nat → ClassId} {K : KS} {cc : ByteArray} {nL : Nat} {own : String} {fr lo rc rs : Nat} {Q : State → Prop} {nc ns pc : Nat} {lv : List (Option Value)} {st : List Value} {ws : va_W} (hC : Ek X D cy K cc nL own fr lo rc rs) {j : Fin 4} {i : Nat} {x : Int32} (hi : (j : Nat) = i) (hg : lv[i]? = some (some (.int x))) (hd : decode cc pc = .ok (.iload_n j, 1))
    (k : E X D nL Q nc ns (pc + 1) (lv) (.int x :: st) ws) : E X D nL Q nc ns pc lv (st) ws := by
  obtain ⟨p, l, e, R, s, m, args, below, meth, c, A, xc, xs⟩ := X
  obtain ⟨hx, hb, hml, hown, hts, hlk, hr, hnm, hK, hfr, hlo, hrc, hrs, hA, hSK, hNW⟩ := hC
  exact fun H locs ls hP hD hS hl => lv_iload_n hx hb hd hi (hl.2.2 i _ hg) (k H locs ls hP hD hS hl)
theorem e_aload_n {X : CX} {D : va_G} {cy : Nat → ClassId} {K : KS} {cc : ByteArray} {nL : Nat} {own : String} {fr lo rc rs : Nat} {Q : State → Prop} {nc ns pc : Nat} {lv : List (Option Value)} {st : List Value} {ws : va_W} (hC : Ek X D cy K cc nL own fr lo rc rs) {j : Fin 4} {i : Nat} {x : Nat} (hi : (j : Nat) = i) (hg : lv[i]? = some (some (.ref x))) (hd : decode cc pc = .ok (.aload_n j, 1))
    (k : E X D nL Q nc ns (pc + 1) (lv) (.ref x :: st) ws) : E X D nL Q nc ns pc lv (st) ws := by
  obtain ⟨p, l, e, R, s, m, args, below, meth, c, A, xc, xs⟩ := X
  obtain ⟨hx, hb, hml, hown, hts, hlk, hr, hnm, hK, hfr, hlo, hrc, hrs, hA, hSK, hNW⟩ := hC
  exact fun H locs ls hP hD hS hl => lv_aload_n hx hb hd hi (hl.2.2 i _ hg) (k H locs ls hP hD hS hl)
theorem e_iconst {X : CX} {D : va_G} {cy : Nat → ClassId} {K : KS} {cc : ByteArray} {nL : Nat} {own : String} {fr lo rc rs : Nat} {Q : State → Prop} {nc ns pc : Nat} {lv : List (Option Value)} {st : List Value} {ws : va_W} (hC : Ek X D cy K cc nL own fr lo rc rs) {n : Int} {v : Int32} (hv : Int32.ofInt n = v) (hd : decode cc pc = .ok (.iconst n, 1))
    (k : E X D nL Q nc ns (pc + 1) (lv) (.int v :: st) ws) : E X D nL Q nc ns pc lv (st) ws := by
  obtain ⟨p, l, e, R, s, m, args, below, meth, c, A, xc, xs⟩ := X
  obtain ⟨hx, hb, hml, hown, hts, hlk, hr, hnm, hK, hfr, hlo, hrc, hrs, hA, hSK, hNW⟩ := hC
  exact fun H locs ls hP hD hS hl => lv_iconst hx hb hd hv (k H locs ls hP hD hS hl)
theorem e_bipush {X : CX} {D : va_G} {cy : Nat → ClassId} {K : KS} {cc : ByteArray} {nL : Nat} {own : String} {fr lo rc rs : Nat} {Q : State → Prop} {nc ns pc : Nat} {lv : List (Option Value)} {st : List Value} {ws : va_W} (hC : Ek X D cy K cc nL own fr lo rc rs) {n : Int} {v : Int32} (hv : (Int8.ofInt n).toInt32 = v) (hd : decode cc pc = .ok (.bipush n, 2))
    (k : E X D nL Q nc ns (pc + 2) (lv) (.int v :: st) ws) : E X D nL Q nc ns pc lv (st) ws := by
  obtain ⟨p, l, e, R, s, m, args, below, meth, c, A, xc, xs⟩ := X
  obtain ⟨hx, hb, hml, hown, hts, hlk, hr, hnm, hK, hfr, hlo, hrc, hrs, hA, hSK, hNW⟩ := hC
  exact fun H locs ls hP hD hS hl => lv_bipush hx hb hd hv (k H locs ls hP hD hS hl)
theorem e_sipush {X : CX} {D : va_G} {cy : Nat → ClassId} {K : KS} {cc : ByteArray} {nL : Nat} {own : String} {fr lo rc rs : Nat} {Q : State → Prop} {nc ns pc : Nat} {lv : List (Option Value)} {st : List Value} {ws : va_W} (hC : Ek X D cy K cc nL own fr lo rc rs) {n : Int} {v : Int32} (hv : (Int16.ofInt n).toInt32 = v) (hd : decode cc pc = .ok (.sipush n, 3))
    (k : E X D nL Q nc ns (pc + 3) (lv) (.int v :: st) ws) : E X D nL Q nc ns pc lv (st) ws := by
  obtain ⟨p, l, e, R, s, m, args, below, meth, c, A, xc, xs⟩ := X
  obtain ⟨hx, hb, hml, hown, hts, hlk, hr, hnm, hK, hfr, hlo, hrc, hrs, hA, hSK, hNW⟩ := hC
  exact fun H locs ls hP hD hS hl => lv_sipush hx hb hd hv (k H locs ls hP hD hS hl)
theorem e_dup {X : CX} {D : va_G} {cy : Nat → ClassId} {K : KS} {cc : ByteArray} {nL : Nat} {own : String} {fr lo rc rs : Nat} {Q : State → Prop} {nc ns pc : Nat} {lv : List (Option Value)} {st : List Value} {ws : va_W} (hC : Ek X D cy K cc nL own fr lo rc rs) {u : Value} (hu : u.category = 1) (hd : decode cc pc = .ok (.dup, 1))
    (k : E X D nL Q nc ns (pc + 1) (lv) (u :: u :: st) ws) : E X D nL Q nc ns pc lv (u :: st) ws := by
  obtain ⟨p, l, e, R, s, m, args, below, meth, c, A, xc, xs⟩ := X
  obtain ⟨hx, hb, hml, hown, hts, hlk, hr, hnm, hK, hfr, hlo, hrc, hrs, hA, hSK, hNW⟩ := hC
  exact fun H locs ls hP hD hS hl => lv_dup hx hb hd hu (k H locs ls hP hD hS hl)
theorem es_istore_n {X : CX} {D : va_G} {cy : Nat → ClassId} {K : KS} {cc : ByteArray} {nL : Nat} {own : String} {fr lo rc rs : Nat} {Q : State → Prop} {nc ns pc : Nat} {lv : List (Option Value)} {st : List Value} {ws : va_W} (hC : Ek X D cy K cc nL own fr lo rc rs) {j : Fin 4} {i : Nat} {x : Int32} (hi : (j : Nat) = i) (hn : i < nL) (hd : decode cc pc = .ok (.istore_n j, 1)) {lv2 : List (Option Value)} (hl2 : lvSt lv i (.int x) = lv2)
    (k : E X D nL Q nc ns (pc + 1) lv2 st ws) : E X D nL Q nc ns pc lv (.int x :: st) ws := by
  subst hl2
  obtain ⟨p, l, e, R, s, m, args, below, meth, c, A, xc, xs⟩ := X
  obtain ⟨hx, hb, hml, hown, hts, hlk, hr, hnm, hK, hfr, hlo, hrc, hrs, hA, hSK, hNW⟩ := hC
  exact fun H locs ls hP hD hS hl => lv_istore_n hx hb hd hi (lp_has hl) hn rfl (fun ls2 hl2 => k H locs ls2 hP hD hS (lp_st hl2))
theorem es_astore_n {X : CX} {D : va_G} {cy : Nat → ClassId} {K : KS} {cc : ByteArray} {nL : Nat} {own : String} {fr lo rc rs : Nat} {Q : State → Prop} {nc ns pc : Nat} {lv : List (Option Value)} {st : List Value} {ws : va_W} (hC : Ek X D cy K cc nL own fr lo rc rs) {j : Fin 4} {i : Nat} {x : Nat} (hi : (j : Nat) = i) (hn : i < nL) (hd : decode cc pc = .ok (.astore_n j, 1)) {lv2 : List (Option Value)} (hl2 : lvSt lv i (.ref x) = lv2)
    (k : E X D nL Q nc ns (pc + 1) lv2 st ws) : E X D nL Q nc ns pc lv (.ref x :: st) ws := by
  subst hl2
  obtain ⟨p, l, e, R, s, m, args, below, meth, c, A, xc, xs⟩ := X
  obtain ⟨hx, hb, hml, hown, hts, hlk, hr, hnm, hK, hfr, hlo, hrc, hrs, hA, hSK, hNW⟩ := hC
  exact fun H locs ls hP hD hS hl => lv_astore_n hx hb hd hi (lp_has hl) hn rfl (fun ls2 hl2 => k H locs ls2 hP hD hS (lp_st hl2))
theorem e_imul {X : CX} {D : va_G} {cy : Nat → ClassId} {K : KS} {cc : ByteArray} {nL : Nat} {own : String} {fr lo rc rs : Nat} {Q : State → Prop} {nc ns pc : Nat} {lv : List (Option Value)} {st : List Value} {ws : va_W} (hC : Ek X D cy K cc nL own fr lo rc rs) {x y : Int32} (hd : decode cc pc = .ok (.imul, 1))
    (k : E X D nL Q nc ns (pc + 1) (lv) (.int (x * y) :: st) ws) : E X D nL Q nc ns pc lv (.int y :: .int x :: st) ws := by
  obtain ⟨p, l, e, R, s, m, args, below, meth, c, A, xc, xs⟩ := X
  obtain ⟨hx, hb, hml, hown, hts, hlk, hr, hnm, hK, hfr, hlo, hrc, hrs, hA, hSK, hNW⟩ := hC
  exact fun H locs ls hP hD hS hl => lv_imul hx hb hd (k H locs ls hP hD hS hl)
theorem e_mmax {X : CX} {D : va_G} {cy : Nat → ClassId} {K : KS} {cc : ByteArray} {nL : Nat} {own : String} {fr lo rc rs : Nat} {Q : State → Prop} {nc ns pc : Nat} {lv : List (Option Value)} {st : List Value} {ws : va_W} (hC : Ek X D cy K cc nL own fr lo rc rs) {index : Nat} {x y : Int32} (hl0 : Cond.methodLink own index Lib.Math.max.name ∈ gTbl) (hst : (st.map fun v => v.category).sum ≤ 8) (hR : 1 ≤ fr ∧ 21 ≤ lo) (h1 : nc ≤ rc ∧ ns ≤ rs) (hd : decode cc pc = .ok (.invokestatic index, 3))
    (k : E X D nL Q nc ns (pc + 3) lv (.int (jMmax x y) :: st) ws) : E X D nL Q nc ns pc lv (.int y :: .int x :: st) ws := by
  obtain ⟨p, l, e, R, s, m, args, below, meth, c, A, xc, xs⟩ := X
  obtain ⟨hx, hb, hml, hown, hts, hlk, hr, hnm, hK, hfr, hlo, hrc, hrs, hA, hSK, hNW⟩ := hC
  exact fun H locs ls hP hD hS hl => va_mmax hx hb (hml.trans hl.1.symm) hown (hts _ hl0) (hts _ gw_max_s) (hts _ gw_math) (hts _ gw_max_c) (Nat.le_trans hR.1 hfr) (by omega) (Nat.le_trans h1.1 hrc) (Nat.le_trans h1.2 hrs) hd (k H locs ls hP hD hS hl)
theorem e_obj {X : CX} {D : va_G} {cy : Nat → ClassId} {K : KS} {cc : ByteArray} {nL : Nat} {own : String} {fr lo rc rs : Nat} {Q : State → Prop} {nc ns pc : Nat} {lv : List (Option Value)} {st : List Value} {ws : va_W} (hC : Ek X D cy K cc nL own fr lo rc rs) {index : Nat} {a : Nat} (h1 : Cond.methodLink own index objectInit ∈ gTbl) (hst : (st.map fun v => v.category).sum ≤ 8) (hR : 1 ≤ fr ∧ 20 ≤ lo) (hd : decode cc pc = .ok (.invokespecial index, 3))
    (k : E X D nL Q nc ns (pc + 3) lv st ws) : E X D nL Q nc ns pc lv (.ref a :: st) ws := by
  obtain ⟨p, l, e, R, s, m, args, below, meth, c, A, xc, xs⟩ := X
  obtain ⟨hx, hb, hml, hown, hts, hlk, hr, hnm, hK, hfr, hlo, hrc, hrs, hA, hSK, hNW⟩ := hC
  refine fun H locs ls hP hD hS hl => W.objInit hx hb hown (hts _ h1) (hts _ gw_oi_i) (hts _ gw_oi_c) rfl (by rw [hml]; exact hl.1) rfl hd (Nat.le_trans hR.1 hfr) ?_ ?_
  · have := lv_room (m := m) (pc := pc) (ls := ls) (rest := .ref a :: st) hst
    omega
  · exact W.eq (g2 := F0 m (pc + 3) ls st) rfl (k H locs ls hP hD hS hl)
theorem e_newa {X : CX} {D : va_G} {cy : Nat → ClassId} {K : KS} {cc : ByteArray} {nL : Nat} {own : String} {fr lo rc rs : Nat} {Q : State → Prop} {nc ns pc : Nat} {lv : List (Option Value)} {st : List Value} {ws : va_W} (hC : Ek X D cy K cc nL own fr lo rc rs) {atype : ArrayType} (t : Nat) {ty : FieldType} (hty : newarray.typeOf atype = ty) (hprim : refKind ty = false) (ht : (tyC cy)[t]? = some (cy t, ty)) (hRA : ∀ U cA, va_RA U cA ty = (U.vm.findClass ("[" ++ ty.toString) = some cA)) (hw : Cond.arrayClass (newarray.typeOf atype) ∈ gTbl) {n : Int32} {N : Nat} (a0 : vp_A) (ha : ∀ cA : ClassId, vp_cell cA a0 = arrV cA N (fun _ => defaultValue ty)) (hn : ¬ n < 0) (hN : n.toNatClampNeg = N) (hbytes : N * componentBytes ty ≤ 536870912) (h1 : nc + 1 ≤ rc ∧ ns + N ≤ rs) (hd : decode cc pc = .ok (.newarray atype, 2))
    (k : ∀ q : Nat, E X D nL Q (nc + 1) (ns + N) (pc + 2) lv (.ref q :: st) (ws ++ [(q, .inl (cy t, a0))])) : E X D nL Q nc ns pc lv (.int n :: st) ws := by
  obtain ⟨p, l, e, R, s, m, args, below, meth, c, A, xc, xs⟩ := X
  obtain ⟨hx, hb, hml, hown, hts, hlk, hr, hnm, hK, hfr, hlo, hrc, hrs, hA, hSK, hNW⟩ := hC
  refine fun H locs ls hP hD hS hl => va_newa hx hb (hts _ hw) hty hK hP hD hS hA ha hn hN hbytes (Nat.le_trans h1.1 hrc) (Nat.le_trans h1.2 hrs) hd (fun q cA H1 hK1 hP1 hD1 hS1 => ?_)
  have e1 := (hK.2 t _ ht).2
  have e2 := (hK1.2 (tyC cy).length (cA, ty) (by simp)).2
  have e1 : va_RA s (cy t) ty := e1
  have e2 : va_RA s cA ty := e2
  rw [hRA] at e1 e2
  have e3 : cA = cy t := Option.some.inj (e2.symm.trans e1)
  subst e3
  exact k q H1 locs ls hP1 hD1 hS1 hl
theorem e_putF {X : CX} {D : va_G} {cy : Nat → ClassId} {K : KS} {cc : ByteArray} {nL : Nat} {own : String} {fr lo rc rs : Nat} {Q : State → Prop} {nc ns pc : Nat} {lv : List (Option Value)} {st : List Value} {ws : va_W} (hC : Ek X D cy K cc nL own fr lo rc rs) {C : String} {T : u_T} {N ci index a k0 q0 : Nat} {ty0 : Nat → FieldType} {ty : FieldType} {v : Value} {fs : List Value} {ws2 : va_W} (hc : vwCl[ci]? = some (C, T, N)) (hin : ∀ w ∈ u_ws C T N, w ∈ gTbl) (hty : ∀ k, k < N → parseFieldDescriptor (T k).2.2.1 = some (ty0 k)) (hnm0 : ∀ a, a < N → ∀ b, b < N → a ≠ b → (T a).2.1 ≠ (T b).2.1) (hk : k0 < N) (hlink : Cond.fieldLink own index (T k0).1 (T k0).2.1 (T k0).2.2.1 ∈ gTbl) (hfin : (T k0).2.2.2 = true) (hdecl : (T k0).1 = own) (hdesc : parseFieldDescriptor (T k0).2.2.1 = some ty) (hn : narrow ty v = v) (hfit : fits ty v = true) (he : ws[q0]? = some (a, .inr (ci, fs))) (hl0 : k0 < fs.length) (hw : ws.set q0 (a, .inr (ci, fs.set k0 v)) = ws2) (hd : decode cc pc = .ok (.putfield index, 3))
    (k : E X D nL Q nc ns (pc + 3) lv st ws2) (how : own ≠ "SecretWellsLaw" := by decide) : E X D nL Q nc ns pc lv (v :: .ref a :: st) ws := by
  subst hw
  obtain ⟨p, l, e, R, s, m, args, below, meth, c, A, xc, xs⟩ := X
  obtain ⟨hx, hb, hml, hown, hts, hlk, hr, hnm, hK, hfr, hlo, hrc, hrs, hA, hSK, hNW⟩ := hC
  exact fun H locs ls hP hD hS hl => va_putF hx hb hts hin ty0 hty hnm0 hown hK hP hD hS q0 he hc k0 hk (hts _ hlink) (fun _ h9 => h9) hfin (hnm.resolve_left how) hdecl hdesc hn hfit hl0 hd (fun H1 locs1 hP1 hD1 hS1 => k H1 locs1 ls hP1 hD1 hS1 hl)
theorem e_put {X : CX} {D : va_G} {cy : Nat → ClassId} {K : KS} {cc : ByteArray} {nL : Nat} {own : String} {fr lo rc rs : Nat} {Q : State → Prop} {nc ns pc : Nat} {lv : List (Option Value)} {st : List Value} {ws : va_W} (hC : Ek X D cy K cc nL own fr lo rc rs) {C : String} {T : u_T} {N ci index a k0 q0 : Nat} {ty0 : Nat → FieldType} {ty : FieldType} {v : Value} {fs : List Value} {ws2 : va_W} (hc : vwCl[ci]? = some (C, T, N)) (hin : ∀ w ∈ u_ws C T N, w ∈ gTbl) (hty : ∀ k, k < N → parseFieldDescriptor (T k).2.2.1 = some (ty0 k)) (hnm0 : ∀ a, a < N → ∀ b, b < N → a ≠ b → (T a).2.1 ≠ (T b).2.1) (hk : k0 < N) (hlink : Cond.fieldLink own index (T k0).1 (T k0).2.1 (T k0).2.2.1 ∈ gTbl) (hfin : (T k0).2.2.2 = false) (hdesc : parseFieldDescriptor (T k0).2.2.1 = some ty) (hn : narrow ty v = v) (hfit : fits ty v = true) (he : ws[q0]? = some (a, .inr (ci, fs))) (hl0 : k0 < fs.length) (hw : ws.set q0 (a, .inr (ci, fs.set k0 v)) = ws2) (hd : decode cc pc = .ok (.putfield index, 3))
    (k : E X D nL Q nc ns (pc + 3) lv st ws2) (how : own ≠ "SecretWellsLaw" := by decide) : E X D nL Q nc ns pc lv (v :: .ref a :: st) ws := by
  subst hw
  obtain ⟨p, l, e, R, s, m, args, below, meth, c, A, xc, xs⟩ := X
  obtain ⟨hx, hb, hml, hown, hts, hlk, hr, hnm, hK, hfr, hlo, hrc, hrs, hA, hSK, hNW⟩ := hC
  exact fun H locs ls hP hD hS hl => va_put hx hb hts hin ty0 hty hnm0 hown hK hP hD hS q0 he hc k0 hk (hts _ hlink) (fun _ h9 => h9) hfin hdesc hn hfit hl0 hd (fun H1 locs1 hP1 hD1 hS1 => k H1 locs1 ls hP1 hD1 hS1 hl)
theorem e_get {X : CX} {D : va_G} {cy : Nat → ClassId} {K : KS} {cc : ByteArray} {nL : Nat} {own : String} {fr lo rc rs : Nat} {Q : State → Prop} {nc ns pc : Nat} {lv : List (Option Value)} {st : List Value} {ws : va_W} (hC : Ek X D cy K cc nL own fr lo rc rs) {C : String} {T : u_T} {N ci index a k0 q0 : Nat} {v : Value} {fs : List Value} (hc : vwCl[ci]? = some (C, T, N)) (hin : ∀ w ∈ u_ws C T N, w ∈ gTbl) (hk : k0 < N) (hlink : Cond.fieldLink own index (T k0).1 (T k0).2.1 (T k0).2.2.1 ∈ gTbl) (he : ws[q0]? = some (a, .inr (ci, fs))) (hv : fs[k0]? = some v) (hd : decode cc pc = .ok (.getfield index, 3))
    (k : E X D nL Q nc ns (pc + 3) lv (v :: st) ws) : E X D nL Q nc ns pc lv (.ref a :: st) ws := by
  obtain ⟨p, l, e, R, s, m, args, below, meth, c, A, xc, xs⟩ := X
  obtain ⟨hx, hb, hml, hown, hts, hlk, hr, hnm, hK, hfr, hlo, hrc, hrs, hA, hSK, hNW⟩ := hC
  exact fun H locs ls hP hD hS hl => va_get hx hb hts hin hown hK hP q0 he hc k0 hk (hts _ hlink) (fun _ h9 => h9) hv hd (k H locs ls hP hD hS hl)
theorem e_new {X : CX} {D : va_G} {cy : Nat → ClassId} {K : KS} {cc : ByteArray} {nL : Nat} {own : String} {fr lo rc rs : Nat} {Q : State → Prop} {nc ns pc : Nat} {lv : List (Option Value)} {st : List Value} {ws : va_W} (hC : Ek X D cy K cc nL own fr lo rc rs) {C : String} {T : u_T} {N ci index : Nat} (ty0 : Nat → FieldType) (fs : List Value) (hc : vwCl[ci]? = some (C, T, N)) (hin : ∀ w ∈ u_ws C T N, w ∈ gTbl) (hty : ∀ k, k < N → parseFieldDescriptor (T k).2.2.1 = some (ty0 k)) (hcl : Cond.classLink own index C ∈ gTbl) (hins : Cond.instantiable C N ∈ gTbl) (hini : Cond.initialized C ∈ gTbl) (hfs : ∀ j, j < N → defaultValue (ty0 j) = vp_V fs j) (h1 : nc + 1 ≤ rc ∧ ns + N ≤ rs) (hd : decode cc pc = .ok (.new index, 3))
    (k : ∀ q : Nat, E X D nL Q (nc + 1) (ns + N) (pc + 3) lv (.ref q :: st) (ws ++ [(q, .inr (ci, fs))])) : E X D nL Q nc ns pc lv st ws := by
  obtain ⟨p, l, e, R, s, m, args, below, meth, c, A, xc, xs⟩ := X
  obtain ⟨hx, hb, hml, hown, hts, hlk, hr, hnm, hK, hfr, hlo, hrc, hrs, hA, hSK, hNW⟩ := hC
  exact fun H locs ls hP hD hS hl => va_new hx hb hts hin ty0 hty hown (hts _ hcl) (hts _ hins) (hts _ hini) hK hP hD hS hA hc hfs (Nat.le_trans h1.1 hrc) (Nat.le_trans h1.2 hrs) hd (fun q H1 hP1 hD1 hS1 => k q H1 locs ls hP1 hD1 hS1 hl)
def CC (D : va_G) (cy : Nat → ClassId) (K : KS) (l : Launch) (y : MethodName) (cc : ByteArray) (nL fr lo mc ms : Nat) (av : List Value) (w0 : va_W) (post : va_W → Prop) : Prop := ∀ sz : Nat,
  Met l y (Cond.code y cc nL none :: gTbl) { frames := fr, cells := mc, slots := ms, locals := lo } (va_Pc av (fun U => U.heap.size = sz ∧ va_P D vwCl w0 U.heap ∧ va_K D vwCl (tyC cy) U ∧ va_D (fun _ => True) w0 ∧ SK (V0 D cy K) (va_A w0 sz) U ∧ NW U)) (va_Qv post (fun w t => va_P D vwCl w t.heap ∧ va_D (va_A w0 sz) w) (va_A w0 sz)) mc ms (va_A w0 sz)
def QC (X : CX) (D : va_G) (mc ms : Nat) (post : va_W → Prop) : State → Prop := match X with
  | (_, _, _, _, s, _, args, below, _, _, A, _, _) => MQ below (va_Qv post (fun w t => va_P D vwCl w t.heap ∧ va_D A w) A) args s mc ms A
theorem e_ret {X : CX} {D : va_G} {cy : Nat → ClassId} {K : KS} {cc : ByteArray} {nL : Nat} {own : String} {fr lo rc rs : Nat} {nc ns pc : Nat} {lv : List (Option Value)} {ws : va_W} (hC : Ek X D cy K cc nL own fr lo rc rs) {mc ms : Nat} {post : va_W → Prop} (h1 : nc ≤ mc ∧ ns ≤ ms) (hd : decode cc pc = .ok (.return_, 1)) (hp : post ws) (how : own ≠ "SecretWellsLaw" := by decide) : E X D nL (QC X D mc ms post) nc ns pc lv [] ws := by
  obtain ⟨p, l, e, R, s, m, args, below, meth, c, A, xc, xs⟩ := X
  obtain ⟨hx, hb, hml, hown, hts, hlk, hr, hnm, hK, hfr, hlo, hrc, hrs, hA, hSK, hNW⟩ := hC
  exact fun H locs ls hP hD hS hl => W.widen h1.1 h1.2 (W.vret hx hb (hr.resolve_left how) (fun t ht hW => ⟨⟨ws, rfl, hp, by rw [ht]; exact hP, hD⟩, hS.F ht⟩) hS.2.2 hd)
theorem cct {D : va_G} {cy : Nat → ClassId} {K : KS} {l : Launch} {y : MethodName} {cc : ByteArray} {nL fr lo mc ms : Nat} {av : List Value} {w0 : va_W} {post : va_W → Prop} (hy : plainName y.cls = true) (hyn : y.name = "<init>") (hlen : (lg_sl av).length ≤ nL)
    (body : ∀ X : CX, X.2.1 = l → Ek X D cy K cc nL y.cls fr lo mc ms → E X D nL (QC X D mc ms post) 0 0 0 (lvArgs av ++ List.replicate (nL - (lvArgs av).length) none) [] w0) : CC D cy K l y cc nL fr lo mc ms av w0 post := by
  intro sz
  refine Met.ofW (cc := cc) (maxL := nL) (ret := none) hy rfl ?_
  intro p e s m args below meth c s₁ B hml hv
  obtain ⟨rfl, hsz, hP, hK, hD, hSK, hNW⟩ := hv
  subst hsz
  have hts := atoms_spec (ws := Cond.code y cc nL none :: gTbl) B.pre
  have hl := lv_entry av (n := nL) hlen
  rw [lg_entry_eq]
  refine body (p, l, e, _, s, m, _, below, meth, c, va_A w0 s.heap.size, 0, 0) rfl ⟨B.exec, B.bytes, hml, findClass_of_methodNamed B.named, fun w hw => hts w (List.mem_cons_of_mem _ hw), B.notSynchronized, Or.inr B.returns, Or.inr (((name_of_methodNamed B.named B.method).1).trans hyn), hK, Nat.le_refl _, Nat.le_refl _, Nat.le_refl _, Nat.le_refl _, fun q h => Or.inr h, hSK, hNW⟩ s.heap [] _ hP (hD.self) va_S.rf ⟨hl.1, hl.2.1, fun i v hi => ?_⟩
  have hi : (lvArgs av)[i]? = some (some v) := by
    rw [List.getElem?_append] at hi
    split at hi
    · exact hi
    · rw [List.getElem?_replicate] at hi
      split at hi
      · simp at hi
      · simp at hi
  have := lvArgs_in av 0 i v hi
  rw [Nat.zero_add] at this
  exact hl.2.2 (i, v) this
theorem e_call {X : CX} {D : va_G} {cy : Nat → ClassId} {K : KS} {cc : ByteArray} {nL : Nat} {own : String} {fr lo rc rs : Nat} {Q : State → Prop} {nc ns pc : Nat} {lv : List (Option Value)} {st : List Value} {ws : va_W} (hC : Ek X D cy K cc nL own fr lo rc rs) {y : MethodName} {bytes : ByteArray} {mL index a fr1 lo1 mc1 ms1 : Nat} {As : List Value} {post1 : va_W → Prop} {stk : List Value} (isC isR : List Nat) (wc wr : va_W) (hm1 : Cond.instanceMethod y ∈ gTbl) (hm3 : Cond.initialized y.cls ∈ gTbl) (hm4 : Cond.code y bytes mL none ∈ gTbl) (hm5 : y.cls ≠ "java/lang/invoke/MethodHandle" ∧ y.cls ≠ "java/lang/invoke/VarHandle" ∧ (parseMethodDescriptor y.desc).map (fun d => d.parameters.length) = some As.length) (hyn : y.name = "<init>") (hl0 : Cond.methodLink own index y ∈ gTbl) (hst : (st.map fun v => v.category).sum ≤ 8) (hR : fr1 + 1 ≤ fr ∧ 8 + (mL + 11) + lo1 ≤ lo) (hCw : isC.map (fun i => ws[i]?) = wc.map some) (hRw : isR.map (fun i => ws[i]?) = wr.map some) (hnC : va_nd isC = true) (hnR : va_nd isR = true) (hdis : ∀ i ∈ isR, i ∉ isC) (h1 : nc + mc1 ≤ rc ∧ ns + ms1 ≤ rs) (hsk : stk = As.reverse ++ .ref a :: st) (hd : decode cc pc = .ok (.invokespecial index, 3))
    (hM : CC D cy K X.2.1 y bytes mL fr1 lo1 mc1 ms1 (.ref a :: As) wc post1) (k : ∀ w1, post1 w1 → E X D nL Q (nc + mc1) (ns + ms1) (pc + 3) lv st (wr ++ w1)) : E X D nL Q nc ns pc lv stk ws := by
  subst hsk
  obtain ⟨p, l, e, R, s, m, args, below, meth, c, A, xc, xs⟩ := X
  obtain ⟨hx, hb, hml, hown, hts, hlk, hr, hnm, hK, hfr, hlo, hrc, hrs, hA, hSK, hNW⟩ := hC
  intro H locs ls hP hD hS hl
  have hPc : va_P D vwCl wc H := hP.sub isC (by
    have : isC.filterMap (fun i => ws[i]?) = (isC.map (fun i => ws[i]?)).filterMap id := by rw [List.filterMap_map]; rfl
    rw [this, hCw, List.filterMap_map]
    simp)
  have hDc : va_D A wc := hD.sub isC hnC hCw
  have hFc := va_free (wc := wc) hD hS hA isC hCw
  refine va_callv (va_runI (As := As) (rest := st) (Ts := gTbl) ⟨hx, hb, hml, hown, hts⟩ (hM H.size) ⟨callB_of As.length hts (good_tbl hm4) rfl rfl rfl (hts _ hm3) (hts _ hl0) hm5 ⟨Nat.le_trans hR.1 hfr, Nat.le_trans hR.2 hlo⟩, hyn, hts _ hm1⟩ ⟨fun a U g mk q => ?_, fun U hU hW => ⟨rfl, by rw [hU], by rw [hU]; exact hPc, va_K.moved hW.alike hK, hDc.weaken (fun _ _ _ _ => trivial), (hSK.go hS hU hW).nar hFc, hNW.warm hW⟩⟩ rfl rfl hl.1 rfl (lv_room hst) hd ⟨Nat.le_trans h1.1 hrc, Nat.le_trans h1.2 hrs⟩) hS (fun q _ h => hFc q h) hFc (fun u t H1 locs1 ht hvm hw hB hz1 hk1 hS1 => ?_)
  · obtain ⟨q0, q1, qP, qK, qD, qS, qN⟩ := q
    exact ⟨q0, q1, qP, va_K.moved (u := U) (U := U.calling g mk a) (Vm.Alike.refl U.vm) qK, qD, qS.same rfl rfl, qN.same rfl⟩
  · obtain ⟨hP1, hD1⟩ := hB
    rw [ht] at hP1
    obtain ⟨hP2, hD2⟩ := va_join (wr := wr) (w1 := u) hP hD isC isR hCw hRw hnR hdis hk1 hFc hP1 hD1
    exact k u hw H1 locs1 ls hP2 hD2 hS1 hl
theorem e_callN {X : CX} {D : va_G} {cy : Nat → ClassId} {K : KS} {cc : ByteArray} {nL : Nat} {own : String} {fr lo rc rs : Nat} {Q : State → Prop} {nc ns pc : Nat} {lv : List (Option Value)} {st : List Value} {ws : va_W} (hC : Ek X D cy K cc nL own fr lo rc rs) {y : MethodName} {bytes : ByteArray} {mL index a fr1 lo1 mc1 ms1 : Nat} {As : List Value} {post1 : va_W → Prop} {stk : List Value} (isC isR : List Nat) (wc wr : va_W) (hm1 : Cond.instanceMethod y ∈ gTbl) (hm3 : Cond.initialized y.cls ∈ gTbl) (hm4 : Cond.code y bytes mL none ∈ gTbl) (hm5 : y.cls ≠ "java/lang/invoke/MethodHandle" ∧ y.cls ≠ "java/lang/invoke/VarHandle" ∧ (parseMethodDescriptor y.desc).map (fun d => d.parameters.length) = some As.length) (hyn : y.name = "<init>") (hl0 : (own, index, y) ∈ nestL) (hst : (st.map fun v => v.category).sum ≤ 8) (hR : fr1 + 1 ≤ fr ∧ 8 + (mL + 11) + lo1 ≤ lo) (hCw : isC.map (fun i => ws[i]?) = wc.map some) (hRw : isR.map (fun i => ws[i]?) = wr.map some) (hnC : va_nd isC = true) (hnR : va_nd isR = true) (hdis : ∀ i ∈ isR, i ∉ isC) (h1 : nc + mc1 ≤ rc ∧ ns + ms1 ≤ rs) (hsk : stk = As.reverse ++ .ref a :: st) (hd : decode cc pc = .ok (.invokespecial index, 3))
    (hM : CC D cy K X.2.1 y bytes mL fr1 lo1 mc1 ms1 (.ref a :: As) wc post1) (k : ∀ w1, post1 w1 → E X D nL Q (nc + mc1) (ns + ms1) (pc + 3) lv st (wr ++ w1)) : E X D nL Q nc ns pc lv stk ws := by
  subst hsk
  obtain ⟨p, l, e, R, s, m, args, below, meth, c, A, xc, xs⟩ := X
  obtain ⟨hx, hb, hml, hown, hts, hlk, hr, hnm, hK, hfr, hlo, hrc, hrs, hA, hSK, hNW⟩ := hC
  intro H locs ls hP hD hS hl
  have hPc : va_P D vwCl wc H := hP.sub isC (by
    have : isC.filterMap (fun i => ws[i]?) = (isC.map (fun i => ws[i]?)).filterMap id := by rw [List.filterMap_map]; rfl
    rw [this, hCw, List.filterMap_map]
    simp)
  have hDc : va_D A wc := hD.sub isC hnC hCw
  have hFc := va_free (wc := wc) hD hS hA isC hCw
  refine va_callv (va_runIN (As := As) (rest := st) (Ts := gTbl) ⟨hx, hb, hml, hown, hts⟩ (hM H.size) ⟨va_cnB (host := "SecretWells") As.length hts (good_tbl hm4) rfl rfl rfl (hNW _ hl0) (hts _ hm3) hm5 ⟨Nat.le_trans hR.1 hfr, Nat.le_trans hR.2 hlo⟩, hyn, hts _ hm1⟩ ⟨fun a U g mk q => ?_, fun U hU hW => ⟨rfl, by rw [hU], by rw [hU]; exact hPc, va_K.moved hW.alike hK, hDc.weaken (fun _ _ _ _ => trivial), (hSK.go hS hU hW).nar hFc, hNW.warm hW⟩⟩ rfl rfl hl.1 rfl (lv_room hst) hd ⟨Nat.le_trans h1.1 hrc, Nat.le_trans h1.2 hrs⟩) hS (fun q _ h => hFc q h) hFc (fun u t H1 locs1 ht hvm hw hB hz1 hk1 hS1 => ?_)
  · obtain ⟨q0, q1, qP, qK, qD, qS, qN⟩ := q
    exact ⟨q0, q1, qP, va_K.moved (u := U) (U := U.calling g mk a) (Vm.Alike.refl U.vm) qK, qD, qS.same rfl rfl, qN.same rfl⟩
  · obtain ⟨hP1, hD1⟩ := hB
    rw [ht] at hP1
    obtain ⟨hP2, hD2⟩ := va_join (wr := wr) (w1 := u) hP hD isC isR hCw hRw hnR hdis hk1 hFc hP1 hD1
    exact k u hw H1 locs1 ls hP2 hD2 hS1 hl
theorem e_ws {X : CX} {D : va_G} {nL : Nat} {Q : State → Prop} {nc ns pc : Nat} {lv : List (Option Value)} {st : List Value} {ws ws2 : va_W} (h : ws = ws2) (k : E X D nL Q nc ns pc lv st ws2) : E X D nL Q nc ns pc lv st ws := h ▸ k
theorem e_lv {X : CX} {D : va_G} {nL : Nat} {Q : State → Prop} {nc ns pc : Nat} {lv lv2 : List (Option Value)} {st : List Value} {ws : va_W} (h : lv = lv2) (k : E X D nL Q nc ns pc lv2 st ws) : E X D nL Q nc ns pc lv st ws := h ▸ k
def adT : List (Nat × Nat × Nat) → Nat → Nat → Nat
  | [], _, _ => 0
  | e :: t, o, k => if o = e.1 ∧ k = e.2.1 then e.2.2 else adT t o k
def memZ : Mem := (fun _ _ => 0, fun _ _ _ => 0, fun _ _ _ => 0)
def XC (X : CX) (nc ns : Nat) : CX := (X.1, X.2.1, X.2.2.1, X.2.2.2.1, X.2.2.2.2.1, X.2.2.2.2.2.1, X.2.2.2.2.2.2.1, X.2.2.2.2.2.2.2.1, X.2.2.2.2.2.2.2.2.1, X.2.2.2.2.2.2.2.2.2.1, X.2.2.2.2.2.2.2.2.2.2.1, nc, ns)
theorem e_g {V : WV} {S : Mem} {X : CX} {D : va_G} {cy : Nat → ClassId} {K : KS} {cc : ByteArray} {nL : Nat} {own : String} {fr lo rc rs : Nat} {Q : State → Prop} {nc ns pc : Nat} {lv : List (Option Value)} {st : List Value} {ws : va_W} (hC : Ek X D cy K cc nL own fr lo rc rs) (hV1 : V.1 = D) (hV2 : V.2.1 = (cy, K)) (hVO : VOk V) (h1 : nc ≤ rc ∧ ns ≤ rs) (is : List Nat) (hnd : va_nd is = true) (hs : is.map (fun i => ws[i]?) = (WD V S).map some) (k : Ck (XC X nc ns) V cc nL own none fr lo → G (XC X nc ns) V nL Q pc lv st S) (how : own ≠ "SecretWellsLaw" := by decide) : E X D nL Q nc ns pc lv st ws := by
  obtain ⟨p, l, e, R, s, m, args, below, meth, c, A, xc, xs⟩ := X
  obtain ⟨hx, hb, hml, hown, hts, hlk, hr, hnm, hK, hfr, hlo, hrc, hrs, hA, hSK, hNW⟩ := hC
  subst hV1
  intro H locs ls hP hD hS hl
  have hP2 : va_P V.1 vwCl (WD V S) H := hP.sub is (by
    have : is.filterMap (fun i => ws[i]?) = (is.map (fun i => ws[i]?)).filterMap id := by rw [List.filterMap_map]; rfl
    rw [this, hs, List.filterMap_map]
    simp)
  have hD2 : va_D A (WD V S) := hD.sub is hnd hs
  have hAV : ∀ q, AV V q → A q := by
    intro q hq
    have e : (WD V S).map (fun x => x.1) = V.2.2.2.1.map (fun x => V.2.2.1 x.1 0) ++ V.2.2.2.2.map (fun x => V.2.2.1 x.1 (x.2.1 + 1)) := by simp [WD, eO, eA, Function.comp_def]
    have hq : q ∈ (WD V S).map (fun x => x.1) := by rw [e]; exact hq
    obtain ⟨x, hx1, hx2⟩ := List.mem_map.mp hq
    obtain ⟨j, hj⟩ := List.getElem?_of_mem hx1
    rw [← hx2]
    exact hD2.2 j x hj
  have hD3 : va_D (AV V) (WD V S) := ⟨hD2.1, fun j x hj => by
    have e : (WD V S).map (fun x => x.1) = V.2.2.2.1.map (fun x => V.2.2.1 x.1 0) ++ V.2.2.2.2.map (fun x => V.2.2.1 x.1 (x.2.1 + 1)) := by simp [WD, eO, eA, Function.comp_def]
    show x.1 ∈ _
    rw [← e]
    exact List.mem_map.mpr ⟨x, List.mem_of_getElem? hj, rfl⟩⟩
  have hty : tyV V = tyC cy := by simp [tyV, tyC, hV2]
  have hSK2 : SK V A s := by
    have hSK : SK (V0 V.1 cy K) A s := hSK
    unfold SK at hSK ⊢
    rw [hV2]
    exact hSK
  exact k ⟨hx, hb, hml, hown, hts, hlk, hr.resolve_left how, by rw [hty]; exact hK, fun S' => (WD_D hD3 S').weaken (fun _ _ _ h => hAV _ h), hVO, hfr, hlo, hSK2, hAV, Nat.le_trans h1.1 hrc, Nat.le_trans h1.2 hrs, WD_D hD3⟩ H locs ls hP2 hS hl
theorem g_retC {X : CX} {V : WV} {cc : ByteArray} {nL : Nat} {own : String} {fr lo : Nat} {nc ns pc : Nat} {lv : List (Option Value)} {S : Mem} {mc ms : Nat} {post : va_W → Prop} (hC : Ck (XC X nc ns) V cc nL own none fr lo) (h1 : nc ≤ mc ∧ ns ≤ ms) (hd : decode cc pc = .ok (.return_, 1)) (hp : post (WD V S)) : G (XC X nc ns) V nL (QC X V.1 mc ms post) pc lv [] S := by
  obtain ⟨p, l, e, R, s, m, args, below, meth, c, A, xc, xs⟩ := X
  obtain ⟨hx, hb, hml, hown, hts, hlk, hr, hK, hD, hV, hfr, hlo, hSK, hAV, hnc, hns, hD0⟩ := hC
  intro H locs ls hP hS hl
  exact W.widen h1.1 h1.2 (W.vret hx hb hr (fun t ht hW => ⟨⟨WD V S, rfl, hp, by rw [ht]; exact hP, hD S⟩, hS.F ht⟩) hS.2.2 hd)
