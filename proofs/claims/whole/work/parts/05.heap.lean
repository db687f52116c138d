/-! THE ROWS OF THE HEAP: fields, arrays, calls, returns, a method's contract out of its walk. -/
def FOk (own : String) (index ci k : Nat) : Prop := ∃ (C : String) (T : u_T) (N : Nat), vwCl[ci]? = some (C, T, N) ∧ k < N ∧ (∀ w ∈ u_ws C T N, w ∈ gTbl) ∧ Cond.fieldLink own index (T k).1 (T k).2.1 (T k).2.2.1 ∈ gTbl
def POk (own : String) (index ci k : Nat) (ty : FieldType) : Prop := ∃ (C : String) (T : u_T) (N : Nat) (ty0 : Nat → FieldType), vwCl[ci]? = some (C, T, N) ∧ k < N ∧ (∀ w ∈ u_ws C T N, w ∈ gTbl) ∧ Cond.fieldLink own index (T k).1 (T k).2.1 (T k).2.2.1 ∈ gTbl ∧ (∀ k, k < N → parseFieldDescriptor (T k).2.2.1 = some (ty0 k)) ∧ (∀ a, a < N → ∀ b, b < N → a ≠ b → (T a).2.1 ≠ (T b).2.1) ∧ (T k).2.2.2 = false ∧ parseFieldDescriptor (T k).2.2.1 = some ty
theorem g_getX {X : CX} {V : WV} {cc : ByteArray} {nL : Nat} {own : String} {ret : Option FieldType} {fr lo : Nat} {Q : State → Prop} {pc : Nat} {lv : List (Option Value)} {st : List Value} {S : Mem} (hC : Ck X V cc nL own ret fr lo) {o ci k x index : Nat} {fl : List Nat} (hF : FOk own index ci k) (hq : (o, ci, fl) ∈ V.2.2.2.1) (hk : fl[k]? = some x) (hd : decode cc pc = .ok (.getfield index, 3))
    (kk : G X V nL Q (pc + 3) lv (fv V.2.2.1 S o k x :: st) S) : G X V nL Q pc lv (.ref (V.2.2.1 o 0) :: st) S := by
  obtain ⟨p, l, e, R, s, m, args, below, meth, c, A, nc, ns⟩ := X
  obtain ⟨hx, hb, hml, hown, hts, hlk, hr, hK, hD, hV, hfr, hlo, hSK, hAV, hnc, hns, hD0⟩ := hC
  obtain ⟨C, T, N, hc, hkN, hin, hlink⟩ := hF
  intro H locs ls hP hS hl
  obtain ⟨q0, hq0⟩ := WD_getO (S := S) hq
  have hv := flds_get V.2.2.1 S o fl 0 k x hk
  rw [Nat.zero_add] at hv
  exact va_get hx hb hts hin hown hK hP q0 hq0 hc k hkN (hts _ hlink) (fun _ h9 => h9) hv hd (kk H locs ls hP hS hl)
theorem g_getI {X : CX} {V : WV} {cc : ByteArray} {nL : Nat} {own : String} {ret : Option FieldType} {fr lo : Nat} {Q : State → Prop} {pc : Nat} {lv : List (Option Value)} {st : List Value} {S : Mem} (hC : Ck X V cc nL own ret fr lo) {o ci k index : Nat} {fl : List Nat} (hF : FOk own index ci k) (hq : (o, ci, fl) ∈ V.2.2.2.1) (hk : fl[k]? = some (0)) (hd : decode cc pc = .ok (.getfield index, 3))
    (kk : G X V nL Q (pc + 3) lv (.int (S.1 o k) :: st) S) : G X V nL Q pc lv (.ref (V.2.2.1 o 0) :: st) S := g_getX hC hF hq hk hd kk
theorem g_getA {X : CX} {V : WV} {cc : ByteArray} {nL : Nat} {own : String} {ret : Option FieldType} {fr lo : Nat} {Q : State → Prop} {pc : Nat} {lv : List (Option Value)} {st : List Value} {S : Mem} (hC : Ck X V cc nL own ret fr lo) {o ci k index : Nat} {fl : List Nat} (hF : FOk own index ci k) (hq : (o, ci, fl) ∈ V.2.2.2.1) (hk : fl[k]? = some (1)) (hd : decode cc pc = .ok (.getfield index, 3))
    (kk : G X V nL Q (pc + 3) lv (.ref (V.2.2.1 o (k + 1)) :: st) S) : G X V nL Q pc lv (.ref (V.2.2.1 o 0) :: st) S := g_getX hC hF hq hk hd kk
theorem g_getM {X : CX} {V : WV} {cc : ByteArray} {nL : Nat} {own : String} {ret : Option FieldType} {fr lo : Nat} {Q : State → Prop} {pc : Nat} {lv : List (Option Value)} {st : List Value} {S : Mem} (hC : Ck X V cc nL own ret fr lo) {o ci k index : Nat} {fl : List Nat} (hF : FOk own index ci k) (hq : (o, ci, fl) ∈ V.2.2.2.1) (hk : fl[k]? = some (2)) (hd : decode cc pc = .ok (.getfield index, 3))
    (kk : G X V nL Q (pc + 3) lv (.ref (V.2.2.1 (S.1 o k).toNatClampNeg 0) :: st) S) : G X V nL Q pc lv (.ref (V.2.2.1 o 0) :: st) S := g_getX hC hF hq hk hd kk
theorem g_getC {X : CX} {V : WV} {cc : ByteArray} {nL : Nat} {own : String} {ret : Option FieldType} {fr lo : Nat} {Q : State → Prop} {pc : Nat} {lv : List (Option Value)} {st : List Value} {S : Mem} (hC : Ck X V cc nL own ret fr lo) {o ci k index : Nat} {j : Nat} {fl : List Nat} (hF : FOk own index ci k) (hq : (o, ci, fl) ∈ V.2.2.2.1) (hk : fl[k]? = some (j + 3)) (hd : decode cc pc = .ok (.getfield index, 3))
    (kk : G X V nL Q (pc + 3) lv (.ref (V.2.2.1 j 0) :: st) S) : G X V nL Q pc lv (.ref (V.2.2.1 o 0) :: st) S := g_getX hC hF hq hk hd kk
theorem g_putI {X : CX} {V : WV} {cc : ByteArray} {nL : Nat} {own : String} {ret : Option FieldType} {fr lo : Nat} {Q : State → Prop} {pc : Nat} {lv : List (Option Value)} {st : List Value} {S : Mem} (hC : Ck X V cc nL own ret fr lo) {o ci k index : Nat} {fl : List Nat} {ty : FieldType} {v : Int32} (hF : POk own index ci k ty) (hq : (o, ci, fl) ∈ V.2.2.2.1) (hk : fl[k]? = some 0) (hn : narrow ty (.int v) = .int v) (hf : fits ty (.int v) = true) (hd : decode cc pc = .ok (.putfield index, 3))
    (kk : G X V nL Q (pc + 3) lv st (pI S o k v)) : G X V nL Q pc lv (.int v :: .ref (V.2.2.1 o 0) :: st) S := by
  obtain ⟨p, l, e, R, s, m, args, below, meth, c, A, nc, ns⟩ := X
  obtain ⟨hx, hb, hml, hown, hts, hlk, hr, hK, hD, hV, hfr, hlo, hSK, hAV, hnc, hns, hD0⟩ := hC
  obtain ⟨C, T, N, ty0, hc, hkN, hin, hlink, hty, hnm, hfin, hdesc⟩ := hF
  intro H locs ls hP hS hl
  obtain ⟨q0, hq0, hset⟩ := WD_setO (S := S) v hV hq hk
  refine va_put hx hb hts hin ty0 hty hnm hown hK hP (hD S) hS q0 hq0 hc k hkN (hts _ hlink) (fun _ h9 => h9) hfin hdesc hn hf (by rw [flds_len]; exact (List.getElem?_eq_some_iff.mp hk).1) hd (fun H1 locs1 hP1 hD1 hS1 => ?_)
  have e : fv V.2.2.1 (pI S o k v) o k 0 = .int v := by simp [fv, pI]
  rw [e] at hset
  have hP1 : va_P V.1 vwCl ((WD V S).set q0 (V.2.2.1 o 0, .inr (ci, (flds V.2.2.1 S o 0 fl).set k (.int v)))) H1 := hP1
  rw [hset] at hP1
  exact kk H1 locs1 ls hP1 hS1 hl
theorem g_putM {X : CX} {V : WV} {cc : ByteArray} {nL : Nat} {own : String} {ret : Option FieldType} {fr lo : Nat} {Q : State → Prop} {pc : Nat} {lv : List (Option Value)} {st : List Value} {S : Mem} (hC : Ck X V cc nL own ret fr lo) {o ci k index j : Nat} {fl : List Nat} {ty : FieldType} (hF : POk own index ci k ty) (hq : (o, ci, fl) ∈ V.2.2.2.1) (hk : fl[k]? = some 2) (hn : ∀ a, narrow ty (.ref a) = .ref a) (hf : ∀ a, fits ty (.ref a) = true) (hj : j < 2 ^ 31) (hd : decode cc pc = .ok (.putfield index, 3))
    (kk : G X V nL Q (pc + 3) lv st (pI S o k (nI j))) : G X V nL Q pc lv (.ref (V.2.2.1 j 0) :: .ref (V.2.2.1 o 0) :: st) S := by
  obtain ⟨p, l, e, R, s, m, args, below, meth, c, A, nc, ns⟩ := X
  obtain ⟨hx, hb, hml, hown, hts, hlk, hr, hK, hD, hV, hfr, hlo, hSK, hAV, hnc, hns, hD0⟩ := hC
  obtain ⟨C, T, N, ty0, hc, hkN, hin, hlink, hty, hnm, hfin, hdesc⟩ := hF
  intro H locs ls hP hS hl
  obtain ⟨q0, hq0, hset⟩ := WD_setO (S := S) (nI j) hV hq hk
  refine va_put hx hb hts hin ty0 hty hnm hown hK hP (hD S) hS q0 hq0 hc k hkN (hts _ hlink) (fun _ h9 => h9) hfin hdesc (hn _) (hf _) (by rw [flds_len]; exact (List.getElem?_eq_some_iff.mp hk).1) hd (fun H1 locs1 hP1 hD1 hS1 => ?_)
  have e : fv V.2.2.1 (pI S o k (nI j)) o k 2 = .ref (V.2.2.1 j 0) := by simp [fv, pI, nI_clamp hj]
  rw [e] at hset
  have hP1 : va_P V.1 vwCl ((WD V S).set q0 (V.2.2.1 o 0, .inr (ci, (flds V.2.2.1 S o 0 fl).set k (.ref (V.2.2.1 j 0))))) H1 := hP1
  rw [hset] at hP1
  exact kk H1 locs1 ls hP1 hS1 hl
theorem g_iald {X : CX} {V : WV} {cc : ByteArray} {nL : Nat} {own : String} {ret : Option FieldType} {fr lo : Nat} {Q : State → Prop} {pc : Nat} {lv : List (Option Value)} {st : List Value} {S : Mem} (hC : Ck X V cc nL own ret fr lo) {o f n : Nat} {i : Int32} {α : Type} {w : Option α} {z : α} (hq : (o, f, 0, n) ∈ V.2.2.2.2) (hd : decode cc pc = .ok (.iaload, 1)) (h : gIn i n w = some z)
    (kk : w = some z → G X V nL Q (pc + 1) lv (.int (S.2.1 o f i.toNatClampNeg) :: st) S) : G X V nL Q pc lv (.int i :: .ref (V.2.2.1 o (f + 1)) :: st) S := by
  obtain ⟨hi, h⟩ := gIn_some h
  have kk := kk h
  obtain ⟨p, l, e, R, s, m, args, below, meth, c, A, nc, ns⟩ := X
  obtain ⟨hx, hb, hml, hown, hts, hlk, hr, hK, hD, hV, hfr, hlo, hSK, hAV, hnc, hns, hD0⟩ := hC
  intro H locs ls hP hS hl
  obtain ⟨q0, hq0⟩ := WD_getA (S := S) hq
  exact va_iald hx hb hK hP q0 0 hq0 rfl hi hd (kk H locs ls hP hS hl)
theorem g_iast {X : CX} {V : WV} {cc : ByteArray} {nL : Nat} {own : String} {ret : Option FieldType} {fr lo : Nat} {Q : State → Prop} {pc : Nat} {lv : List (Option Value)} {st : List Value} {S : Mem} (hC : Ck X V cc nL own ret fr lo) {o f n : Nat} {i x : Int32} {α : Type} {w : Option α} {z : α} (hq : (o, f, 0, n) ∈ V.2.2.2.2) (hd : decode cc pc = .ok (.iastore, 1)) (h : gIn i n w = some z)
    (kk : w = some z → G X V nL Q (pc + 1) lv st (sA S o f i x)) : G X V nL Q pc lv (.int x :: .int i :: .ref (V.2.2.1 o (f + 1)) :: st) S := by
  obtain ⟨hi, h⟩ := gIn_some h
  have kk := kk h
  obtain ⟨p, l, e, R, s, m, args, below, meth, c, A, nc, ns⟩ := X
  obtain ⟨hx, hb, hml, hown, hts, hlk, hr, hK, hD, hV, hfr, hlo, hSK, hAV, hnc, hns, hD0⟩ := hC
  intro H locs ls hP hS hl
  obtain ⟨q0, hq0, hset⟩ := WD_setA (S := S) (upd (S.2.1 o f) i.toNatClampNeg x) hV hq (by decide)
  refine va_iast hx hb hK hP (hD S) hS q0 0 hq0 rfl hi hd (fun H1 locs1 hP1 hD1 hS1 => ?_)
  rw [hset] at hP1
  exact kk H1 locs1 ls hP1 hS1 hl
theorem g_bald {X : CX} {V : WV} {cc : ByteArray} {nL : Nat} {own : String} {ret : Option FieldType} {fr lo : Nat} {Q : State → Prop} {pc : Nat} {lv : List (Option Value)} {st : List Value} {S : Mem} (hC : Ck X V cc nL own ret fr lo) {o f n : Nat} {i : Int32} {α : Type} {w : Option α} {z : α} (hq : (o, f, 1, n) ∈ V.2.2.2.2) (hd : decode cc pc = .ok (.baload, 1)) (h : gIn i n w = some z)
    (kk : w = some z → G X V nL Q (pc + 1) lv (.int (S.2.1 o f i.toNatClampNeg) :: st) S) : G X V nL Q pc lv (.int i :: .ref (V.2.2.1 o (f + 1)) :: st) S := by
  obtain ⟨hi, h⟩ := gIn_some h
  have kk := kk h
  obtain ⟨p, l, e, R, s, m, args, below, meth, c, A, nc, ns⟩ := X
  obtain ⟨hx, hb, hml, hown, hts, hlk, hr, hK, hD, hV, hfr, hlo, hSK, hAV, hnc, hns, hD0⟩ := hC
  intro H locs ls hP hS hl
  obtain ⟨q0, hq0⟩ := WD_getA (S := S) hq
  exact va_bald hx hb hK hP q0 1 hq0 rfl hi hd (kk H locs ls hP hS hl)
theorem g_bast {X : CX} {V : WV} {cc : ByteArray} {nL : Nat} {own : String} {ret : Option FieldType} {fr lo : Nat} {Q : State → Prop} {pc : Nat} {lv : List (Option Value)} {st : List Value} {S : Mem} (hC : Ck X V cc nL own ret fr lo) {o f n : Nat} {i x : Int32} {α : Type} {w : Option α} {z : α} (hq : (o, f, 1, n) ∈ V.2.2.2.2) (hd : decode cc pc = .ok (.bastore, 1)) (h : gIn i n w = some z)
    (kk : w = some z → G X V nL Q (pc + 1) lv st (sA S o f i (vp_nar .byte x))) : G X V nL Q pc lv (.int x :: .int i :: .ref (V.2.2.1 o (f + 1)) :: st) S := by
  obtain ⟨hi, h⟩ := gIn_some h
  have kk := kk h
  obtain ⟨p, l, e, R, s, m, args, below, meth, c, A, nc, ns⟩ := X
  obtain ⟨hx, hb, hml, hown, hts, hlk, hr, hK, hD, hV, hfr, hlo, hSK, hAV, hnc, hns, hD0⟩ := hC
  intro H locs ls hP hS hl
  obtain ⟨q0, hq0, hset⟩ := WD_setA (S := S) (upd (S.2.1 o f) i.toNatClampNeg (vp_nar .byte x)) hV hq (by decide)
  refine va_bast hx hb hK hP (hD S) hS q0 1 hq0 rfl hi hd (fun H1 locs1 hP1 hD1 hS1 => ?_)
  rw [hset] at hP1
  exact kk H1 locs1 ls hP1 hS1 hl
theorem g_zald {X : CX} {V : WV} {cc : ByteArray} {nL : Nat} {own : String} {ret : Option FieldType} {fr lo : Nat} {Q : State → Prop} {pc : Nat} {lv : List (Option Value)} {st : List Value} {S : Mem} (hC : Ck X V cc nL own ret fr lo) {o f n : Nat} {i : Int32} {α : Type} {w : Option α} {z : α} (hq : (o, f, 3, n) ∈ V.2.2.2.2) (hd : decode cc pc = .ok (.baload, 1)) (h : gIn i n w = some z)
    (kk : w = some z → G X V nL Q (pc + 1) lv (.int (S.2.1 o f i.toNatClampNeg) :: st) S) : G X V nL Q pc lv (.int i :: .ref (V.2.2.1 o (f + 1)) :: st) S := by
  obtain ⟨hi, h⟩ := gIn_some h
  have kk := kk h
  obtain ⟨p, l, e, R, s, m, args, below, meth, c, A, nc, ns⟩ := X
  obtain ⟨hx, hb, hml, hown, hts, hlk, hr, hK, hD, hV, hfr, hlo, hSK, hAV, hnc, hns, hD0⟩ := hC
  intro H locs ls hP hS hl
  obtain ⟨q0, hq0⟩ := WD_getA (S := S) hq
  exact va_zald hx hb hK hP q0 3 hq0 rfl hi hd (kk H locs ls hP hS hl)
theorem g_zast {X : CX} {V : WV} {cc : ByteArray} {nL : Nat} {own : String} {ret : Option FieldType} {fr lo : Nat} {Q : State → Prop} {pc : Nat} {lv : List (Option Value)} {st : List Value} {S : Mem} (hC : Ck X V cc nL own ret fr lo) {o f n : Nat} {i x : Int32} {α : Type} {w : Option α} {z : α} (hq : (o, f, 3, n) ∈ V.2.2.2.2) (hd : decode cc pc = .ok (.bastore, 1)) (h : gIn i n w = some z)
    (kk : w = some z → G X V nL Q (pc + 1) lv st (sA S o f i (vp_nar .boolean x))) : G X V nL Q pc lv (.int x :: .int i :: .ref (V.2.2.1 o (f + 1)) :: st) S := by
  obtain ⟨hi, h⟩ := gIn_some h
  have kk := kk h
  obtain ⟨p, l, e, R, s, m, args, below, meth, c, A, nc, ns⟩ := X
  obtain ⟨hx, hb, hml, hown, hts, hlk, hr, hK, hD, hV, hfr, hlo, hSK, hAV, hnc, hns, hD0⟩ := hC
  intro H locs ls hP hS hl
  obtain ⟨q0, hq0, hset⟩ := WD_setA (S := S) (upd (S.2.1 o f) i.toNatClampNeg (vp_nar .boolean x)) hV hq (by decide)
  refine va_zast hx hb hK hP (hD S) hS q0 3 hq0 rfl hi hd (fun H1 locs1 hP1 hD1 hS1 => ?_)
  rw [hset] at hP1
  exact kk H1 locs1 ls hP1 hS1 hl
theorem g_lald {X : CX} {V : WV} {cc : ByteArray} {nL : Nat} {own : String} {ret : Option FieldType} {fr lo : Nat} {Q : State → Prop} {pc : Nat} {lv : List (Option Value)} {st : List Value} {S : Mem} (hC : Ck X V cc nL own ret fr lo) {o f n : Nat} {i : Int32} {α : Type} {w : Option α} {z : α} (hq : (o, f, 2, n) ∈ V.2.2.2.2) (hd : decode cc pc = .ok (.laload, 1)) (h : gIn i n w = some z)
    (kk : w = some z → G X V nL Q (pc + 1) lv (.long (S.2.2 o f i.toNatClampNeg) :: st) S) : G X V nL Q pc lv (.int i :: .ref (V.2.2.1 o (f + 1)) :: st) S := by
  obtain ⟨hi, h⟩ := gIn_some h
  have kk := kk h
  obtain ⟨p, l, e, R, s, m, args, below, meth, c, A, nc, ns⟩ := X
  obtain ⟨hx, hb, hml, hown, hts, hlk, hr, hK, hD, hV, hfr, hlo, hSK, hAV, hnc, hns, hD0⟩ := hC
  intro H locs ls hP hS hl
  obtain ⟨q0, hq0⟩ := WD_getA (S := S) hq
  exact va_lald hx hb hK hP q0 2 hq0 rfl hi hd (kk H locs ls hP hS hl)
theorem g_last {X : CX} {V : WV} {cc : ByteArray} {nL : Nat} {own : String} {ret : Option FieldType} {fr lo : Nat} {Q : State → Prop} {pc : Nat} {lv : List (Option Value)} {st : List Value} {S : Mem} (hC : Ck X V cc nL own ret fr lo) {o f n : Nat} {i : Int32} {x : Int64} {α : Type} {w : Option α} {z : α} (hq : (o, f, 2, n) ∈ V.2.2.2.2) (hd : decode cc pc = .ok (.lastore, 1)) (h : gIn i n w = some z)
    (kk : w = some z → G X V nL Q (pc + 1) lv st (sL S o f i x)) : G X V nL Q pc lv (.long x :: .int i :: .ref (V.2.2.1 o (f + 1)) :: st) S := by
  obtain ⟨hi, h⟩ := gIn_some h
  have kk := kk h
  obtain ⟨p, l, e, R, s, m, args, below, meth, c, A, nc, ns⟩ := X
  obtain ⟨hx, hb, hml, hown, hts, hlk, hr, hK, hD, hV, hfr, hlo, hSK, hAV, hnc, hns, hD0⟩ := hC
  intro H locs ls hP hS hl
  obtain ⟨q0, hq0, hset⟩ := WD_setL (S := S) (vp_updL (S.2.2 o f) i.toNatClampNeg x) hV hq
  refine va_last hx hb hK hP (hD S) hS q0 2 hq0 rfl hi hd (fun H1 locs1 hP1 hD1 hS1 => ?_)
  rw [hset] at hP1
  exact kk H1 locs1 ls hP1 hS1 hl
theorem g_alen {X : CX} {V : WV} {cc : ByteArray} {nL : Nat} {own : String} {ret : Option FieldType} {fr lo : Nat} {Q : State → Prop} {pc : Nat} {lv : List (Option Value)} {st : List Value} {S : Mem} (hC : Ck X V cc nL own ret fr lo) {o f t n : Nat} {v : Int32} (ht : t < 4) (hq : (o, f, t, n) ∈ V.2.2.2.2) (hv : Int32.ofNat n = v) (hd : decode cc pc = .ok (.arraylength, 1))
    (kk : G X V nL Q (pc + 1) lv (.int v :: st) S) : G X V nL Q pc lv (.ref (V.2.2.1 o (f + 1)) :: st) S := by
  obtain ⟨p, l, e, R, s, m, args, below, meth, c, A, nc, ns⟩ := X
  obtain ⟨hx, hb, hml, hown, hts, hlk, hr, hK, hD, hV, hfr, hlo, hSK, hAV, hnc, hns, hD0⟩ := hC
  intro H locs ls hP hS hl
  obtain ⟨q0, hq0⟩ := WD_getA (S := S) hq
  have hq0 : (WD V S)[q0]? = some (V.2.2.1 o (f + 1), .inl (V.2.1.1 t, n, if t = 2 then .inr (.inl (S.2.2 o f)) else .inl (S.2.1 o f))) := hq0
  rcases (show t = 0 ∨ t = 1 ∨ t = 2 ∨ t = 3 by omega) with rfl | rfl | rfl | rfl
  · exact va_alen hx hb hK hP q0 0 hq0 rfl hv hd (kk H locs ls hP hS hl)
  · exact va_alen hx hb hK hP q0 1 hq0 rfl hv hd (kk H locs ls hP hS hl)
  · exact va_alen hx hb hK hP q0 2 hq0 rfl hv hd (kk H locs ls hP hS hl)
  · exact va_alen hx hb hK hP q0 3 hq0 rfl hv hd (kk H locs ls hP hS hl)
def jMmax (x y : Int32) : Int32 := if x < y then y else x
theorem g_mmax {X : CX} {V : WV} {cc : ByteArray} {nL : Nat} {own : String} {ret : Option FieldType} {fr lo : Nat} {Q : State → Prop} {pc : Nat} {lv : List (Option Value)} {st : List Value} {S : Mem} (hC : Ck X V cc nL own ret fr lo) {index : Nat} {x y : Int32} (hl0 : Cond.methodLink own index Lib.Math.max.name ∈ gTbl) (hst : (st.map fun v => v.category).sum ≤ 8) (hR : 1 ≤ fr ∧ 21 ≤ lo) (hd : decode cc pc = .ok (.invokestatic index, 3))
    (kk : G X V nL Q (pc + 3) lv (.int (jMmax x y) :: st) S) : G X V nL Q pc lv (.int y :: .int x :: st) S := by
  obtain ⟨p, l, e, R, s, m, args, below, meth, c, A, nc, ns⟩ := X
  obtain ⟨hx, hb, hml, hown, hts, hlk, hr, hK, hD, hV, hfr, hlo, hSK, hAV, hnc, hns, hD0⟩ := hC
  intro H locs ls hP hS hl
  exact va_mmax hx hb (hml.trans hl.1.symm) hown (hts _ hl0) (hts _ gw_max_s) (hts _ gw_math) (hts _ gw_max_c) (Nat.le_trans hR.1 hfr) (by omega) hnc hns hd (kk H locs ls hP hS hl)
def jMmin (x y : Int32) : Int32 := if y < x then y else x
theorem g_mmin {X : CX} {V : WV} {cc : ByteArray} {nL : Nat} {own : String} {ret : Option FieldType} {fr lo : Nat} {Q : State → Prop} {pc : Nat} {lv : List (Option Value)} {st : List Value} {S : Mem} (hC : Ck X V cc nL own ret fr lo) {index : Nat} {x y : Int32} (hl0 : Cond.methodLink own index Lib.Math.min.name ∈ gTbl) (hst : (st.map fun v => v.category).sum ≤ 8) (hR : 1 ≤ fr ∧ 21 ≤ lo) (hd : decode cc pc = .ok (.invokestatic index, 3))
    (kk : G X V nL Q (pc + 3) lv (.int (jMmin x y) :: st) S) : G X V nL Q pc lv (.int y :: .int x :: st) S := by
  obtain ⟨p, l, e, R, s, m, args, below, meth, c, A, nc, ns⟩ := X
  obtain ⟨hx, hb, hml, hown, hts, hlk, hr, hK, hD, hV, hfr, hlo, hSK, hAV, hnc, hns, hD0⟩ := hC
  intro H locs ls hP hS hl
  exact va_mmin hx hb (hml.trans hl.1.symm) hown (hts _ hl0) (hts _ gw_min_s) (hts _ gw_math) (hts _ gw_min_c) (Nat.le_trans hR.1 hfr) (by omega) hnc hns hd (kk H locs ls hP hS hl)
theorem gCp_some {α : Type} {sp dp n : Int32} {n0 n1 : Nat} {k : Option α} {r : α} (h : gCp sp dp n n0 n1 k = some r) : (¬ sp < 0 ∧ ¬ dp < 0 ∧ ¬ n < 0 ∧ sp.toNatClampNeg + n.toNatClampNeg ≤ n0 ∧ dp.toNatClampNeg + n.toNatClampNeg ≤ n1) ∧ k = some r := by
  unfold gCp at h
  split at h
  · cases h
  · rename_i q
    refine ⟨⟨fun z => q (Or.inl z), fun z => q (Or.inr (Or.inl z)), fun z => q (Or.inr (Or.inr (Or.inl z))), ?_, ?_⟩, h⟩
    · rcases Nat.lt_or_ge n0 (sp.toNatClampNeg + n.toNatClampNeg) with z | z
      · exact absurd (Or.inr (Or.inr (Or.inr (Or.inl z)))) q
      · exact z
    · rcases Nat.lt_or_ge n1 (dp.toNatClampNeg + n.toNatClampNeg) with z | z
      · exact absurd (Or.inr (Or.inr (Or.inr (Or.inr z)))) q
      · exact z
def sCp (S : Mem) (o f o2 f2 : Nat) (sp dp n : Int32) : Mem := pA S o2 f2 (va_cpy (S.2.1 o f) (S.2.1 o2 f2) sp.toNatClampNeg dp.toNatClampNeg n.toNatClampNeg)
theorem g_copy {X : CX} {V : WV} {cc : ByteArray} {nL : Nat} {own : String} {ret : Option FieldType} {fr lo : Nat} {Q : State → Prop} {pc : Nat} {lv : List (Option Value)} {st : List Value} {S : Mem} (hC : Ck X V cc nL own ret fr lo) {index : Nat} {o f n0 o2 f2 n1 : Nat} {sp dp n : Int32} {α : Type} {w : Option α} {z : α} (hl0 : Cond.methodLink own index arraycopyName ∈ gTbl) (hq : (o, f, 0, n0) ∈ V.2.2.2.2) (hq2 : (o2, f2, 0, n1) ∈ V.2.2.2.2) (hst : (st.map fun v => v.category).sum ≤ 8) (hR : 1 ≤ fr ∧ 8 + (nativeFrameWords "java/lang/System" "arraycopy" 5 + 11) ≤ lo) (hd : decode cc pc = .ok (.invokestatic index, 3)) (h : gCp sp dp n n0 n1 w = some z)
    (kk : w = some z → G X V nL Q (pc + 3) lv st (sCp S o f o2 f2 sp dp n)) : G X V nL Q pc lv (.int n :: .int dp :: .ref (V.2.2.1 o2 (f2 + 1)) :: .int sp :: .ref (V.2.2.1 o (f + 1)) :: st) S := by
  obtain ⟨⟨h1, h2, h3, h4, h5⟩, h⟩ := gCp_some h
  have kk := kk h
  obtain ⟨p, l, e, R, s, m, args, below, meth, c, A, nc, ns⟩ := X
  obtain ⟨hx, hb, hml, hown, hts, hlk, hr, hK, hD, hV, hfr, hlo, hSK, hAV, hnc, hns, hD0⟩ := hC
  intro H locs ls hP hS hl
  obtain ⟨q0, hq0⟩ := WD_getA (S := S) hq
  obtain ⟨q1, hq1, hset⟩ := WD_setA (S := S) (va_cpy (S.2.1 o f) (S.2.1 o2 f2) sp.toNatClampNeg dp.toNatClampNeg n.toNatClampNeg) hV hq2 (by decide)
  refine va_copyi (ty := .int) hx hb (hml.trans hl.1.symm) hown (hts _ hl0) (hts _ gw_copy_n) (hts _ gw_copy_s) (hts _ gw_sys) hK hP (hD S) hS q0 q1 0 0 hq0 hq1 rfl rfl rfl h1 h2 h3 h4 h5 (fun _ _ => rfl) (Nat.le_trans hR.1 hfr) (by omega) hd (fun H1 locs1 hP1 hD1 hS1 => ?_)
  rw [hset] at hP1
  exact kk H1 locs1 ls hP1 hS1 hl
def QI (X : CX) (V : WV) (r : Int32) (S' : Mem) : State → Prop := match X with
  | (_, _, _, _, s, _, args, below, _, _, A, nc, ns) => MQ below (va_Qi (fun (x : Int32) (u : Mem) => x = r ∧ u = S') (fun u t => WH V u t) A) args s nc ns A
def QL (X : CX) (V : WV) (r : Int64) (S' : Mem) : State → Prop := match X with
  | (_, _, _, _, s, _, args, below, _, _, A, nc, ns) => MQ below (va_Ql (fun (x : Int64) (u : Mem) => x = r ∧ u = S') (fun u t => WH V u t) A) args s nc ns A
def QV (X : CX) (V : WV) (S' : Mem) : State → Prop := match X with
  | (_, _, _, _, s, _, args, below, _, _, A, nc, ns) => MQ below (va_Qv (fun (u : Mem) => u = S') (fun u t => WH V u t) A) args s nc ns A
theorem g_ireturn {X : CX} {V : WV} {cc : ByteArray} {nL : Nat} {own : String} {fr lo : Nat} {pc : Nat} {lv : List (Option Value)} {S : Mem} {ty : FieldType} (hC : Ck X V cc nL own (some ty) fr lo) {v : Int32} (hn : narrow ty (.int v) = .int v) (hd : decode cc pc = .ok (.ireturn, 1)) : G X V nL (QI X V v S) pc lv [.int v] S := by
  obtain ⟨p, l, e, R, s, m, args, below, meth, c, A, nc, ns⟩ := X
  obtain ⟨hx, hb, hml, hown, hts, hlk, hr, hK, hD, hV, hfr, hlo, hSK, hAV, hnc, hns, hD0⟩ := hC
  intro H locs ls hP hS hl
  exact W.zret hx hb hr hn (fun t ht hW => ⟨⟨v, S, rfl, ⟨rfl, rfl⟩, by rw [ht]; exact hP, va_K.moved hW.alike hK, hD0 S, (hSK.go hS ht hW).nar hAV⟩, hS.F ht⟩) hS.2.2 hd
theorem g_lreturn {X : CX} {V : WV} {cc : ByteArray} {nL : Nat} {own : String} {fr lo : Nat} {pc : Nat} {lv : List (Option Value)} {S : Mem} (hC : Ck X V cc nL own (some .long) fr lo) {v : Int64} (hd : decode cc pc = .ok (.lreturn, 1)) : G X V nL (QL X V v S) pc lv [.long v] S := by
  obtain ⟨p, l, e, R, s, m, args, below, meth, c, A, nc, ns⟩ := X
  obtain ⟨hx, hb, hml, hown, hts, hlk, hr, hK, hD, hV, hfr, hlo, hSK, hAV, hnc, hns, hD0⟩ := hC
  intro H locs ls hP hS hl
  exact W.lret hx hb hr (fun t ht hW => ⟨⟨v, S, rfl, ⟨rfl, rfl⟩, by rw [ht]; exact hP, va_K.moved hW.alike hK, hD0 S, (hSK.go hS ht hW).nar hAV⟩, hS.F ht⟩) hS.2.2 hd
theorem g_return {X : CX} {V : WV} {cc : ByteArray} {nL : Nat} {own : String} {fr lo : Nat} {pc : Nat} {lv : List (Option Value)} {S : Mem} (hC : Ck X V cc nL own none fr lo) (hd : decode cc pc = .ok (.return_, 1)) : G X V nL (QV X V S) pc lv [] S := by
  obtain ⟨p, l, e, R, s, m, args, below, meth, c, A, nc, ns⟩ := X
  obtain ⟨hx, hb, hml, hown, hts, hlk, hr, hK, hD, hV, hfr, hlo, hSK, hAV, hnc, hns, hD0⟩ := hC
  intro H locs ls hP hS hl
  exact W.vret hx hb hr (fun t ht hW => ⟨⟨S, rfl, rfl, by rw [ht]; exact hP, va_K.moved hW.alike hK, hD0 S, (hSK.go hS ht hW).nar hAV⟩, hS.F ht⟩) hS.2.2 hd
def CI (V : WV) (l : Launch) (y : MethodName) (cc : ByteArray) (nL : Nat) (ret : Option FieldType) (fr lo : Nat) (av : List Value) (S : Mem) (r : Int32) (S' : Mem) : Prop :=
  Met l y (Cond.code y cc nL ret :: gTbl) { frames := fr, cells := 0, slots := 0, locals := lo } (va_Pc av (fun U => WH V S U)) (va_Qi (fun (x : Int32) (u : Mem) => x = r ∧ u = S') (fun u t => WH V u t) (AV V)) 0 0 (AV V)
def CL (V : WV) (l : Launch) (y : MethodName) (cc : ByteArray) (nL : Nat) (ret : Option FieldType) (fr lo : Nat) (av : List Value) (S : Mem) (r : Int64) (S' : Mem) : Prop :=
  Met l y (Cond.code y cc nL ret :: gTbl) { frames := fr, cells := 0, slots := 0, locals := lo } (va_Pc av (fun U => WH V S U)) (va_Ql (fun (x : Int64) (u : Mem) => x = r ∧ u = S') (fun u t => WH V u t) (AV V)) 0 0 (AV V)
def CV (V : WV) (l : Launch) (y : MethodName) (cc : ByteArray) (nL : Nat) (ret : Option FieldType) (fr lo : Nat) (av : List Value) (S : Mem) (S' : Mem) : Prop :=
  Met l y (Cond.code y cc nL ret :: gTbl) { frames := fr, cells := 0, slots := 0, locals := lo } (va_Pc av (fun U => WH V S U)) (va_Qv (fun (u : Mem) => u = S') (fun u t => WH V u t) (AV V)) 0 0 (AV V)
def lvArgs : List Value → List (Option Value)
  | [] => []
  | v :: vs => if v.category = 2 then some v :: none :: lvArgs vs else some v :: lvArgs vs
theorem lvArgs_in : ∀ (vs : List Value) (b i : Nat) (v : Value), (lvArgs vs)[i]? = some (some v) → (b + i, v) ∈ lv_args b vs
  | [], b, i, v, h => by simp [lvArgs] at h
  | w :: vs, b, i, v, h => by
    unfold lvArgs at h
    unfold lv_args
    by_cases hc : w.category = 2
    · rw [if_pos hc] at h ⊢
      match i, h with
      | 0, h => simp at h; rw [h]; exact List.mem_cons_self
      | 1, h => simp at h
      | i + 2, h =>
        simp at h
        have := lvArgs_in vs (b + 2) i v h
        rw [show b + (i + 2) = b + 2 + i by omega]
        exact List.mem_cons_of_mem _ this
    · rw [if_neg hc] at h ⊢
      match i, h with
      | 0, h => simp at h; rw [h]; exact List.mem_cons_self
      | i + 1, h =>
        simp at h
        have := lvArgs_in vs (b + 1) i v h
        rw [show b + (i + 1) = b + 1 + i by omega]
        exact List.mem_cons_of_mem _ this
theorem WD_D {V : WV} {S : Mem} (h : va_D (AV V) (WD V S)) (S' : Mem) : va_D (AV V) (WD V S') := by
  have key : ∀ (k : Nat) (q : Nat × va_E), (WD V S')[k]? = some q → ∃ q2, (WD V S)[k]? = some q2 ∧ q2.1 = q.1 := by
    intro k q hk
    have h1 : ((WD V S').map (fun x => x.1))[k]? = some q.1 := by simp [hk]
    have e : (WD V S').map (fun x => x.1) = (WD V S).map (fun x => x.1) := by simp [WD, eO, eA, Function.comp_def]
    rw [e, List.getElem?_map] at h1
    cases h2 : (WD V S)[k]? with
    | none => rw [h2] at h1; simp at h1
    | some q2 => rw [h2] at h1; simp at h1; exact ⟨q2, rfl, h1⟩
  refine ⟨fun i j p q hi hj hpq => ?_, fun k q hk => ?_⟩
  · obtain ⟨p2, a1, a2⟩ := key i p hi
    obtain ⟨q2, b1, b2⟩ := key j q hj
    exact h.1 i j p2 q2 a1 b1 (by rw [a2, b2, hpq])
  · obtain ⟨q2, b1, b2⟩ := key k q hk
    rw [← b2]
    exact h.2 k q2 b1
theorem ct_i {V : WV} {l : Launch} {y : MethodName} {cc : ByteArray} {nL : Nat} {ret : Option FieldType} {fr lo : Nat} {av : List Value} {S : Mem} {r : Int32} {S2 : Mem} (hy : plainName y.cls = true) (hV : VOk V) (hlen : (lg_sl av).length ≤ nL)
    (body : ∀ X : CX, X.2.1 = l → Ck X V cc nL y.cls ret fr lo → G X V nL (QI X V r S2) 0 (lvArgs av ++ List.replicate (nL - (lvArgs av).length) none) [] S) : CI V l y cc nL ret fr lo av S r S2 := by
  refine Met.ofW (cc := cc) (maxL := nL) (ret := ret) hy rfl ?_
  intro p e s m args below meth c s₁ B hml hv
  obtain ⟨rfl, hP, hK, hD, hSK⟩ := hv
  have hts := atoms_spec (ws := Cond.code y cc nL ret :: gTbl) B.pre
  have hl := lv_entry av (n := nL) hlen
  rw [lg_entry_eq]
  refine body (p, l, e, _, s, m, _, below, meth, c, AV V, 0, 0) rfl ⟨B.exec, B.bytes, hml, findClass_of_methodNamed B.named, fun w hw => hts w (List.mem_cons_of_mem _ hw), B.notSynchronized, B.returns, hK, WD_D hD, hV, Nat.le_refl _, Nat.le_refl _, hSK, fun _ h => h, Nat.zero_le _, Nat.zero_le _, WD_D hD⟩ s.heap [] _ hP va_S.rf ⟨hl.1, hl.2.1, fun i v hi => ?_⟩
  have hi : (lvArgs av)[i]? = some (some v) := by
    rw [List.getElem?_append] at hi
    split at hi
    · exact hi
    · rw [List.getElem?_replicate] at hi
      split at hi
      · simp at hi
      · simp at hi
  have := lvArgs_in av 0 i v hi
  rw [Nat.zero_add] at this
  exact hl.2.2 (i, v) this
theorem ct_l {V : WV} {l : Launch} {y : MethodName} {cc : ByteArray} {nL : Nat} {ret : Option FieldType} {fr lo : Nat} {av : List Value} {S : Mem} {r : Int64} {S2 : Mem} (hy : plainName y.cls = true) (hV : VOk V) (hlen : (lg_sl av).length ≤ nL)
    (body : ∀ X : CX, X.2.1 = l → Ck X V cc nL y.cls ret fr lo → G X V nL (QL X V r S2) 0 (lvArgs av ++ List.replicate (nL - (lvArgs av).length) none) [] S) : CL V l y cc nL ret fr lo av S r S2 := by
  refine Met.ofW (cc := cc) (maxL := nL) (ret := ret) hy rfl ?_
  intro p e s m args below meth c s₁ B hml hv
  obtain ⟨rfl, hP, hK, hD, hSK⟩ := hv
  have hts := atoms_spec (ws := Cond.code y cc nL ret :: gTbl) B.pre
  have hl := lv_entry av (n := nL) hlen
  rw [lg_entry_eq]
  refine body (p, l, e, _, s, m, _, below, meth, c, AV V, 0, 0) rfl ⟨B.exec, B.bytes, hml, findClass_of_methodNamed B.named, fun w hw => hts w (List.mem_cons_of_mem _ hw), B.notSynchronized, B.returns, hK, WD_D hD, hV, Nat.le_refl _, Nat.le_refl _, hSK, fun _ h => h, Nat.zero_le _, Nat.zero_le _, WD_D hD⟩ s.heap [] _ hP va_S.rf ⟨hl.1, hl.2.1, fun i v hi => ?_⟩
  have hi : (lvArgs av)[i]? = some (some v) := by
    rw [List.getElem?_append] at hi
    split at hi
    · exact hi
    · rw [List.getElem?_replicate] at hi
      split at hi
      · simp at hi
      · simp at hi
  have := lvArgs_in av 0 i v hi
  rw [Nat.zero_add] at this
  exact hl.2.2 (i, v) this
theorem ct_v {V : WV} {l : Launch} {y : MethodName} {cc : ByteArray} {nL : Nat} {ret : Option FieldType} {fr lo : Nat} {av : List Value} {S : Mem} {S2 : Mem} (hy : plainName y.cls = true) (hV : VOk V) (hlen : (lg_sl av).length ≤ nL)
    (body : ∀ X : CX, X.2.1 = l → Ck X V cc nL y.cls ret fr lo → G X V nL (QV X V S2) 0 (lvArgs av ++ List.replicate (nL - (lvArgs av).length) none) [] S) : CV V l y cc nL ret fr lo av S S2 := by
  refine Met.ofW (cc := cc) (maxL := nL) (ret := ret) hy rfl ?_
  intro p e s m args below meth c s₁ B hml hv
  obtain ⟨rfl, hP, hK, hD, hSK⟩ := hv
  have hts := atoms_spec (ws := Cond.code y cc nL ret :: gTbl) B.pre
  have hl := lv_entry av (n := nL) hlen
  rw [lg_entry_eq]
  refine body (p, l, e, _, s, m, _, below, meth, c, AV V, 0, 0) rfl ⟨B.exec, B.bytes, hml, findClass_of_methodNamed B.named, fun w hw => hts w (List.mem_cons_of_mem _ hw), B.notSynchronized, B.returns, hK, WD_D hD, hV, Nat.le_refl _, Nat.le_refl _, hSK, fun _ h => h, Nat.zero_le _, Nat.zero_le _, WD_D hD⟩ s.heap [] _ hP va_S.rf ⟨hl.1, hl.2.1, fun i v hi => ?_⟩
  have hi : (lvArgs av)[i]? = some (some v) := by
    rw [List.getElem?_append] at hi
    split at hi
    · exact hi
    · rw [List.getElem?_replicate] at hi
      split at hi
      · simp at hi
      · simp at hi
  have := lvArgs_in av 0 i v hi
  rw [Nat.zero_add] at this
  exact hl.2.2 (i, v) this
def MV (y : MethodName) (bytes : ByteArray) (mL : Nat) (ret : Option FieldType) (n : Nat) : Prop := Cond.instanceMethod y ∈ gTbl ∧ Cond.selects y.cls y y ∈ gTbl ∧ Cond.initialized y.cls ∈ gTbl ∧ Cond.code y bytes mL ret ∈ gTbl ∧ (y.cls ≠ "java/lang/invoke/MethodHandle" ∧ y.cls ≠ "java/lang/invoke/VarHandle" ∧ (parseMethodDescriptor y.desc).map (fun d => d.parameters.length) = some n)
def MS (y : MethodName) (bytes : ByteArray) (mL : Nat) (ret : Option FieldType) (n : Nat) : Prop := Cond.static y ∈ gTbl ∧ Cond.initialized y.cls ∈ gTbl ∧ Cond.code y bytes mL ret ∈ gTbl ∧ (y.cls ≠ "java/lang/invoke/MethodHandle" ∧ y.cls ≠ "java/lang/invoke/VarHandle" ∧ (parseMethodDescriptor y.desc).map (fun d => d.parameters.length) = some n)
theorem good_tbl {y : MethodName} {bytes : ByteArray} {mL : Nat} {ret : Option FieldType} (h : Cond.code y bytes mL ret ∈ gTbl) : GoodIn gTbl (Cond.code y bytes mL ret :: gTbl) := by
  intro w hw
  rcases List.mem_cons.mp hw with rfl | hw
  · exact ⟨h, good_of_word (gt_good h)⟩
  · exact ⟨hw, good_of_word (gt_good hw)⟩
theorem blind_WH {V : WV} {S : Mem} {av : List Value} : FrameBlind (va_Pc av (fun U => WH V S U)) := fun a U g mk q => by
  obtain ⟨q0, qP, qK, qD, qS⟩ := q
  exact ⟨q0, qP, va_K.moved (u := U) (U := U.calling g mk a) (Vm.Alike.refl U.vm) qK, qD, qS.same rfl rfl⟩
theorem g_vi {X : CX} {V : WV} {cc : ByteArray} {nL : Nat} {own : String} {ret : Option FieldType} {fr lo : Nat} {Q : State → Prop} {pc : Nat} {lv : List (Option Value)} {st : List Value} {S : Mem} (hC : Ck X V cc nL own ret fr lo) {y : MethodName} {bytes : ByteArray} {mL index o ci fr1 lo1 : Nat} {ret1 : Option FieldType} {fl : List Nat} {As : List Value} {r : Int32} {S1 : Mem} (hm : MV y bytes mL ret1 As.length) (hl0 : Cond.methodLink own index y ∈ gTbl) (hci : (vwCl[ci]?).map (fun q => q.1) = some y.cls) (hq : (o, ci, fl) ∈ V.2.2.2.1) (hst : (st.map fun v => v.category).sum ≤ 8) (hR : fr1 + 1 ≤ fr ∧ 8 + (mL + 11) + lo1 ≤ lo) {stk : List Value} (hsk : stk = As.reverse ++ .ref (V.2.2.1 o 0) :: st) (hd : decode cc pc = .ok (.invokevirtual index, 3))
    (hM : CI V X.2.1 y bytes mL ret1 fr1 lo1 (.ref (V.2.2.1 o 0) :: As) S r S1) (kk : G X V nL Q (pc + 3) lv (.int r :: st) S1) : G X V nL Q pc lv stk S := by
  subst hsk
  obtain ⟨p, l, e, R, s, m, args, below, meth, c, A, nc, ns⟩ := X
  obtain ⟨hx, hb, hml, hown, hts, hlk, hr, hK, hD, hV, hfr, hlo, hSK, hAV, hnc, hns, hD0⟩ := hC
  intro H locs ls hP hS hl
  obtain ⟨hm1, hm2, hm3, hm4, hm5⟩ := hm
  obtain ⟨qc, hc1, hc2⟩ := Option.map_eq_some_iff.mp hci
  obtain ⟨q0, hq0⟩ := WD_getO (S := S) hq
  have hrec := va_recv hK hP hc1 hq0
  rw [hc2] at hrec
  refine va_calli (va_runV (As := As) (rest := st) (C := y.cls) (Ts := gTbl) ⟨hx, hb, hml, hown, hts⟩ hM ⟨callB_of As.length hts (good_tbl hm4) rfl rfl rfl (hts _ hm3) (hts _ hl0) hm5 ⟨Nat.le_trans hR.1 hfr, Nat.le_trans hR.2 hlo⟩, hts _ hm1, hts _ hm2⟩ ⟨blind_WH, hrec, fun U hU hW => ⟨rfl, by rw [hU]; exact hP, va_K.moved hW.alike hK, hD0 S, (hSK.go hS hU hW).nar hAV⟩⟩ rfl rfl hl.1 rfl (lv_room hst) hd ⟨hnc, hns⟩) hS (fun q _ h => hAV q h) (fun q h => hAV q h) (fun r2 u t H1 locs1 ht hvm hw hB hz hk hS => ?_)
  obtain ⟨rfl, rfl⟩ := hw
  exact kk H1 locs1 ls (by rw [← ht]; exact hB.1) hS hl
theorem g_si {X : CX} {V : WV} {cc : ByteArray} {nL : Nat} {own : String} {ret : Option FieldType} {fr lo : Nat} {Q : State → Prop} {pc : Nat} {lv : List (Option Value)} {st : List Value} {S : Mem} (hC : Ck X V cc nL own ret fr lo) {y : MethodName} {bytes : ByteArray} {mL index fr1 lo1 : Nat} {ret1 : Option FieldType} {As : List Value} {r : Int32} {S1 : Mem} (hm : MS y bytes mL ret1 As.length) (hl0 : Cond.methodLink own index y ∈ gTbl) (hst : (st.map fun v => v.category).sum ≤ 8) (hR : fr1 + 1 ≤ fr ∧ 8 + (mL + 11) + lo1 ≤ lo) {stk : List Value} (hsk : stk = As.reverse ++ st) (hd : decode cc pc = .ok (.invokestatic index, 3))
    (hM : CI V X.2.1 y bytes mL ret1 fr1 lo1 As S r S1) (kk : G X V nL Q (pc + 3) lv (.int r :: st) S1) : G X V nL Q pc lv stk S := by
  subst hsk
  obtain ⟨p, l, e, R, s, m, args, below, meth, c, A, nc, ns⟩ := X
  obtain ⟨hx, hb, hml, hown, hts, hlk, hr, hK, hD, hV, hfr, hlo, hSK, hAV, hnc, hns, hD0⟩ := hC
  intro H locs ls hP hS hl
  obtain ⟨hm1, hm3, hm4, hm5⟩ := hm
  refine va_calli (va_runS (As := As) (rest := st) (Ts := gTbl) ⟨hx, hb, hml, hown, hts⟩ hM ⟨callB_of As.length hts (good_tbl hm4) rfl rfl rfl (hts _ hm3) (hts _ hl0) hm5 ⟨Nat.le_trans hR.1 hfr, Nat.le_trans hR.2 hlo⟩, hts _ hm1⟩ ⟨blind_WH, fun U hU hW => ⟨rfl, by rw [hU]; exact hP, va_K.moved hW.alike hK, hD0 S, (hSK.go hS hU hW).nar hAV⟩⟩ rfl rfl hl.1 rfl (lv_room hst) hd ⟨hnc, hns⟩) hS (fun q _ h => hAV q h) (fun q h => hAV q h) (fun r2 u t H1 locs1 ht hvm hw hB hz hk hS => ?_)
  obtain ⟨rfl, rfl⟩ := hw
  exact kk H1 locs1 ls (by rw [← ht]; exact hB.1) hS hl
theorem g_vl {X : CX} {V : WV} {cc : ByteArray} {nL : Nat} {own : String} {ret : Option FieldType} {fr lo : Nat} {Q : State → Prop} {pc : Nat} {lv : List (Option Value)} {st : List Value} {S : Mem} (hC : Ck X V cc nL own ret fr lo) {y : MethodName} {bytes : ByteArray} {mL index o ci fr1 lo1 : Nat} {ret1 : Option FieldType} {fl : List Nat} {As : List Value} {r : Int64} {S1 : Mem} (hm : MV y bytes mL ret1 As.length) (hl0 : Cond.methodLink own index y ∈ gTbl) (hci : (vwCl[ci]?).map (fun q => q.1) = some y.cls) (hq : (o, ci, fl) ∈ V.2.2.2.1) (hst : (st.map fun v => v.category).sum ≤ 8) (hR : fr1 + 1 ≤ fr ∧ 8 + (mL + 11) + lo1 ≤ lo) {stk : List Value} (hsk : stk = As.reverse ++ .ref (V.2.2.1 o 0) :: st) (hd : decode cc pc = .ok (.invokevirtual index, 3))
    (hM : CL V X.2.1 y bytes mL ret1 fr1 lo1 (.ref (V.2.2.1 o 0) :: As) S r S1) (kk : G X V nL Q (pc + 3) lv (.long r :: st) S1) : G X V nL Q pc lv stk S := by
  subst hsk
  obtain ⟨p, l, e, R, s, m, args, below, meth, c, A, nc, ns⟩ := X
  obtain ⟨hx, hb, hml, hown, hts, hlk, hr, hK, hD, hV, hfr, hlo, hSK, hAV, hnc, hns, hD0⟩ := hC
  intro H locs ls hP hS hl
  obtain ⟨hm1, hm2, hm3, hm4, hm5⟩ := hm
  obtain ⟨qc, hc1, hc2⟩ := Option.map_eq_some_iff.mp hci
  obtain ⟨q0, hq0⟩ := WD_getO (S := S) hq
  have hrec := va_recv hK hP hc1 hq0
  rw [hc2] at hrec
  refine va_calll (va_runV (As := As) (rest := st) (C := y.cls) (Ts := gTbl) ⟨hx, hb, hml, hown, hts⟩ hM ⟨callB_of As.length hts (good_tbl hm4) rfl rfl rfl (hts _ hm3) (hts _ hl0) hm5 ⟨Nat.le_trans hR.1 hfr, Nat.le_trans hR.2 hlo⟩, hts _ hm1, hts _ hm2⟩ ⟨blind_WH, hrec, fun U hU hW => ⟨rfl, by rw [hU]; exact hP, va_K.moved hW.alike hK, hD0 S, (hSK.go hS hU hW).nar hAV⟩⟩ rfl rfl hl.1 rfl (lv_room hst) hd ⟨hnc, hns⟩) hS (fun q _ h => hAV q h) (fun q h => hAV q h) (fun r2 u t H1 locs1 ht hvm hw hB hz hk hS => ?_)
  obtain ⟨rfl, rfl⟩ := hw
  exact kk H1 locs1 ls (by rw [← ht]; exact hB.1) hS hl
theorem g_sl {X : CX} {V : WV} {cc : ByteArray} {nL : Nat} {own : String} {ret : Option FieldType} {fr lo : Nat} {Q : State → Prop} {pc : Nat} {lv : List (Option Value)} {st : List Value} {S : Mem} (hC : Ck X V cc nL own ret fr lo) {y : MethodName} {bytes : ByteArray} {mL index fr1 lo1 : Nat} {ret1 : Option FieldType} {As : List Value} {r : Int64} {S1 : Mem} (hm : MS y bytes mL ret1 As.length) (hl0 : Cond.methodLink own index y ∈ gTbl) (hst : (st.map fun v => v.category).sum ≤ 8) (hR : fr1 + 1 ≤ fr ∧ 8 + (mL + 11) + lo1 ≤ lo) {stk : List Value} (hsk : stk = As.reverse ++ st) (hd : decode cc pc = .ok (.invokestatic index, 3))
    (hM : CL V X.2.1 y bytes mL ret1 fr1 lo1 As S r S1) (kk : G X V nL Q (pc + 3) lv (.long r :: st) S1) : G X V nL Q pc lv stk S := by
  subst hsk
  obtain ⟨p, l, e, R, s, m, args, below, meth, c, A, nc, ns⟩ := X
  obtain ⟨hx, hb, hml, hown, hts, hlk, hr, hK, hD, hV, hfr, hlo, hSK, hAV, hnc, hns, hD0⟩ := hC
  intro H locs ls hP hS hl
  obtain ⟨hm1, hm3, hm4, hm5⟩ := hm
  refine va_calll (va_runS (As := As) (rest := st) (Ts := gTbl) ⟨hx, hb, hml, hown, hts⟩ hM ⟨callB_of As.length hts (good_tbl hm4) rfl rfl rfl (hts _ hm3) (hts _ hl0) hm5 ⟨Nat.le_trans hR.1 hfr, Nat.le_trans hR.2 hlo⟩, hts _ hm1⟩ ⟨blind_WH, fun U hU hW => ⟨rfl, by rw [hU]; exact hP, va_K.moved hW.alike hK, hD0 S, (hSK.go hS hU hW).nar hAV⟩⟩ rfl rfl hl.1 rfl (lv_room hst) hd ⟨hnc, hns⟩) hS (fun q _ h => hAV q h) (fun q h => hAV q h) (fun r2 u t H1 locs1 ht hvm hw hB hz hk hS => ?_)
  obtain ⟨rfl, rfl⟩ := hw
  exact kk H1 locs1 ls (by rw [← ht]; exact hB.1) hS hl
theorem g_vv {X : CX} {V : WV} {cc : ByteArray} {nL : Nat} {own : String} {ret : Option FieldType} {fr lo : Nat} {Q : State → Prop} {pc : Nat} {lv : List (Option Value)} {st : List Value} {S : Mem} (hC : Ck X V cc nL own ret fr lo) {y : MethodName} {bytes : ByteArray} {mL index o ci fr1 lo1 : Nat} {ret1 : Option FieldType} {fl : List Nat} {As : List Value} {S1 : Mem} (hm : MV y bytes mL ret1 As.length) (hl0 : Cond.methodLink own index y ∈ gTbl) (hci : (vwCl[ci]?).map (fun q => q.1) = some y.cls) (hq : (o, ci, fl) ∈ V.2.2.2.1) (hst : (st.map fun v => v.category).sum ≤ 8) (hR : fr1 + 1 ≤ fr ∧ 8 + (mL + 11) + lo1 ≤ lo) {stk : List Value} (hsk : stk = As.reverse ++ .ref (V.2.2.1 o 0) :: st) (hd : decode cc pc = .ok (.invokevirtual index, 3))
    (hM : CV V X.2.1 y bytes mL ret1 fr1 lo1 (.ref (V.2.2.1 o 0) :: As) S S1) (kk : G X V nL Q (pc + 3) lv (st) S1) : G X V nL Q pc lv stk S := by
  subst hsk
  obtain ⟨p, l, e, R, s, m, args, below, meth, c, A, nc, ns⟩ := X
  obtain ⟨hx, hb, hml, hown, hts, hlk, hr, hK, hD, hV, hfr, hlo, hSK, hAV, hnc, hns, hD0⟩ := hC
  intro H locs ls hP hS hl
  obtain ⟨hm1, hm2, hm3, hm4, hm5⟩ := hm
  obtain ⟨qc, hc1, hc2⟩ := Option.map_eq_some_iff.mp hci
  obtain ⟨q0, hq0⟩ := WD_getO (S := S) hq
  have hrec := va_recv hK hP hc1 hq0
  rw [hc2] at hrec
  refine va_callv (va_runV (As := As) (rest := st) (C := y.cls) (Ts := gTbl) ⟨hx, hb, hml, hown, hts⟩ hM ⟨callB_of As.length hts (good_tbl hm4) rfl rfl rfl (hts _ hm3) (hts _ hl0) hm5 ⟨Nat.le_trans hR.1 hfr, Nat.le_trans hR.2 hlo⟩, hts _ hm1, hts _ hm2⟩ ⟨blind_WH, hrec, fun U hU hW => ⟨rfl, by rw [hU]; exact hP, va_K.moved hW.alike hK, hD0 S, (hSK.go hS hU hW).nar hAV⟩⟩ rfl rfl hl.1 rfl (lv_room hst) hd ⟨hnc, hns⟩) hS (fun q _ h => hAV q h) (fun q h => hAV q h) (fun u t H1 locs1 ht hvm hw hB hz hk hS => ?_)
  obtain rfl := hw
  exact kk H1 locs1 ls (by rw [← ht]; exact hB.1) hS hl
theorem g_sv {X : CX} {V : WV} {cc : ByteArray} {nL : Nat} {own : String} {ret : Option FieldType} {fr lo : Nat} {Q : State → Prop} {pc : Nat} {lv : List (Option Value)} {st : List Value} {S : Mem} (hC : Ck X V cc nL own ret fr lo) {y : MethodName} {bytes : ByteArray} {mL index fr1 lo1 : Nat} {ret1 : Option FieldType} {As : List Value} {S1 : Mem} (hm : MS y bytes mL ret1 As.length) (hl0 : Cond.methodLink own index y ∈ gTbl) (hst : (st.map fun v => v.category).sum ≤ 8) (hR : fr1 + 1 ≤ fr ∧ 8 + (mL + 11) + lo1 ≤ lo) {stk : List Value} (hsk : stk = As.reverse ++ st) (hd : decode cc pc = .ok (.invokestatic index, 3))
    (hM : CV V X.2.1 y bytes mL ret1 fr1 lo1 As S S1) (kk : G X V nL Q (pc + 3) lv (st) S1) : G X V nL Q pc lv stk S := by
  subst hsk
  obtain ⟨p, l, e, R, s, m, args, below, meth, c, A, nc, ns⟩ := X
  obtain ⟨hx, hb, hml, hown, hts, hlk, hr, hK, hD, hV, hfr, hlo, hSK, hAV, hnc, hns, hD0⟩ := hC
  intro H locs ls hP hS hl
  obtain ⟨hm1, hm3, hm4, hm5⟩ := hm
  refine va_callv (va_runS (As := As) (rest := st) (Ts := gTbl) ⟨hx, hb, hml, hown, hts⟩ hM ⟨callB_of As.length hts (good_tbl hm4) rfl rfl rfl (hts _ hm3) (hts _ hl0) hm5 ⟨Nat.le_trans hR.1 hfr, Nat.le_trans hR.2 hlo⟩, hts _ hm1⟩ ⟨blind_WH, fun U hU hW => ⟨rfl, by rw [hU]; exact hP, va_K.moved hW.alike hK, hD0 S, (hSK.go hS hU hW).nar hAV⟩⟩ rfl rfl hl.1 rfl (lv_room hst) hd ⟨hnc, hns⟩) hS (fun q _ h => hAV q h) (fun q h => hAV q h) (fun u t H1 locs1 ht hvm hw hB hz hk hS => ?_)
  obtain rfl := hw
  exact kk H1 locs1 ls (by rw [← ht]; exact hB.1) hS hl
