/-! THE LAW: GL: two worlds, the class's and the reference's, and the script. -/
def QLw (X : CX) : State → Prop := match X with
  | (_, _, _, _, s, _, args, below, _, _, _, _, _) => lw_Z below args s
def GL (X : CX) (VC VM : WV) (pc : Nat) (lv : List (Option Value)) (st : List Value) (SC SM : Mem) : Prop :=
  match X with
  | (p, l, e, R, s, m, args, below, meth, c, A, nc, ns) => ∀ (H : Heap) (locs : List Loc) (ls : Array Slot), va_P VC.1 vwCl (WD VC SC) H → va_P VM.1 vwCl (WD VM SM) H → va_S A s.heap H locs → lp ls 4 lv → W p l e R s m args below meth c H locs nc ns (lw_Z below args s) (F0 m pc ls st)
def CkL (X : CX) (VC VM : WV) (b L : Nat) (xs : Nat → Int32) : Prop :=
  match X with
  | (p, _, _, R, s, m, args, _, meth, c, A, nc, ns) => p.tables.exec = Jvm.exec ∧ c.code = code ∧ c.maxLocals = 4 ∧ s.vm.findClass "SecretWellsLaw" = some m.cls ∧ (∀ w ∈ gTbl, w.before args s = true) ∧ meth.locks = false ∧ meth.sig.returnType = ret ∧ va_K VC.1 vwCl (tyV VC) s ∧ VM.1 = VC.1 ∧ VM.2.1 = VC.2.1 ∧ (∀ S, va_D (AV VC) (WD VC S)) ∧ (∀ S, va_D (AV VM) (WD VM S)) ∧ (∀ q, AV VC q → ¬ AV VM q) ∧ (∀ q, AV VC q → A q) ∧ (∀ q, AV VM q → A q) ∧ va_X b L xs s s.heap ∧ b < s.heap.size ∧ SK VC A s ∧ R = room_1 ∧ args = #[Value.ref b] ∧ A = (fun q : Nat => s.heap.size ≤ q) ∧ nc ≤ 600000 ∧ ns ≤ 7302250
theorem l_iload_n {X : CX} {VC VM : WV} {b L : Nat} {xs : Nat → Int32} {pc : Nat} {lv : List (Option Value)} {st : List Value} {SC SM : Mem} (hC : CkL X VC VM b L xs) {j : Fin 4} {i : Nat} {x : Int32} (hi : (j : Nat) = i) (hg : lv[i]? = some (some (.int x))) (hd : decode code pc = .ok (.iload_n j, 1))
    (k : GL X VC VM (pc + 1) (lv) (.int x :: st) SC SM) : GL X VC VM pc lv (st) SC SM := by
  obtain ⟨p, l, e, R, s, m, args, below, meth, c, A, nc, ns⟩ := X
  obtain ⟨hx, hb, hml, hown, hts, hlk, hr, hK, hM1, hM2, hDC, hDM, hdj, hAC, hAM, hX, hbl, hSK, hR, hargs, hA, hnc, hns⟩ := hC
  exact fun H locs ls hP hQ hS hl => lv_iload_n hx hb hd hi (hl.2.2 i _ hg) (k H locs ls hP hQ hS hl)
theorem l_aload_n {X : CX} {VC VM : WV} {b L : Nat} {xs : Nat → Int32} {pc : Nat} {lv : List (Option Value)} {st : List Value} {SC SM : Mem} (hC : CkL X VC VM b L xs) {j : Fin 4} {i : Nat} {x : Nat} (hi : (j : Nat) = i) (hg : lv[i]? = some (some (.ref x))) (hd : decode code pc = .ok (.aload_n j, 1))
    (k : GL X VC VM (pc + 1) (lv) (.ref x :: st) SC SM) : GL X VC VM pc lv (st) SC SM := by
  obtain ⟨p, l, e, R, s, m, args, below, meth, c, A, nc, ns⟩ := X
  obtain ⟨hx, hb, hml, hown, hts, hlk, hr, hK, hM1, hM2, hDC, hDM, hdj, hAC, hAM, hX, hbl, hSK, hR, hargs, hA, hnc, hns⟩ := hC
  exact fun H locs ls hP hQ hS hl => lv_aload_n hx hb hd hi (hl.2.2 i _ hg) (k H locs ls hP hQ hS hl)
theorem l_iconst {X : CX} {VC VM : WV} {b L : Nat} {xs : Nat → Int32} {pc : Nat} {lv : List (Option Value)} {st : List Value} {SC SM : Mem} (hC : CkL X VC VM b L xs) {n : Int} {v : Int32} (hv : Int32.ofInt n = v) (hd : decode code pc = .ok (.iconst n, 1))
    (k : GL X VC VM (pc + 1) (lv) (.int v :: st) SC SM) : GL X VC VM pc lv (st) SC SM := by
  obtain ⟨p, l, e, R, s, m, args, below, meth, c, A, nc, ns⟩ := X
  obtain ⟨hx, hb, hml, hown, hts, hlk, hr, hK, hM1, hM2, hDC, hDM, hdj, hAC, hAM, hX, hbl, hSK, hR, hargs, hA, hnc, hns⟩ := hC
  exact fun H locs ls hP hQ hS hl => lv_iconst hx hb hd hv (k H locs ls hP hQ hS hl)
theorem l_bipush {X : CX} {VC VM : WV} {b L : Nat} {xs : Nat → Int32} {pc : Nat} {lv : List (Option Value)} {st : List Value} {SC SM : Mem} (hC : CkL X VC VM b L xs) {n : Int} {v : Int32} (hv : (Int8.ofInt n).toInt32 = v) (hd : decode code pc = .ok (.bipush n, 2))
    (k : GL X VC VM (pc + 2) (lv) (.int v :: st) SC SM) : GL X VC VM pc lv (st) SC SM := by
  obtain ⟨p, l, e, R, s, m, args, below, meth, c, A, nc, ns⟩ := X
  obtain ⟨hx, hb, hml, hown, hts, hlk, hr, hK, hM1, hM2, hDC, hDM, hdj, hAC, hAM, hX, hbl, hSK, hR, hargs, hA, hnc, hns⟩ := hC
  exact fun H locs ls hP hQ hS hl => lv_bipush hx hb hd hv (k H locs ls hP hQ hS hl)
theorem l_iadd {X : CX} {VC VM : WV} {b L : Nat} {xs : Nat → Int32} {pc : Nat} {lv : List (Option Value)} {st : List Value} {SC SM : Mem} (hC : CkL X VC VM b L xs) {x y : Int32} (hd : decode code pc = .ok (.iadd, 1))
    (k : GL X VC VM (pc + 1) (lv) (.int (x + y) :: st) SC SM) : GL X VC VM pc lv (.int y :: .int x :: st) SC SM := by
  obtain ⟨p, l, e, R, s, m, args, below, meth, c, A, nc, ns⟩ := X
  obtain ⟨hx, hb, hml, hown, hts, hlk, hr, hK, hM1, hM2, hDC, hDM, hdj, hAC, hAM, hX, hbl, hSK, hR, hargs, hA, hnc, hns⟩ := hC
  exact fun H locs ls hP hQ hS hl => lv_iadd hx hb hd (k H locs ls hP hQ hS hl)
theorem l_isub {X : CX} {VC VM : WV} {b L : Nat} {xs : Nat → Int32} {pc : Nat} {lv : List (Option Value)} {st : List Value} {SC SM : Mem} (hC : CkL X VC VM b L xs) {x y : Int32} (hd : decode code pc = .ok (.isub, 1))
    (k : GL X VC VM (pc + 1) (lv) (.int (x - y) :: st) SC SM) : GL X VC VM pc lv (.int y :: .int x :: st) SC SM := by
  obtain ⟨p, l, e, R, s, m, args, below, meth, c, A, nc, ns⟩ := X
  obtain ⟨hx, hb, hml, hown, hts, hlk, hr, hK, hM1, hM2, hDC, hDM, hdj, hAC, hAM, hX, hbl, hSK, hR, hargs, hA, hnc, hns⟩ := hC
  exact fun H locs ls hP hQ hS hl => lv_isub hx hb hd (k H locs ls hP hQ hS hl)
theorem l_iand {X : CX} {VC VM : WV} {b L : Nat} {xs : Nat → Int32} {pc : Nat} {lv : List (Option Value)} {st : List Value} {SC SM : Mem} (hC : CkL X VC VM b L xs) {x y : Int32} (hd : decode code pc = .ok (.iand, 1))
    (k : GL X VC VM (pc + 1) (lv) (.int (x &&& y) :: st) SC SM) : GL X VC VM pc lv (.int y :: .int x :: st) SC SM := by
  obtain ⟨p, l, e, R, s, m, args, below, meth, c, A, nc, ns⟩ := X
  obtain ⟨hx, hb, hml, hown, hts, hlk, hr, hK, hM1, hM2, hDC, hDM, hdj, hAC, hAM, hX, hbl, hSK, hR, hargs, hA, hnc, hns⟩ := hC
  exact fun H locs ls hP hQ hS hl => lv_iand hx hb hd (k H locs ls hP hQ hS hl)
theorem l_goto {X : CX} {VC VM : WV} {b L : Nat} {xs : Nat → Int32} {pc : Nat} {lv : List (Option Value)} {st : List Value} {SC SM : Mem} (hC : CkL X VC VM b L xs) {off : Int} {tgt : Nat} (ht : (pc : Int) + off = (tgt : Int)) (hd : decode code pc = .ok (.goto off, 3))
    (k : GL X VC VM (tgt) (lv) (st) SC SM) : GL X VC VM pc lv (st) SC SM := by
  obtain ⟨p, l, e, R, s, m, args, below, meth, c, A, nc, ns⟩ := X
  obtain ⟨hx, hb, hml, hown, hts, hlk, hr, hK, hM1, hM2, hDC, hDM, hdj, hAC, hAM, hX, hbl, hSK, hR, hargs, hA, hnc, hns⟩ := hC
  exact fun H locs ls hP hQ hS hl => lv_goto hx hb hd ht (k H locs ls hP hQ hS hl)
theorem ls_iinc {X : CX} {VC VM : WV} {b L : Nat} {xs : Nat → Int32} {pc : Nat} {lv : List (Option Value)} {st : List Value} {SC SM : Mem} (hC : CkL X VC VM b L xs) {i : Nat} {n : Int} {x v : Int32} (hg : lv[i]? = some (some (.int x))) (hv : x + Int32.ofInt n = v) (hn : i < 4) (hd : decode code pc = .ok (.iinc i n, 3)) {lv2 : List (Option Value)} (hl2 : lvSt lv i (.int v) = lv2)
    (k : GL X VC VM (pc + 3) lv2 st SC SM) : GL X VC VM pc lv st SC SM := by
  subst hl2
  obtain ⟨p, l, e, R, s, m, args, below, meth, c, A, nc, ns⟩ := X
  obtain ⟨hx, hb, hml, hown, hts, hlk, hr, hK, hM1, hM2, hDC, hDM, hdj, hAC, hAM, hX, hbl, hSK, hR, hargs, hA, hnc, hns⟩ := hC
  obtain ⟨j, hj⟩ := List.getElem?_of_mem ((lvPr_mem (q := (i, .int x))).mpr hg)
  exact fun H locs ls hP hQ hS hl => lv_iinc hx hb hd (lp_has hl) hj hv hn rfl (fun ls2 hl2 => k H locs ls2 hP hQ hS (lp_st hl2))
theorem l_if_eq {X : CX} {VC VM : WV} {b L : Nat} {xs : Nat → Int32} {pc : Nat} {lv : List (Option Value)} {st : List Value} {SC SM : Mem} (hC : CkL X VC VM b L xs) {x : Int32} {off : Int} {tgt : Nat} {α : Type} {f g : Option α} {z : α} (ht : (pc : Int) + off = (tgt : Int)) (hd : decode code pc = .ok (.ifCond .eq off, 3)) (h : (if x = 0 then f else g) = some z)
    (k1 : f = some z → GL X VC VM tgt lv st SC SM) (k2 : g = some z → GL X VC VM (pc + 3) lv st SC SM) : GL X VC VM pc lv (.int x :: st) SC SM := by
  obtain ⟨p, l, e, R, s, m, args, below, meth, c, A, nc, ns⟩ := X
  obtain ⟨hx, hb, hml, hown, hts, hlk, hr, hK, hM1, hM2, hDC, hDM, hdj, hAC, hAM, hX, hbl, hSK, hR, hargs, hA, hnc, hns⟩ := hC
  refine fun H locs ls hP hQ hS hl => lv_if_eq hx hb hd ht (fun q => ?_) (fun q => ?_)
  · rw [if_pos q] at h; exact k1 h H locs ls hP hQ hS hl
  · rw [if_neg q] at h; exact k2 h H locs ls hP hQ hS hl
theorem l_icmp_eq {X : CX} {VC VM : WV} {b L : Nat} {xs : Nat → Int32} {pc : Nat} {lv : List (Option Value)} {st : List Value} {SC SM : Mem} (hC : CkL X VC VM b L xs) {x y : Int32} {off : Int} {tgt : Nat} {α : Type} {f g : Option α} {z : α} (ht : (pc : Int) + off = (tgt : Int)) (hd : decode code pc = .ok (.if_icmp .eq off, 3)) (h : (if x = y then f else g) = some z)
    (k1 : f = some z → GL X VC VM tgt lv st SC SM) (k2 : g = some z → GL X VC VM (pc + 3) lv st SC SM) : GL X VC VM pc lv (.int y :: .int x :: st) SC SM := by
  obtain ⟨p, l, e, R, s, m, args, below, meth, c, A, nc, ns⟩ := X
  obtain ⟨hx, hb, hml, hown, hts, hlk, hr, hK, hM1, hM2, hDC, hDM, hdj, hAC, hAM, hX, hbl, hSK, hR, hargs, hA, hnc, hns⟩ := hC
  refine fun H locs ls hP hQ hS hl => lv_icmp_eq hx hb hd ht (fun q => ?_) (fun q => ?_)
  · rw [if_pos q] at h; exact k1 h H locs ls hP hQ hS hl
  · rw [if_neg q] at h; exact k2 h H locs ls hP hQ hS hl
theorem l_if_ne {X : CX} {VC VM : WV} {b L : Nat} {xs : Nat → Int32} {pc : Nat} {lv : List (Option Value)} {st : List Value} {SC SM : Mem} (hC : CkL X VC VM b L xs) {x : Int32} {off : Int} {tgt : Nat} {α : Type} {f g : Option α} {z : α} (ht : (pc : Int) + off = (tgt : Int)) (hd : decode code pc = .ok (.ifCond .ne off, 3)) (h : (if x = 0 then g else f) = some z)
    (k1 : f = some z → GL X VC VM tgt lv st SC SM) (k2 : g = some z → GL X VC VM (pc + 3) lv st SC SM) : GL X VC VM pc lv (.int x :: st) SC SM := by
  obtain ⟨p, l, e, R, s, m, args, below, meth, c, A, nc, ns⟩ := X
  obtain ⟨hx, hb, hml, hown, hts, hlk, hr, hK, hM1, hM2, hDC, hDM, hdj, hAC, hAM, hX, hbl, hSK, hR, hargs, hA, hnc, hns⟩ := hC
  refine fun H locs ls hP hQ hS hl => lv_if_ne hx hb hd ht (fun q => ?_) (fun q => ?_)
  · rw [if_neg q] at h; exact k1 h H locs ls hP hQ hS hl
  · rw [if_pos q] at h; exact k2 h H locs ls hP hQ hS hl
theorem l_icmp_ne {X : CX} {VC VM : WV} {b L : Nat} {xs : Nat → Int32} {pc : Nat} {lv : List (Option Value)} {st : List Value} {SC SM : Mem} (hC : CkL X VC VM b L xs) {x y : Int32} {off : Int} {tgt : Nat} {α : Type} {f g : Option α} {z : α} (ht : (pc : Int) + off = (tgt : Int)) (hd : decode code pc = .ok (.if_icmp .ne off, 3)) (h : (if x = y then g else f) = some z)
    (k1 : f = some z → GL X VC VM tgt lv st SC SM) (k2 : g = some z → GL X VC VM (pc + 3) lv st SC SM) : GL X VC VM pc lv (.int y :: .int x :: st) SC SM := by
  obtain ⟨p, l, e, R, s, m, args, below, meth, c, A, nc, ns⟩ := X
  obtain ⟨hx, hb, hml, hown, hts, hlk, hr, hK, hM1, hM2, hDC, hDM, hdj, hAC, hAM, hX, hbl, hSK, hR, hargs, hA, hnc, hns⟩ := hC
  refine fun H locs ls hP hQ hS hl => lv_icmp_ne hx hb hd ht (fun q => ?_) (fun q => ?_)
  · rw [if_neg q] at h; exact k1 h H locs ls hP hQ hS hl
  · rw [if_pos q] at h; exact k2 h H locs ls hP hQ hS hl
theorem l_if_gt {X : CX} {VC VM : WV} {b L : Nat} {xs : Nat → Int32} {pc : Nat} {lv : List (Option Value)} {st : List Value} {SC SM : Mem} (hC : CkL X VC VM b L xs) {x : Int32} {off : Int} {tgt : Nat} {α : Type} {f g : Option α} {z : α} (ht : (pc : Int) + off = (tgt : Int)) (hd : decode code pc = .ok (.ifCond .gt off, 3)) (h : (if 0 < x then f else g) = some z)
    (k1 : f = some z → GL X VC VM tgt lv st SC SM) (k2 : g = some z → GL X VC VM (pc + 3) lv st SC SM) : GL X VC VM pc lv (.int x :: st) SC SM := by
  obtain ⟨p, l, e, R, s, m, args, below, meth, c, A, nc, ns⟩ := X
  obtain ⟨hx, hb, hml, hown, hts, hlk, hr, hK, hM1, hM2, hDC, hDM, hdj, hAC, hAM, hX, hbl, hSK, hR, hargs, hA, hnc, hns⟩ := hC
  refine fun H locs ls hP hQ hS hl => lv_if_gt hx hb hd ht (fun q => ?_) (fun q => ?_)
  · rw [if_pos q] at h; exact k1 h H locs ls hP hQ hS hl
  · rw [if_neg q] at h; exact k2 h H locs ls hP hQ hS hl
theorem l_icmp_gt {X : CX} {VC VM : WV} {b L : Nat} {xs : Nat → Int32} {pc : Nat} {lv : List (Option Value)} {st : List Value} {SC SM : Mem} (hC : CkL X VC VM b L xs) {x y : Int32} {off : Int} {tgt : Nat} {α : Type} {f g : Option α} {z : α} (ht : (pc : Int) + off = (tgt : Int)) (hd : decode code pc = .ok (.if_icmp .gt off, 3)) (h : (if y < x then f else g) = some z)
    (k1 : f = some z → GL X VC VM tgt lv st SC SM) (k2 : g = some z → GL X VC VM (pc + 3) lv st SC SM) : GL X VC VM pc lv (.int y :: .int x :: st) SC SM := by
  obtain ⟨p, l, e, R, s, m, args, below, meth, c, A, nc, ns⟩ := X
  obtain ⟨hx, hb, hml, hown, hts, hlk, hr, hK, hM1, hM2, hDC, hDM, hdj, hAC, hAM, hX, hbl, hSK, hR, hargs, hA, hnc, hns⟩ := hC
  refine fun H locs ls hP hQ hS hl => lv_icmp_gt hx hb hd ht (fun q => ?_) (fun q => ?_)
  · rw [if_pos q] at h; exact k1 h H locs ls hP hQ hS hl
  · rw [if_neg q] at h; exact k2 h H locs ls hP hQ hS hl
theorem l_table {X : CX} {VC VM : WV} {b L : Nat} {xs : Nat → Int32} {pc : Nat} {lv : List (Option Value)} {st : List Value} {SC SM : Mem} (hC : CkL X VC VM b L xs) {dflt a b2 : Int} {offs : Array Int} {len tgt : Nat} {x : Int32} (hd : decode code pc = .ok (.tableswitch dflt a b2 offs, len)) (hsz : offs.size = (b2 - a + 1).toNat) (ht : swT pc dflt a b2 offs x.toInt = (tgt : Int))
    (k : GL X VC VM tgt lv st SC SM) : GL X VC VM pc lv (.int x :: st) SC SM := by
  obtain ⟨p, l, e, R, s, m, args, below, meth, c, A, nc, ns⟩ := X
  obtain ⟨hx, hb, hml, hown, hts, hlk, hr, hK, hM1, hM2, hDC, hDM, hdj, hAC, hAM, hX, hbl, hSK, hR, hargs, hA, hnc, hns⟩ := hC
  intro H locs ls hP hQ hS hl
  unfold swT at ht
  by_cases q : x.toInt < a ∨ b2 < x.toInt
  · rw [if_pos q] at ht
    exact lv_tableOut hx hb hd q ht (k H locs ls hP hQ hS hl)
  · rw [if_neg q] at ht
    have h1 : ¬ x.toInt < a := fun z => q (Or.inl z)
    have h2 : ¬ b2 < x.toInt := fun z => q (Or.inr z)
    have hlt : (x.toInt - a).toNat < offs.size := by omega
    have ho : offs[(x.toInt - a).toNat]? = some offs[(x.toInt - a).toNat] := Array.getElem?_eq_getElem hlt
    rw [ho] at ht
    exact lv_tableIn hx hb hd h1 h2 ho ht (k H locs ls hP hQ hS hl)
theorem l_xlen {X : CX} {VC VM : WV} {b L : Nat} {xs : Nat → Int32} {pc : Nat} {lv : List (Option Value)} {st : List Value} {SC SM : Mem} (hC : CkL X VC VM b L xs) (hd : decode code pc = .ok (.arraylength, 1))
    (k : GL X VC VM (pc + 1) lv (.int (Int32.ofNat L) :: st) SC SM) : GL X VC VM pc lv (.ref b :: st) SC SM := by
  obtain ⟨p, l, e, R, s, m, args, below, meth, c, A, nc, ns⟩ := X
  obtain ⟨hx, hb, hml, hown, hts, hlk, hr, hK, hM1, hM2, hDC, hDM, hdj, hAC, hAM, hX, hbl, hSK, hR, hargs, hA, hnc, hns⟩ := hC
  have hbA : ¬ A b := by rw [hA]; exact Nat.not_le.mpr hbl
  exact fun H locs ls hP hQ hS hl => va_slen hx hb hX hbl hbA hS hd (k H locs ls hP hQ hS hl)
theorem l_xald {X : CX} {VC VM : WV} {b L : Nat} {xs : Nat → Int32} {pc : Nat} {lv : List (Option Value)} {st : List Value} {SC SM : Mem} (hC : CkL X VC VM b L xs) {i : Int32} {α : Type} {w : Option α} {z : α} (hd : decode code pc = .ok (.iaload, 1)) (h : gIn i L w = some z)
    (k : w = some z → GL X VC VM (pc + 1) lv (.int (xs i.toNatClampNeg) :: st) SC SM) : GL X VC VM pc lv (.int i :: .ref b :: st) SC SM := by
  obtain ⟨hi, h⟩ := gIn_some h
  have k := k h
  obtain ⟨p, l, e, R, s, m, args, below, meth, c, A, nc, ns⟩ := X
  obtain ⟨hx, hb, hml, hown, hts, hlk, hr, hK, hM1, hM2, hDC, hDM, hdj, hAC, hAM, hX, hbl, hSK, hR, hargs, hA, hnc, hns⟩ := hC
  have hbA : ¬ A b := by rw [hA]; exact Nat.not_le.mpr hbl
  exact fun H locs ls hP hQ hS hl => va_sld hx hb hX hbl hbA hS hi hd (k H locs ls hP hQ hS hl)
theorem l_ret {X : CX} {VC VM : WV} {b L : Nat} {xs : Nat → Int32} {pc : Nat} {lv : List (Option Value)} {SC SM : Mem} (hC : CkL X VC VM b L xs) (hd : decode code pc = .ok (.ireturn, 1)) : GL X VC VM pc lv [.int 1] SC SM := by
  obtain ⟨p, l, e, R, s, m, args, below, meth, c, A, nc, ns⟩ := X
  obtain ⟨hx, hb, hml, hown, hts, hlk, hr, hK, hM1, hM2, hDC, hDM, hdj, hAC, hAM, hX, hbl, hSK, hR, hargs, hA, hnc, hns⟩ := hC
  subst hR hargs
  intro H locs ls hP hQ hS hl
  refine va_forget (fun q hq => by have := hS.2.2 q hq; rw [hA] at this; exact this) ?_
  exact W.widen hnc hns (lw_ret hx hb hr hlk hd)
theorem l_vC {X : CX} {VC VM : WV} {b L : Nat} {xs : Nat → Int32} {pc : Nat} {lv : List (Option Value)} {st : List Value} {SC SM : Mem} (hC : CkL X VC VM b L xs) (hV : IsC VC) {y : MethodName} {bytes : ByteArray} {mL index fr1 lo1 ci : Nat} {ret1 : Option FieldType} {fl : List Nat} {As : List Value} {r : Int32} {S1 : Mem} (hm : MV y bytes mL ret1 As.length) (hl0 : Cond.methodLink "SecretWellsLaw" index y ∈ gTbl) (hci : (vwCl[ci]?).map (fun q => q.1) = some y.cls) (hq : (0, ci, fl) ∈ VC.2.2.2.1) (hst : (st.map fun v => v.category).sum ≤ 8) (hRm : fr1 + 1 ≤ 15 ∧ 8 + (mL + 11) + lo1 ≤ 594) {stk : List Value} (hsk : stk = As.reverse ++ .ref (VC.2.2.1 0 0) :: st) (hd : decode code pc = .ok (.invokevirtual index, 3))
    (hMt : CI VC X.2.1 y bytes mL ret1 fr1 lo1 (.ref (VC.2.2.1 0 0) :: As) SC r S1) (kk : GL X VC VM (pc + 3) lv (.int r :: st) S1 SM) : GL X VC VM pc lv stk SC SM := by
  subst hsk
  obtain ⟨p, l, e, R, s, m, args, below, meth, c, A, nc, ns⟩ := X
  obtain ⟨hx, hb, hml, hown, hts, hlk, hr, hK, hM1, hM2, hDC, hDM, hdj, hAC, hAM, hX, hbl, hSK, hR, hargs, hA, hnc, hns⟩ := hC
  subst hR
  intro H locs ls hP hQ hS hl
  obtain ⟨hm1, hm2, hm3, hm4, hm5⟩ := hm
  obtain ⟨qc, hc1, hc2⟩ := Option.map_eq_some_iff.mp hci
  obtain ⟨q0, hq0⟩ := WD_getO (S := SC) hq
  have hK2 : va_K VC.1 vwCl (tyV VC) s := hK
  have hSK2 : SK VC A s := hSK
  have hrec := va_recv hK2 hP hc1 hq0
  rw [hc2] at hrec
  refine va_calli (va_runV (As := As) (rest := st) (C := y.cls) (Ts := gTbl) ⟨hx, hb, hml, hown, hts⟩ hMt ⟨callB_of As.length hts (good_tbl hm4) rfl rfl rfl (hts _ hm3) (hts _ hl0) hm5 hRm, hts _ hm1, hts _ hm2⟩ ⟨blind_WH, hrec, fun U hU hW => ⟨rfl, by rw [hU]; exact hP, va_K.moved hW.alike hK2, hDC SC, (hSK2.go hS hU hW).nar hAC⟩⟩ rfl rfl hl.1 rfl (lv_room hst) hd ⟨hnc, hns⟩) hS (fun q _ h => hAC q h) (fun q h => hAC q h) (fun r2 u t H1 locs1 ht hvm hw hB hz hk hS => ?_)
  obtain ⟨rfl, rfl⟩ := hw
  have hkeep : va_P VM.1 vwCl (WD VM SM) H1 := by
    refine hQ.kept (fun k q hk2 => hk q.1 ?_ ?_)
    · have hat := hQ k q hk2
      rcases hsz : H[q.1]? with _ | cell
      · exfalso
        unfold va_at at hat
        split at hat
        · rw [hsz] at hat; cases hat
        · obtain ⟨r0, -, hob⟩ := hat
          obtain ⟨cell, h1, -⟩ := hob
          rw [hsz] at h1; cases h1
      · exact (Array.getElem?_eq_some_iff.mp hsz).1
    · exact (fun q h1 h2 => hdj q h2 h1) q.1 ((hDM SM).2 k q hk2)
  exact kk H1 locs1 ls (by rw [← ht]; exact hB.1) hkeep hS hl
theorem l_vM {X : CX} {VC VM : WV} {b L : Nat} {xs : Nat → Int32} {pc : Nat} {lv : List (Option Value)} {st : List Value} {SC SM : Mem} (hC : CkL X VC VM b L xs) (hV : IsM VM) {y : MethodName} {bytes : ByteArray} {mL index fr1 lo1 ci : Nat} {ret1 : Option FieldType} {fl : List Nat} {As : List Value} {r : Int32} {S1 : Mem} (hm : MV y bytes mL ret1 As.length) (hl0 : Cond.methodLink "SecretWellsLaw" index y ∈ gTbl) (hci : (vwCl[ci]?).map (fun q => q.1) = some y.cls) (hq : (0, ci, fl) ∈ VM.2.2.2.1) (hst : (st.map fun v => v.category).sum ≤ 8) (hRm : fr1 + 1 ≤ 15 ∧ 8 + (mL + 11) + lo1 ≤ 594) {stk : List Value} (hsk : stk = As.reverse ++ .ref (VM.2.2.1 0 0) :: st) (hd : decode code pc = .ok (.invokevirtual index, 3))
    (hMt : CI VM X.2.1 y bytes mL ret1 fr1 lo1 (.ref (VM.2.2.1 0 0) :: As) SM r S1) (kk : GL X VC VM (pc + 3) lv (.int r :: st) SC S1) : GL X VC VM pc lv stk SC SM := by
  subst hsk
  obtain ⟨p, l, e, R, s, m, args, below, meth, c, A, nc, ns⟩ := X
  obtain ⟨hx, hb, hml, hown, hts, hlk, hr, hK, hM1, hM2, hDC, hDM, hdj, hAC, hAM, hX, hbl, hSK, hR, hargs, hA, hnc, hns⟩ := hC
  subst hR
  intro H locs ls hP hQ hS hl
  obtain ⟨hm1, hm2, hm3, hm4, hm5⟩ := hm
  obtain ⟨qc, hc1, hc2⟩ := Option.map_eq_some_iff.mp hci
  obtain ⟨q0, hq0⟩ := WD_getO (S := SM) hq
  have hK2 : va_K VM.1 vwCl (tyV VM) s := (by rw [show tyV VM = tyV VC by simp [tyV, hM2], hM1]; exact hK)
  have hSK2 : SK VM A s := by unfold SK at hSK ⊢; rw [hM2]; exact hSK
  have hrec := va_recv hK2 hQ hc1 hq0
  rw [hc2] at hrec
  refine va_calli (va_runV (As := As) (rest := st) (C := y.cls) (Ts := gTbl) ⟨hx, hb, hml, hown, hts⟩ hMt ⟨callB_of As.length hts (good_tbl hm4) rfl rfl rfl (hts _ hm3) (hts _ hl0) hm5 hRm, hts _ hm1, hts _ hm2⟩ ⟨blind_WH, hrec, fun U hU hW => ⟨rfl, by rw [hU]; exact hQ, va_K.moved hW.alike hK2, hDM SM, (hSK2.go hS hU hW).nar hAM⟩⟩ rfl rfl hl.1 rfl (lv_room hst) hd ⟨hnc, hns⟩) hS (fun q _ h => hAM q h) (fun q h => hAM q h) (fun r2 u t H1 locs1 ht hvm hw hB hz hk hS => ?_)
  obtain ⟨rfl, rfl⟩ := hw
  have hkeep : va_P VC.1 vwCl (WD VC SC) H1 := by
    refine hP.kept (fun k q hk2 => hk q.1 ?_ ?_)
    · have hat := hP k q hk2
      rcases hsz : H[q.1]? with _ | cell
      · exfalso
        unfold va_at at hat
        split at hat
        · rw [hsz] at hat; cases hat
        · obtain ⟨r0, -, hob⟩ := hat
          obtain ⟨cell, h1, -⟩ := hob
          rw [hsz] at h1; cases h1
      · exact (Array.getElem?_eq_some_iff.mp hsz).1
    · exact hdj q.1 ((hDC SC).2 k q hk2)
  exact kk H1 locs1 ls hkeep (by rw [← ht]; exact hB.1) hS hl
