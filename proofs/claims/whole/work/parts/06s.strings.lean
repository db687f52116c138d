/-! ROWS OF STRING CONSTANTS (the JDK's own methods over them are walked like the others) -/
theorem g_ldcS {X : CX} {V : WV} {cc : ByteArray} {nL : Nat} {own : String} {ret : Option FieldType} {fr lo : Nat} {Q : State → Prop} {pc : Nat} {lv : List (Option Value)} {st : List Value} {S : Mem} (hN : V.2.1.2.1 = 7) (hC : Ck X V cc nL own ret fr lo) (i : Nat) {index : Nat} (hi : i < 7) (h1 : (jsK.getD i ("", 0, "")).1 = own) (h2 : (jsK.getD i ("", 0, "")).2.1 = index) (hd : decode cc pc = .ok (.ldc index, 2))
    (k : G X V nL Q (pc + 2) lv (.ref (V.2.1.2.2.1 i) :: st) S) : G X V nL Q pc lv st S := by
  obtain ⟨p, l, e, R, s, m, args, below, meth, c, A, nc, ns⟩ := X
  obtain ⟨hx, hb, hml, hown, hts, hlk, hr, hK, hD, hVO, hfr, hlo, hSK, hAV, hnc, hns, hD0⟩ := hC
  have hR := hSK.2.1 i (by rw [hN]; exact hi)
  rw [h1, h2] at hR
  exact fun H locs ls hP hS hl => va_ldcS hx hb hown hR hd (k H locs ls hP hS hl)
theorem g_sval {X : CX} {V : WV} {cc : ByteArray} {nL : Nat} {ret : Option FieldType} {fr lo : Nat} {Q : State → Prop} {pc : Nat} {lv : List (Option Value)} {st : List Value} {S : Mem} (hN : V.2.1.2.1 = 7) (hC : Ck X V cc nL "java/lang/String" ret fr lo) {i index : Nat} (hi : i < 7) (hw : Cond.fieldLink "java/lang/String" index "java/lang/String" "value" "[B" ∈ gTbl) (hd : decode cc pc = .ok (.getfield index, 3))
    (k : G X V nL Q (pc + 3) lv (.ref (V.2.1.2.2.2 i) :: st) S) : G X V nL Q pc lv (.ref (V.2.1.2.2.1 i) :: st) S := by
  obtain ⟨p, l, e, R, s, m, args, below, meth, c, A, nc, ns⟩ := X
  obtain ⟨hx, hb, hml, hown, hts, hlk, hr, hK, hD, hVO, hfr, hlo, hSK, hAV, hnc, hns, hD0⟩ := hC
  have hE := (hSK.1.1 i (by rw [hN]; exact hi)).2.2.1
  exact fun H locs ls hP hS hl => vk_getf hx hb hE hS hown (hts _ hw) (fun _ h9 => h9) hd (k H locs ls hP hS hl)
theorem g_scod {X : CX} {V : WV} {cc : ByteArray} {nL : Nat} {ret : Option FieldType} {fr lo : Nat} {Q : State → Prop} {pc : Nat} {lv : List (Option Value)} {st : List Value} {S : Mem} (hN : V.2.1.2.1 = 7) (hC : Ck X V cc nL "java/lang/String" ret fr lo) {i index : Nat} (hi : i < 7) (hw : Cond.fieldLink "java/lang/String" index "java/lang/String" "coder" "B" ∈ gTbl) (hd : decode cc pc = .ok (.getfield index, 3))
    (k : G X V nL Q (pc + 3) lv (.int 0 :: st) S) : G X V nL Q pc lv (.ref (V.2.1.2.2.1 i) :: st) S := by
  obtain ⟨p, l, e, R, s, m, args, below, meth, c, A, nc, ns⟩ := X
  obtain ⟨hx, hb, hml, hown, hts, hlk, hr, hK, hD, hVO, hfr, hlo, hSK, hAV, hnc, hns, hD0⟩ := hC
  have hE := (hSK.1.1 i (by rw [hN]; exact hi)).2.1
  exact fun H locs ls hP hS hl => vk_getf hx hb hE hS hown (hts _ hw) (fun _ h9 => h9) hd (k H locs ls hP hS hl)
theorem g_slen {X : CX} {V : WV} {cc : ByteArray} {nL : Nat} {own : String} {ret : Option FieldType} {fr lo : Nat} {Q : State → Prop} {pc : Nat} {lv : List (Option Value)} {st : List Value} {S : Mem} (hN : V.2.1.2.1 = 7) (hC : Ck X V cc nL own ret fr lo) {i : Nat} (hi : i < 7) (hd : decode cc pc = .ok (.arraylength, 1))
    (k : G X V nL Q (pc + 1) lv (.int (Int32.ofNat (jsLen.getD i 0)) :: st) S) : G X V nL Q pc lv (.ref (V.2.1.2.2.2 i) :: st) S := by
  obtain ⟨p, l, e, R, s, m, args, below, meth, c, A, nc, ns⟩ := X
  obtain ⟨hx, hb, hml, hown, hts, hlk, hr, hK, hD, hVO, hfr, hlo, hSK, hAV, hnc, hns, hD0⟩ := hC
  have hE := (hSK.1.1 i (by rw [hN]; exact hi)).2.2.2
  exact fun H locs ls hP hS hl => va_tlen hx hb hE hS rfl hd (k H locs ls hP hS hl)
theorem g_sald {X : CX} {V : WV} {cc : ByteArray} {nL : Nat} {own : String} {ret : Option FieldType} {fr lo : Nat} {Q : State → Prop} {pc : Nat} {lv : List (Option Value)} {st : List Value} {S : Mem} (hN : V.2.1.2.1 = 7) (hC : Ck X V cc nL own ret fr lo) {i : Nat} {j : Int32} {α : Type} {w : Option α} {z : α} (hi : i < 7) (hd : decode cc pc = .ok (.baload, 1)) (h : gIn j (jsLen.getD i 0) w = some z)
    (k : w = some z → G X V nL Q (pc + 1) lv (.int ((jsByt.getD i []).getD j.toNatClampNeg 0) :: st) S) : G X V nL Q pc lv (.int j :: .ref (V.2.1.2.2.2 i) :: st) S := by
  obtain ⟨hj, h⟩ := gIn_some h
  have k := k h
  obtain ⟨p, l, e, R, s, m, args, below, meth, c, A, nc, ns⟩ := X
  obtain ⟨hx, hb, hml, hown, hts, hlk, hr, hK, hD, hVO, hfr, hlo, hSK, hAV, hnc, hns, hD0⟩ := hC
  have hE := (hSK.1.1 i (by rw [hN]; exact hi)).2.2.2
  exact fun H locs ls hP hS hl => va_tb hx hb hE hS hj rfl hd (k H locs ls hP hS hl)
theorem g_gets1 {X : CX} {V : WV} {cc : ByteArray} {nL : Nat} {own : String} {ret : Option FieldType} {fr lo : Nat} {Q : State → Prop} {pc : Nat} {lv : List (Option Value)} {st : List Value} {S : Mem} (hN : V.2.1.2.1 = 7) (hC : Ck X V cc nL own ret fr lo) {index : Nat} (hw : Cond.fieldLink own index "java/lang/String" "COMPACT_STRINGS" "Z" ∈ gTbl) (hd : decode cc pc = .ok (.getstatic index, 3))
    (k : G X V nL Q (pc + 3) lv (.int 1 :: st) S) : G X V nL Q pc lv st S := by
  obtain ⟨p, l, e, R, s, m, args, below, meth, c, A, nc, ns⟩ := X
  obtain ⟨hx, hb, hml, hown, hts, hlk, hr, hK, hD, hVO, hfr, hlo, hSK, hAV, hnc, hns, hD0⟩ := hC
  have hZ := (hSK.2.2 (by rw [hN]; decide)).1
  exact fun H locs ls hP hS hl => va_gets hx hb hZ hS hown (hts _ hw) (fun _ h9 => h9) hd (k H locs ls hP hS hl)
theorem g_getsU {X : CX} {V : WV} {cc : ByteArray} {nL : Nat} {own : String} {ret : Option FieldType} {fr lo : Nat} {Q : State → Prop} {pc : Nat} {lv : List (Option Value)} {st : List Value} {S : Mem} (hN : V.2.1.2.1 = 7) (hC : Ck X V cc nL own ret fr lo) {index : Nat} (hw : Cond.fieldLink own index "jdk/internal/util/Preconditions" "SIOOBE_FORMATTER" "Ljava/util/function/BiFunction;" ∈ gTbl) (hd : decode cc pc = .ok (.getstatic index, 3))
    (k : ∀ u : Value, (u = .null ∨ ∃ a, u = .ref a) → G X V nL Q (pc + 3) lv (u :: st) S) : G X V nL Q pc lv st S := by
  obtain ⟨p, l, e, R, s, m, args, below, meth, c, A, nc, ns⟩ := X
  obtain ⟨hx, hb, hml, hown, hts, hlk, hr, hK, hD, hVO, hfr, hlo, hSK, hAV, hnc, hns, hD0⟩ := hC
  rcases (hSK.2.2 (by rw [hN]; decide)).2 with hZ | ⟨a, hZ⟩
  · exact fun H locs ls hP hS hl => va_gets hx hb hZ hS hown (hts _ hw) (fun _ h9 => h9) hd (k _ (Or.inl rfl) H locs ls hP hS hl)
  · exact fun H locs ls hP hS hl => va_gets hx hb hZ hS hown (hts _ hw) (fun _ h9 => h9) hd (k _ (Or.inr ⟨a, rfl⟩) H locs ls hP hS hl)
theorem g_ki {X : CX} {V : WV} {cc : ByteArray} {nL : Nat} {own : String} {ret : Option FieldType} {fr lo : Nat} {Q : State → Prop} {pc : Nat} {lv : List (Option Value)} {st : List Value} {S : Mem} (hN : V.2.1.2.1 = 7) (hC : Ck X V cc nL own ret fr lo) {y : MethodName} {bytes : ByteArray} {mL index i fr1 lo1 : Nat} {ret1 : Option FieldType} {As : List Value} {r : Int32} {S1 : Mem} (hm : MV y bytes mL ret1 As.length) (hl0 : Cond.methodLink own index y ∈ gTbl) (hcl : y.cls = "java/lang/String") (hi : i < 7) (hst : (st.map fun v => v.category).sum ≤ 8) (hR : fr1 + 1 ≤ fr ∧ 8 + (mL + 11) + lo1 ≤ lo) {stk : List Value} (hsk : stk = As.reverse ++ .ref (V.2.1.2.2.1 i) :: st) (hd : decode cc pc = .ok (.invokevirtual index, 3))
    (hM : CI V X.2.1 y bytes mL ret1 fr1 lo1 (.ref (V.2.1.2.2.1 i) :: As) S r S1) (kk : G X V nL Q (pc + 3) lv (.int r :: st) S1) : G X V nL Q pc lv stk S := by
  subst hsk
  obtain ⟨p, l, e, R, s, m, args, below, meth, c, A, nc, ns⟩ := X
  obtain ⟨hx, hb, hml, hown, hts, hlk, hr, hK, hD, hVO, hfr, hlo, hSK, hAV, hnc, hns, hD0⟩ := hC
  intro H locs ls hP hS hl
  obtain ⟨hm1, hm2, hm3, hm4, hm5⟩ := hm
  have hrec := vk_recv hSK.1 (by rw [hN]; exact hi) hS
  rw [← hcl] at hrec
  refine va_calli (va_runV (As := As) (rest := st) (C := y.cls) (Ts := gTbl) ⟨hx, hb, hml, hown, hts⟩ hM ⟨callB_of As.length hts (good_tbl hm4) rfl rfl rfl (hts _ hm3) (hts _ hl0) hm5 ⟨Nat.le_trans hR.1 hfr, Nat.le_trans hR.2 hlo⟩, hts _ hm1, hts _ hm2⟩ ⟨blind_WH, hrec, fun U hU hW => ⟨rfl, by rw [hU]; exact hP, va_K.moved hW.alike hK, hD0 S, (hSK.go hS hU hW).nar hAV⟩⟩ rfl rfl hl.1 rfl (lv_room hst) hd ⟨hnc, hns⟩) hS (fun q _ h => hAV q h) (fun q h => hAV q h) (fun r2 u t H1 locs1 ht hvm hw hB hz hk hS => ?_)
  obtain ⟨rfl, rfl⟩ := hw
  exact kk H1 locs1 ls (by rw [← ht]; exact hB.1) hS hl
/-- a char's answer is a char -/
def gC {α : Type} (v : Int32) (k : Option α) : Option α := if (v.toUInt32 % 65536).toInt32 = v then k else none
theorem gC_some {α : Type} {v : Int32} {k : Option α} {r : α} (h : gC v k = some r) : narrow .char (.int v) = .int v ∧ k = some r := by
  unfold gC at h
  split at h
  · rename_i q
    exact ⟨by rw [← q]; exact pk_nc v, h⟩
  · cases h
theorem g_cN {X : CX} {V : WV} {cc : ByteArray} {nL : Nat} {own : String} {fr lo : Nat} {pc : Nat} {lv : List (Option Value)} {S : Mem} (hC : Ck X V cc nL own (some .char) fr lo) {v : Int32} {z : Int32} (hd : decode cc pc = .ok (.ireturn, 1)) (h : gC v (some v) = some z) : G X V nL (QI X V z S) pc lv [.int v] S := g_iN hC (gC_some h).1 hd (gC_some h).2
theorem g_cW {X : CX} {V : WV} {cc : ByteArray} {nL : Nat} {own : String} {fr lo : Nat} {pc : Nat} {lv : List (Option Value)} {S : Mem} (hC : Ck X V cc nL own (some .char) fr lo) {v : Int32} {z : Int32 × Mem} (hd : decode cc pc = .ok (.ireturn, 1)) (h : gC v (some (v, S)) = some z) : G X V nL (QI X V z.1 z.2) pc lv [.int v] S := g_iW hC (gC_some h).1 hd (gC_some h).2
