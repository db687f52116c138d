/-! methods of the bytecode as functions, and the machine's walks of them. By program (wip/whole/gen/make.py): JInt_bitCount, JArr_fill, JInt_numberOfTrailingZeros -/
def f_JInt_bitCount_b0 (x0 : Int32) : Option (Int32) :=
  letS (x0 - ((jUshr x0 1) &&& 1431655765)) (fun y9 =>
  letS ((y9 &&& 858993459) + ((jUshr y9 2) &&& 858993459)) (fun y23 =>
  letS ((y23 + (jUshr y23 4)) &&& 252645135) (fun y33 =>
  letS (y33 + (jUshr y33 8)) (fun y40 =>
  letS (y40 + (jUshr y40 16)) (fun y47 =>
  some (y47 &&& 63))))))
def f_JInt_bitCount (x0 : Int32) : Option (Int32) := f_JInt_bitCount_b0  x0
theorem d_JInt_bitCount_0 : decode bc_JInt_bitCount 0 = .ok (.iload_n 0, 1) := by decide +kernel
theorem d_JInt_bitCount_1 : decode bc_JInt_bitCount 1 = .ok (.iload_n 0, 1) := by decide +kernel
theorem d_JInt_bitCount_2 : decode bc_JInt_bitCount 2 = .ok (.iconst 1, 1) := by decide +kernel
theorem d_JInt_bitCount_3 : decode bc_JInt_bitCount 3 = .ok (.iushr, 1) := by decide +kernel
theorem d_JInt_bitCount_4 : decode bc_JInt_bitCount 4 = .ok (.ldc_w 265, 3) := by decide +kernel
theorem d_JInt_bitCount_7 : decode bc_JInt_bitCount 7 = .ok (.iand, 1) := by decide +kernel
theorem d_JInt_bitCount_8 : decode bc_JInt_bitCount 8 = .ok (.isub, 1) := by decide +kernel
theorem d_JInt_bitCount_9 : decode bc_JInt_bitCount 9 = .ok (.istore_n 0, 1) := by decide +kernel
theorem d_JInt_bitCount_10 : decode bc_JInt_bitCount 10 = .ok (.iload_n 0, 1) := by decide +kernel
theorem d_JInt_bitCount_11 : decode bc_JInt_bitCount 11 = .ok (.ldc_w 266, 3) := by decide +kernel
theorem d_JInt_bitCount_14 : decode bc_JInt_bitCount 14 = .ok (.iand, 1) := by decide +kernel
theorem d_JInt_bitCount_15 : decode bc_JInt_bitCount 15 = .ok (.iload_n 0, 1) := by decide +kernel
theorem d_JInt_bitCount_16 : decode bc_JInt_bitCount 16 = .ok (.iconst 2, 1) := by decide +kernel
theorem d_JInt_bitCount_17 : decode bc_JInt_bitCount 17 = .ok (.iushr, 1) := by decide +kernel
theorem d_JInt_bitCount_18 : decode bc_JInt_bitCount 18 = .ok (.ldc_w 266, 3) := by decide +kernel
theorem d_JInt_bitCount_21 : decode bc_JInt_bitCount 21 = .ok (.iand, 1) := by decide +kernel
theorem d_JInt_bitCount_22 : decode bc_JInt_bitCount 22 = .ok (.iadd, 1) := by decide +kernel
theorem d_JInt_bitCount_23 : decode bc_JInt_bitCount 23 = .ok (.istore_n 0, 1) := by decide +kernel
theorem d_JInt_bitCount_24 : decode bc_JInt_bitCount 24 = .ok (.iload_n 0, 1) := by decide +kernel
theorem d_JInt_bitCount_25 : decode bc_JInt_bitCount 25 = .ok (.iload_n 0, 1) := by decide +kernel
theorem d_JInt_bitCount_26 : decode bc_JInt_bitCount 26 = .ok (.iconst 4, 1) := by decide +kernel
theorem d_JInt_bitCount_27 : decode bc_JInt_bitCount 27 = .ok (.iushr, 1) := by decide +kernel
theorem d_JInt_bitCount_28 : decode bc_JInt_bitCount 28 = .ok (.iadd, 1) := by decide +kernel
theorem d_JInt_bitCount_29 : decode bc_JInt_bitCount 29 = .ok (.ldc_w 267, 3) := by decide +kernel
theorem d_JInt_bitCount_32 : decode bc_JInt_bitCount 32 = .ok (.iand, 1) := by decide +kernel
theorem d_JInt_bitCount_33 : decode bc_JInt_bitCount 33 = .ok (.istore_n 0, 1) := by decide +kernel
theorem d_JInt_bitCount_34 : decode bc_JInt_bitCount 34 = .ok (.iload_n 0, 1) := by decide +kernel
theorem d_JInt_bitCount_35 : decode bc_JInt_bitCount 35 = .ok (.iload_n 0, 1) := by decide +kernel
theorem d_JInt_bitCount_36 : decode bc_JInt_bitCount 36 = .ok (.bipush 8, 2) := by decide +kernel
theorem d_JInt_bitCount_38 : decode bc_JInt_bitCount 38 = .ok (.iushr, 1) := by decide +kernel
theorem d_JInt_bitCount_39 : decode bc_JInt_bitCount 39 = .ok (.iadd, 1) := by decide +kernel
theorem d_JInt_bitCount_40 : decode bc_JInt_bitCount 40 = .ok (.istore_n 0, 1) := by decide +kernel
theorem d_JInt_bitCount_41 : decode bc_JInt_bitCount 41 = .ok (.iload_n 0, 1) := by decide +kernel
theorem d_JInt_bitCount_42 : decode bc_JInt_bitCount 42 = .ok (.iload_n 0, 1) := by decide +kernel
theorem d_JInt_bitCount_43 : decode bc_JInt_bitCount 43 = .ok (.bipush 16, 2) := by decide +kernel
theorem d_JInt_bitCount_45 : decode bc_JInt_bitCount 45 = .ok (.iushr, 1) := by decide +kernel
theorem d_JInt_bitCount_46 : decode bc_JInt_bitCount 46 = .ok (.iadd, 1) := by decide +kernel
theorem d_JInt_bitCount_47 : decode bc_JInt_bitCount 47 = .ok (.istore_n 0, 1) := by decide +kernel
theorem d_JInt_bitCount_48 : decode bc_JInt_bitCount 48 = .ok (.iload_n 0, 1) := by decide +kernel
theorem d_JInt_bitCount_49 : decode bc_JInt_bitCount 49 = .ok (.bipush 63, 2) := by decide +kernel
theorem d_JInt_bitCount_51 : decode bc_JInt_bitCount 51 = .ok (.iand, 1) := by decide +kernel
theorem d_JInt_bitCount_52 : decode bc_JInt_bitCount 52 = .ok (.ireturn, 1) := by decide +kernel
set_option maxRecDepth 20000 in
theorem w_JInt_bitCount_b0 {X : CX} {V : WV} {S : Mem} {z : Int32} (hC : Ck X V bc_JInt_bitCount 1 "java/lang/Integer" (some .int) 0 0) (x0 : Int32) (h : f_JInt_bitCount_b0  x0 = some z) : G X V 1 (QI X V z S) 0 [some (.int x0)] [] S := by
  unfold f_JInt_bitCount_b0 at h
  refine g_iload_n (pc := 0) hC (i := 0) (x := x0) rfl rfl d_JInt_bitCount_0 ?_
  refine g_iload_n (pc := 1) hC (i := 0) (x := x0) rfl rfl d_JInt_bitCount_1 ?_
  refine g_iconst (pc := 2) hC kc_1 d_JInt_bitCount_2 ?_
  refine g_iushr (pc := 3) hC d_JInt_bitCount_3 ?_
  refine g_ldcw (pc := 4) hC q_JInt_k265 d_JInt_bitCount_4 ?_
  refine g_iand (pc := 7) hC d_JInt_bitCount_7 ?_
  refine g_isub (pc := 8) hC d_JInt_bitCount_8 ?_
  refine g_leti h (fun y9 h => ?_)
  refine s_istore_n (pc := 9) hC (i := 0) rfl (by decide) d_JInt_bitCount_9 (lv2 := [some (.int y9)]) rfl ?_
  refine g_iload_n (pc := 10) hC (i := 0) (x := y9) rfl rfl d_JInt_bitCount_10 ?_
  refine g_ldcw (pc := 11) hC q_JInt_k266 d_JInt_bitCount_11 ?_
  refine g_iand (pc := 14) hC d_JInt_bitCount_14 ?_
  refine g_iload_n (pc := 15) hC (i := 0) (x := y9) rfl rfl d_JInt_bitCount_15 ?_
  refine g_iconst (pc := 16) hC kc_2 d_JInt_bitCount_16 ?_
  refine g_iushr (pc := 17) hC d_JInt_bitCount_17 ?_
  refine g_ldcw (pc := 18) hC q_JInt_k266 d_JInt_bitCount_18 ?_
  refine g_iand (pc := 21) hC d_JInt_bitCount_21 ?_
  refine g_iadd (pc := 22) hC d_JInt_bitCount_22 ?_
  refine g_leti h (fun y23 h => ?_)
  refine s_istore_n (pc := 23) hC (i := 0) rfl (by decide) d_JInt_bitCount_23 (lv2 := [some (.int y23)]) rfl ?_
  refine g_iload_n (pc := 24) hC (i := 0) (x := y23) rfl rfl d_JInt_bitCount_24 ?_
  refine g_iload_n (pc := 25) hC (i := 0) (x := y23) rfl rfl d_JInt_bitCount_25 ?_
  refine g_iconst (pc := 26) hC kc_4 d_JInt_bitCount_26 ?_
  refine g_iushr (pc := 27) hC d_JInt_bitCount_27 ?_
  refine g_iadd (pc := 28) hC d_JInt_bitCount_28 ?_
  refine g_ldcw (pc := 29) hC q_JInt_k267 d_JInt_bitCount_29 ?_
  refine g_iand (pc := 32) hC d_JInt_bitCount_32 ?_
  refine g_leti h (fun y33 h => ?_)
  refine s_istore_n (pc := 33) hC (i := 0) rfl (by decide) d_JInt_bitCount_33 (lv2 := [some (.int y33)]) rfl ?_
  refine g_iload_n (pc := 34) hC (i := 0) (x := y33) rfl rfl d_JInt_bitCount_34 ?_
  refine g_iload_n (pc := 35) hC (i := 0) (x := y33) rfl rfl d_JInt_bitCount_35 ?_
  refine g_bipush (pc := 36) hC kb_8 d_JInt_bitCount_36 ?_
  refine g_iushr (pc := 38) hC d_JInt_bitCount_38 ?_
  refine g_iadd (pc := 39) hC d_JInt_bitCount_39 ?_
  refine g_leti h (fun y40 h => ?_)
  refine s_istore_n (pc := 40) hC (i := 0) rfl (by decide) d_JInt_bitCount_40 (lv2 := [some (.int y40)]) rfl ?_
  refine g_iload_n (pc := 41) hC (i := 0) (x := y40) rfl rfl d_JInt_bitCount_41 ?_
  refine g_iload_n (pc := 42) hC (i := 0) (x := y40) rfl rfl d_JInt_bitCount_42 ?_
  refine g_bipush (pc := 43) hC kb_16 d_JInt_bitCount_43 ?_
  refine g_iushr (pc := 45) hC d_JInt_bitCount_45 ?_
  refine g_iadd (pc := 46) hC d_JInt_bitCount_46 ?_
  refine g_leti h (fun y47 h => ?_)
  refine s_istore_n (pc := 47) hC (i := 0) rfl (by decide) d_JInt_bitCount_47 (lv2 := [some (.int y47)]) rfl ?_
  refine g_iload_n (pc := 48) hC (i := 0) (x := y47) rfl rfl d_JInt_bitCount_48 ?_
  refine g_bipush (pc := 49) hC kb_63 d_JInt_bitCount_49 ?_
  refine g_iand (pc := 51) hC d_JInt_bitCount_51 ?_
  exact g_iN (pc := 52) hC rfl d_JInt_bitCount_52 h
theorem c_JInt_bitCount {V : WV} {l : Launch} (hVO : VOk V) {x0 : Int32} {S : Mem} {z : Int32} (h : f_JInt_bitCount x0 = some z) : CI V l y_JInt_bitCount bc_JInt_bitCount 1 (some .int) 0 0 [.int x0] S z S :=
  ct_i rfl hVO (Nat.le_of_ble_eq_true rfl) (fun _ _ hC => w_JInt_bitCount_b0 hC x0 h)
def f_JArr_fill_b5 (ao : Nat) (af : Nat) (an : Nat) (k5 : Int32 → Int32 → Int32 → Mem → Option (Mem)) (x1 : Int32) (x2 : Int32) (x3 : Int32) (S : Mem) : Option (Mem) :=
  if x3 ≤ x2 then
    some S
  else
    gIn x2 an (letS (sA S ao af x2 x1) (fun S13 =>
    k5 x1 (x2 + 1) x3 S13))
def f_JArr_fill_l5 (ao : Nat) (af : Nat) (an : Nat) : Nat → Int32 → Int32 → Int32 → Mem → Option (Mem)
  | 0 => fun _ _ _ _ => none
  | n + 1 => f_JArr_fill_b5 ao af an (f_JArr_fill_l5 ao af an n)
def f_JArr_fill_b0 (ao : Nat) (af : Nat) (an : Nat) (x1 : Int32) (S : Mem) : Option (Mem) :=
  letS (Int32.ofNat an) (fun y4 =>
  f_JArr_fill_l5 ao af an 5000 x1 0 y4 S)
def f_JArr_fill (ao : Nat) (af : Nat) (an : Nat) (x1 : Int32) (S : Mem) : Option (Mem) := f_JArr_fill_b0 ao af an x1 S
theorem d_JArr_fill_0 : decode bc_JArr_fill 0 = .ok (.iconst 0, 1) := by decide +kernel
theorem d_JArr_fill_1 : decode bc_JArr_fill 1 = .ok (.istore_n 2, 1) := by decide +kernel
theorem d_JArr_fill_2 : decode bc_JArr_fill 2 = .ok (.aload_n 0, 1) := by decide +kernel
theorem d_JArr_fill_3 : decode bc_JArr_fill 3 = .ok (.arraylength, 1) := by decide +kernel
theorem d_JArr_fill_4 : decode bc_JArr_fill 4 = .ok (.istore_n 3, 1) := by decide +kernel
theorem d_JArr_fill_5 : decode bc_JArr_fill 5 = .ok (.iload_n 2, 1) := by decide +kernel
theorem d_JArr_fill_6 : decode bc_JArr_fill 6 = .ok (.iload_n 3, 1) := by decide +kernel
theorem d_JArr_fill_7 : decode bc_JArr_fill 7 = .ok (.if_icmp .ge 13, 3) := by decide +kernel
theorem d_JArr_fill_10 : decode bc_JArr_fill 10 = .ok (.aload_n 0, 1) := by decide +kernel
theorem d_JArr_fill_11 : decode bc_JArr_fill 11 = .ok (.iload_n 2, 1) := by decide +kernel
theorem d_JArr_fill_12 : decode bc_JArr_fill 12 = .ok (.iload_n 1, 1) := by decide +kernel
theorem d_JArr_fill_13 : decode bc_JArr_fill 13 = .ok (.iastore, 1) := by decide +kernel
theorem d_JArr_fill_14 : decode bc_JArr_fill 14 = .ok (.iinc 2 1, 3) := by decide +kernel
theorem d_JArr_fill_17 : decode bc_JArr_fill 17 = .ok (.goto (-12), 3) := by decide +kernel
theorem d_JArr_fill_20 : decode bc_JArr_fill 20 = .ok (.return_, 1) := by decide +kernel
set_option maxRecDepth 20000 in
theorem w_JArr_fill_b5 {X : CX} {V : WV} {ao : Nat} {af : Nat} {an : Nat} (han : (ao, af, 0, an) ∈ V.2.2.2.2) {z : Mem} (hC : Ck X V bc_JArr_fill 4 "java/util/Arrays" none 0 0) (k5 : Int32 → Int32 → Int32 → Mem → Option (Mem)) (hk5 : ∀ (x1 : Int32) (x2 : Int32) (x3 : Int32) (S : Mem), k5 x1 x2 x3 S = some z → G X V 4 (QV X V z) 5 [some (.ref (V.2.2.1 ao (af + 1))), some (.int x1), some (.int x2), some (.int x3)] [] S) (x1 : Int32) (x2 : Int32) (x3 : Int32) (S : Mem) (h : f_JArr_fill_b5 ao af an k5 x1 x2 x3 S = some z) : G X V 4 (QV X V z) 5 [some (.ref (V.2.2.1 ao (af + 1))), some (.int x1), some (.int x2), some (.int x3)] [] S := by
  unfold f_JArr_fill_b5 at h
  refine g_iload_n (pc := 5) hC (i := 2) (x := x2) rfl rfl d_JArr_fill_5 ?_
  refine g_iload_n (pc := 6) hC (i := 3) (x := x3) rfl rfl d_JArr_fill_6 ?_
  refine g_icmp_ge (pc := 7) hC (tgt := 20) (by decide) d_JArr_fill_7 h (fun h => ?_) (fun h => ?_)
  · exact g_vW (pc := 20) hC d_JArr_fill_20 h
  · refine g_aload_n (pc := 10) hC (i := 0) (x := (V.2.2.1 ao (af + 1))) rfl rfl d_JArr_fill_10 ?_
    refine g_iload_n (pc := 11) hC (i := 2) (x := x2) rfl rfl d_JArr_fill_11 ?_
    refine g_iload_n (pc := 12) hC (i := 1) (x := x1) rfl rfl d_JArr_fill_12 ?_
    refine g_iast (pc := 13) hC han d_JArr_fill_13 h (fun h => ?_)
    refine g_letS h (fun S13 h => ?_)
    refine s_iinc (pc := 14) hC (i := 2) (x := x2) (v := x2 + 1) rfl (by rw [kc_1]) (by decide) d_JArr_fill_14 (lv2 := [some (.ref (V.2.2.1 ao (af + 1))), some (.int x1), some (.int (x2 + 1)), some (.int x3)]) rfl ?_
    refine g_goto (pc := 17) hC (tgt := 5) (by decide) d_JArr_fill_17 ?_
    exact hk5 x1 (x2 + 1) x3 S13 h
theorem w_JArr_fill_l5 {X : CX} {V : WV} {ao : Nat} {af : Nat} {an : Nat} (han : (ao, af, 0, an) ∈ V.2.2.2.2) {z : Mem} (hC : Ck X V bc_JArr_fill 4 "java/util/Arrays" none 0 0) : ∀ (n : Nat) (x1 : Int32) (x2 : Int32) (x3 : Int32) (S : Mem), f_JArr_fill_l5 ao af an n x1 x2 x3 S = some z → G X V 4 (QV X V z) 5 [some (.ref (V.2.2.1 ao (af + 1))), some (.int x1), some (.int x2), some (.int x3)] [] S := by
  intro n
  induction n with
  | zero =>
    intro x1 x2 x3 S h
    have h : (none : Option (Mem)) = some z := h
    cases h
  | succ n ih =>
    intro x1 x2 x3 S h
    exact w_JArr_fill_b5 han hC (f_JArr_fill_l5 ao af an n) ih x1 x2 x3 S h
set_option maxRecDepth 20000 in
theorem w_JArr_fill_b0 {X : CX} {V : WV} {ao : Nat} {af : Nat} {an : Nat} (han : (ao, af, 0, an) ∈ V.2.2.2.2) {z : Mem} (hC : Ck X V bc_JArr_fill 4 "java/util/Arrays" none 0 0) (x1 : Int32) (S : Mem) (h : f_JArr_fill_b0 ao af an x1 S = some z) : G X V 4 (QV X V z) 0 [some (.ref (V.2.2.1 ao (af + 1))), some (.int x1), none, none] [] S := by
  unfold f_JArr_fill_b0 at h
  refine g_iconst (pc := 0) hC kc_0 d_JArr_fill_0 ?_
  refine s_istore_n (pc := 1) hC (i := 2) rfl (by decide) d_JArr_fill_1 (lv2 := [some (.ref (V.2.2.1 ao (af + 1))), some (.int x1), some (.int 0), none]) rfl ?_
  refine g_aload_n (pc := 2) hC (i := 0) (x := (V.2.2.1 ao (af + 1))) rfl rfl d_JArr_fill_2 ?_
  refine g_alen (pc := 3) hC (by decide) han rfl d_JArr_fill_3 ?_
  refine g_leti h (fun y4 h => ?_)
  refine s_istore_n (pc := 4) hC (i := 3) rfl (by decide) d_JArr_fill_4 (lv2 := [some (.ref (V.2.2.1 ao (af + 1))), some (.int x1), some (.int 0), some (.int y4)]) rfl ?_
  exact w_JArr_fill_l5 han hC 5000 x1 0 y4 S h
theorem c_JArr_fill {V : WV} {l : Launch} (hVO : VOk V) {ao : Nat} {af : Nat} {an : Nat} (han : (ao, af, 0, an) ∈ V.2.2.2.2) {x1 : Int32} {S : Mem} {z : Mem} (h : f_JArr_fill ao af an x1 S = some z) : CV V l y_JArr_fill bc_JArr_fill 4 none 0 0 [.ref (V.2.2.1 ao (af + 1)), .int x1] S z :=
  ct_v rfl hVO (Nat.le_of_ble_eq_true rfl) (fun _ _ hC => w_JArr_fill_b0 han hC x1 S h)
def f_JInt_numberOfTrailingZeros_b74 (x0 : Int32) (x1 : Int32) : Option (Int32) :=
  some (x1 + (jUshr x0 1))
def f_JInt_numberOfTrailingZeros_b62 (x0 : Int32) (x1 : Int32) : Option (Int32) :=
  if x0 ≤ 4 then
    f_JInt_numberOfTrailingZeros_b74 x0 x1
  else
    letS (jUshr x0 2) (fun y73 =>
    f_JInt_numberOfTrailingZeros_b74 y73 (x1 + 2))
def f_JInt_numberOfTrailingZeros_b49 (x0 : Int32) (x1 : Int32) : Option (Int32) :=
  if x0 ≤ 16 then
    f_JInt_numberOfTrailingZeros_b62 x0 x1
  else
    letS (jUshr x0 4) (fun y61 =>
    f_JInt_numberOfTrailingZeros_b62 y61 (x1 + 4))
def f_JInt_numberOfTrailingZeros_b34 (x0 : Int32) (x1 : Int32) : Option (Int32) :=
  if x0 ≤ 256 then
    f_JInt_numberOfTrailingZeros_b49 x0 x1
  else
    letS (jUshr x0 8) (fun y48 =>
    f_JInt_numberOfTrailingZeros_b49 y48 (x1 + 8))
def f_JInt_numberOfTrailingZeros_b0 (x0 : Int32) : Option (Int32) :=
  letS ((x0 ^^^ (-1)) &&& (x0 - 1)) (fun y7 =>
  if 0 < y7 then
    if y7 ≤ 65536 then
      f_JInt_numberOfTrailingZeros_b34 y7 1
    else
      letS (jUshr y7 16) (fun y33 =>
      f_JInt_numberOfTrailingZeros_b34 y33 (1 + 16))
  else
    some (y7 &&& 32))
def f_JInt_numberOfTrailingZeros (x0 : Int32) : Option (Int32) := f_JInt_numberOfTrailingZeros_b0  x0
theorem d_JInt_numberOfTrailingZeros_0 : decode bc_JInt_numberOfTrailingZeros 0 = .ok (.iload_n 0, 1) := by decide +kernel
theorem d_JInt_numberOfTrailingZeros_1 : decode bc_JInt_numberOfTrailingZeros 1 = .ok (.iconst (-1), 1) := by decide +kernel
theorem d_JInt_numberOfTrailingZeros_2 : decode bc_JInt_numberOfTrailingZeros 2 = .ok (.ixor, 1) := by decide +kernel
theorem d_JInt_numberOfTrailingZeros_3 : decode bc_JInt_numberOfTrailingZeros 3 = .ok (.iload_n 0, 1) := by decide +kernel
theorem d_JInt_numberOfTrailingZeros_4 : decode bc_JInt_numberOfTrailingZeros 4 = .ok (.iconst 1, 1) := by decide +kernel
theorem d_JInt_numberOfTrailingZeros_5 : decode bc_JInt_numberOfTrailingZeros 5 = .ok (.isub, 1) := by decide +kernel
theorem d_JInt_numberOfTrailingZeros_6 : decode bc_JInt_numberOfTrailingZeros 6 = .ok (.iand, 1) := by decide +kernel
theorem d_JInt_numberOfTrailingZeros_7 : decode bc_JInt_numberOfTrailingZeros 7 = .ok (.istore_n 0, 1) := by decide +kernel
theorem d_JInt_numberOfTrailingZeros_8 : decode bc_JInt_numberOfTrailingZeros 8 = .ok (.iload_n 0, 1) := by decide +kernel
theorem d_JInt_numberOfTrailingZeros_9 : decode bc_JInt_numberOfTrailingZeros 9 = .ok (.ifCond .gt 8, 3) := by decide +kernel
theorem d_JInt_numberOfTrailingZeros_12 : decode bc_JInt_numberOfTrailingZeros 12 = .ok (.iload_n 0, 1) := by decide +kernel
theorem d_JInt_numberOfTrailingZeros_13 : decode bc_JInt_numberOfTrailingZeros 13 = .ok (.bipush 32, 2) := by decide +kernel
theorem d_JInt_numberOfTrailingZeros_15 : decode bc_JInt_numberOfTrailingZeros 15 = .ok (.iand, 1) := by decide +kernel
theorem d_JInt_numberOfTrailingZeros_16 : decode bc_JInt_numberOfTrailingZeros 16 = .ok (.ireturn, 1) := by decide +kernel
theorem d_JInt_numberOfTrailingZeros_17 : decode bc_JInt_numberOfTrailingZeros 17 = .ok (.iconst 1, 1) := by decide +kernel
theorem d_JInt_numberOfTrailingZeros_18 : decode bc_JInt_numberOfTrailingZeros 18 = .ok (.istore_n 1, 1) := by decide +kernel
theorem d_JInt_numberOfTrailingZeros_19 : decode bc_JInt_numberOfTrailingZeros 19 = .ok (.iload_n 0, 1) := by decide +kernel
theorem d_JInt_numberOfTrailingZeros_20 : decode bc_JInt_numberOfTrailingZeros 20 = .ok (.ldc_w 264, 3) := by decide +kernel
theorem d_JInt_numberOfTrailingZeros_23 : decode bc_JInt_numberOfTrailingZeros 23 = .ok (.if_icmp .le 11, 3) := by decide +kernel
theorem d_JInt_numberOfTrailingZeros_26 : decode bc_JInt_numberOfTrailingZeros 26 = .ok (.iinc 1 16, 3) := by decide +kernel
theorem d_JInt_numberOfTrailingZeros_29 : decode bc_JInt_numberOfTrailingZeros 29 = .ok (.iload_n 0, 1) := by decide +kernel
theorem d_JInt_numberOfTrailingZeros_30 : decode bc_JInt_numberOfTrailingZeros 30 = .ok (.bipush 16, 2) := by decide +kernel
theorem d_JInt_numberOfTrailingZeros_32 : decode bc_JInt_numberOfTrailingZeros 32 = .ok (.iushr, 1) := by decide +kernel
theorem d_JInt_numberOfTrailingZeros_33 : decode bc_JInt_numberOfTrailingZeros 33 = .ok (.istore_n 0, 1) := by decide +kernel
theorem d_JInt_numberOfTrailingZeros_34 : decode bc_JInt_numberOfTrailingZeros 34 = .ok (.iload_n 0, 1) := by decide +kernel
theorem d_JInt_numberOfTrailingZeros_35 : decode bc_JInt_numberOfTrailingZeros 35 = .ok (.sipush 256, 3) := by decide +kernel
theorem d_JInt_numberOfTrailingZeros_38 : decode bc_JInt_numberOfTrailingZeros 38 = .ok (.if_icmp .le 11, 3) := by decide +kernel
theorem d_JInt_numberOfTrailingZeros_41 : decode bc_JInt_numberOfTrailingZeros 41 = .ok (.iinc 1 8, 3) := by decide +kernel
theorem d_JInt_numberOfTrailingZeros_44 : decode bc_JInt_numberOfTrailingZeros 44 = .ok (.iload_n 0, 1) := by decide +kernel
theorem d_JInt_numberOfTrailingZeros_45 : decode bc_JInt_numberOfTrailingZeros 45 = .ok (.bipush 8, 2) := by decide +kernel
theorem d_JInt_numberOfTrailingZeros_47 : decode bc_JInt_numberOfTrailingZeros 47 = .ok (.iushr, 1) := by decide +kernel
theorem d_JInt_numberOfTrailingZeros_48 : decode bc_JInt_numberOfTrailingZeros 48 = .ok (.istore_n 0, 1) := by decide +kernel
theorem d_JInt_numberOfTrailingZeros_49 : decode bc_JInt_numberOfTrailingZeros 49 = .ok (.iload_n 0, 1) := by decide +kernel
theorem d_JInt_numberOfTrailingZeros_50 : decode bc_JInt_numberOfTrailingZeros 50 = .ok (.bipush 16, 2) := by decide +kernel
theorem d_JInt_numberOfTrailingZeros_52 : decode bc_JInt_numberOfTrailingZeros 52 = .ok (.if_icmp .le 10, 3) := by decide +kernel
theorem d_JInt_numberOfTrailingZeros_55 : decode bc_JInt_numberOfTrailingZeros 55 = .ok (.iinc 1 4, 3) := by decide +kernel
theorem d_JInt_numberOfTrailingZeros_58 : decode bc_JInt_numberOfTrailingZeros 58 = .ok (.iload_n 0, 1) := by decide +kernel
theorem d_JInt_numberOfTrailingZeros_59 : decode bc_JInt_numberOfTrailingZeros 59 = .ok (.iconst 4, 1) := by decide +kernel
theorem d_JInt_numberOfTrailingZeros_60 : decode bc_JInt_numberOfTrailingZeros 60 = .ok (.iushr, 1) := by decide +kernel
theorem d_JInt_numberOfTrailingZeros_61 : decode bc_JInt_numberOfTrailingZeros 61 = .ok (.istore_n 0, 1) := by decide +kernel
theorem d_JInt_numberOfTrailingZeros_62 : decode bc_JInt_numberOfTrailingZeros 62 = .ok (.iload_n 0, 1) := by decide +kernel
theorem d_JInt_numberOfTrailingZeros_63 : decode bc_JInt_numberOfTrailingZeros 63 = .ok (.iconst 4, 1) := by decide +kernel
theorem d_JInt_numberOfTrailingZeros_64 : decode bc_JInt_numberOfTrailingZeros 64 = .ok (.if_icmp .le 10, 3) := by decide +kernel
theorem d_JInt_numberOfTrailingZeros_67 : decode bc_JInt_numberOfTrailingZeros 67 = .ok (.iinc 1 2, 3) := by decide +kernel
theorem d_JInt_numberOfTrailingZeros_70 : decode bc_JInt_numberOfTrailingZeros 70 = .ok (.iload_n 0, 1) := by decide +kernel
theorem d_JInt_numberOfTrailingZeros_71 : decode bc_JInt_numberOfTrailingZeros 71 = .ok (.iconst 2, 1) := by decide +kernel
theorem d_JInt_numberOfTrailingZeros_72 : decode bc_JInt_numberOfTrailingZeros 72 = .ok (.iushr, 1) := by decide +kernel
theorem d_JInt_numberOfTrailingZeros_73 : decode bc_JInt_numberOfTrailingZeros 73 = .ok (.istore_n 0, 1) := by decide +kernel
theorem d_JInt_numberOfTrailingZeros_74 : decode bc_JInt_numberOfTrailingZeros 74 = .ok (.iload_n 1, 1) := by decide +kernel
theorem d_JInt_numberOfTrailingZeros_75 : decode bc_JInt_numberOfTrailingZeros 75 = .ok (.iload_n 0, 1) := by decide +kernel
theorem d_JInt_numberOfTrailingZeros_76 : decode bc_JInt_numberOfTrailingZeros 76 = .ok (.iconst 1, 1) := by decide +kernel
theorem d_JInt_numberOfTrailingZeros_77 : decode bc_JInt_numberOfTrailingZeros 77 = .ok (.iushr, 1) := by decide +kernel
theorem d_JInt_numberOfTrailingZeros_78 : decode bc_JInt_numberOfTrailingZeros 78 = .ok (.iadd, 1) := by decide +kernel
theorem d_JInt_numberOfTrailingZeros_79 : decode bc_JInt_numberOfTrailingZeros 79 = .ok (.ireturn, 1) := by decide +kernel
set_option maxRecDepth 20000 in
theorem w_JInt_numberOfTrailingZeros_b74 {X : CX} {V : WV} {S : Mem} {z : Int32} (hC : Ck X V bc_JInt_numberOfTrailingZeros 2 "java/lang/Integer" (some .int) 0 0) (x0 : Int32) (x1 : Int32) (h : f_JInt_numberOfTrailingZeros_b74  x0 x1 = some z) : G X V 2 (QI X V z S) 74 [some (.int x0), some (.int x1)] [] S := by
  unfold f_JInt_numberOfTrailingZeros_b74 at h
  refine g_iload_n (pc := 74) hC (i := 1) (x := x1) rfl rfl d_JInt_numberOfTrailingZeros_74 ?_
  refine g_iload_n (pc := 75) hC (i := 0) (x := x0) rfl rfl d_JInt_numberOfTrailingZeros_75 ?_
  refine g_iconst (pc := 76) hC kc_1 d_JInt_numberOfTrailingZeros_76 ?_
  refine g_iushr (pc := 77) hC d_JInt_numberOfTrailingZeros_77 ?_
  refine g_iadd (pc := 78) hC d_JInt_numberOfTrailingZeros_78 ?_
  exact g_iN (pc := 79) hC rfl d_JInt_numberOfTrailingZeros_79 h
set_option maxRecDepth 20000 in
theorem w_JInt_numberOfTrailingZeros_b62 {X : CX} {V : WV} {S : Mem} {z : Int32} (hC : Ck X V bc_JInt_numberOfTrailingZeros 2 "java/lang/Integer" (some .int) 0 0) (x0 : Int32) (x1 : Int32) (h : f_JInt_numberOfTrailingZeros_b62  x0 x1 = some z) : G X V 2 (QI X V z S) 62 [some (.int x0), some (.int x1)] [] S := by
  unfold f_JInt_numberOfTrailingZeros_b62 at h
  refine g_iload_n (pc := 62) hC (i := 0) (x := x0) rfl rfl d_JInt_numberOfTrailingZeros_62 ?_
  refine g_iconst (pc := 63) hC kc_4 d_JInt_numberOfTrailingZeros_63 ?_
  refine g_icmp_le (pc := 64) hC (tgt := 74) (by decide) d_JInt_numberOfTrailingZeros_64 h (fun h => ?_) (fun h => ?_)
  · exact w_JInt_numberOfTrailingZeros_b74 hC x0 x1 h
  · refine s_iinc (pc := 67) hC (i := 1) (x := x1) (v := x1 + 2) rfl (by rw [kc_2]) (by decide) d_JInt_numberOfTrailingZeros_67 (lv2 := [some (.int x0), some (.int (x1 + 2))]) rfl ?_
    refine g_iload_n (pc := 70) hC (i := 0) (x := x0) rfl rfl d_JInt_numberOfTrailingZeros_70 ?_
    refine g_iconst (pc := 71) hC kc_2 d_JInt_numberOfTrailingZeros_71 ?_
    refine g_iushr (pc := 72) hC d_JInt_numberOfTrailingZeros_72 ?_
    refine g_leti h (fun y73 h => ?_)
    refine s_istore_n (pc := 73) hC (i := 0) rfl (by decide) d_JInt_numberOfTrailingZeros_73 (lv2 := [some (.int y73), some (.int (x1 + 2))]) rfl ?_
    exact w_JInt_numberOfTrailingZeros_b74 hC y73 (x1 + 2) h
set_option maxRecDepth 20000 in
theorem w_JInt_numberOfTrailingZeros_b49 {X : CX} {V : WV} {S : Mem} {z : Int32} (hC : Ck X V bc_JInt_numberOfTrailingZeros 2 "java/lang/Integer" (some .int) 0 0) (x0 : Int32) (x1 : Int32) (h : f_JInt_numberOfTrailingZeros_b49  x0 x1 = some z) : G X V 2 (QI X V z S) 49 [some (.int x0), some (.int x1)] [] S := by
  unfold f_JInt_numberOfTrailingZeros_b49 at h
  refine g_iload_n (pc := 49) hC (i := 0) (x := x0) rfl rfl d_JInt_numberOfTrailingZeros_49 ?_
  refine g_bipush (pc := 50) hC kb_16 d_JInt_numberOfTrailingZeros_50 ?_
  refine g_icmp_le (pc := 52) hC (tgt := 62) (by decide) d_JInt_numberOfTrailingZeros_52 h (fun h => ?_) (fun h => ?_)
  · exact w_JInt_numberOfTrailingZeros_b62 hC x0 x1 h
  · refine s_iinc (pc := 55) hC (i := 1) (x := x1) (v := x1 + 4) rfl (by rw [kc_4]) (by decide) d_JInt_numberOfTrailingZeros_55 (lv2 := [some (.int x0), some (.int (x1 + 4))]) rfl ?_
    refine g_iload_n (pc := 58) hC (i := 0) (x := x0) rfl rfl d_JInt_numberOfTrailingZeros_58 ?_
    refine g_iconst (pc := 59) hC kc_4 d_JInt_numberOfTrailingZeros_59 ?_
    refine g_iushr (pc := 60) hC d_JInt_numberOfTrailingZeros_60 ?_
    refine g_leti h (fun y61 h => ?_)
    refine s_istore_n (pc := 61) hC (i := 0) rfl (by decide) d_JInt_numberOfTrailingZeros_61 (lv2 := [some (.int y61), some (.int (x1 + 4))]) rfl ?_
    exact w_JInt_numberOfTrailingZeros_b62 hC y61 (x1 + 4) h
set_option maxRecDepth 20000 in
theorem w_JInt_numberOfTrailingZeros_b34 {X : CX} {V : WV} {S : Mem} {z : Int32} (hC : Ck X V bc_JInt_numberOfTrailingZeros 2 "java/lang/Integer" (some .int) 0 0) (x0 : Int32) (x1 : Int32) (h : f_JInt_numberOfTrailingZeros_b34  x0 x1 = some z) : G X V 2 (QI X V z S) 34 [some (.int x0), some (.int x1)] [] S := by
  unfold f_JInt_numberOfTrailingZeros_b34 at h
  refine g_iload_n (pc := 34) hC (i := 0) (x := x0) rfl rfl d_JInt_numberOfTrailingZeros_34 ?_
  refine g_sipush (pc := 35) hC ks_256 d_JInt_numberOfTrailingZeros_35 ?_
  refine g_icmp_le (pc := 38) hC (tgt := 49) (by decide) d_JInt_numberOfTrailingZeros_38 h (fun h => ?_) (fun h => ?_)
  · exact w_JInt_numberOfTrailingZeros_b49 hC x0 x1 h
  · refine s_iinc (pc := 41) hC (i := 1) (x := x1) (v := x1 + 8) rfl (by rw [kc_8]) (by decide) d_JInt_numberOfTrailingZeros_41 (lv2 := [some (.int x0), some (.int (x1 + 8))]) rfl ?_
    refine g_iload_n (pc := 44) hC (i := 0) (x := x0) rfl rfl d_JInt_numberOfTrailingZeros_44 ?_
    refine g_bipush (pc := 45) hC kb_8 d_JInt_numberOfTrailingZeros_45 ?_
    refine g_iushr (pc := 47) hC d_JInt_numberOfTrailingZeros_47 ?_
    refine g_leti h (fun y48 h => ?_)
    refine s_istore_n (pc := 48) hC (i := 0) rfl (by decide) d_JInt_numberOfTrailingZeros_48 (lv2 := [some (.int y48), some (.int (x1 + 8))]) rfl ?_
    exact w_JInt_numberOfTrailingZeros_b49 hC y48 (x1 + 8) h
set_option maxRecDepth 20000 in
theorem w_JInt_numberOfTrailingZeros_b0 {X : CX} {V : WV} {S : Mem} {z : Int32} (hC : Ck X V bc_JInt_numberOfTrailingZeros 2 "java/lang/Integer" (some .int) 0 0) (x0 : Int32) (h : f_JInt_numberOfTrailingZeros_b0  x0 = some z) : G X V 2 (QI X V z S) 0 [some (.int x0), none] [] S := by
  unfold f_JInt_numberOfTrailingZeros_b0 at h
  refine g_iload_n (pc := 0) hC (i := 0) (x := x0) rfl rfl d_JInt_numberOfTrailingZeros_0 ?_
  refine g_iconst (pc := 1) hC kc_m1 d_JInt_numberOfTrailingZeros_1 ?_
  refine g_ixor (pc := 2) hC d_JInt_numberOfTrailingZeros_2 ?_
  refine g_iload_n (pc := 3) hC (i := 0) (x := x0) rfl rfl d_JInt_numberOfTrailingZeros_3 ?_
  refine g_iconst (pc := 4) hC kc_1 d_JInt_numberOfTrailingZeros_4 ?_
  refine g_isub (pc := 5) hC d_JInt_numberOfTrailingZeros_5 ?_
  refine g_iand (pc := 6) hC d_JInt_numberOfTrailingZeros_6 ?_
  refine g_leti h (fun y7 h => ?_)
  refine s_istore_n (pc := 7) hC (i := 0) rfl (by decide) d_JInt_numberOfTrailingZeros_7 (lv2 := [some (.int y7), none]) rfl ?_
  refine g_iload_n (pc := 8) hC (i := 0) (x := y7) rfl rfl d_JInt_numberOfTrailingZeros_8 ?_
  refine g_if_gt (pc := 9) hC (tgt := 17) (by decide) d_JInt_numberOfTrailingZeros_9 h (fun h => ?_) (fun h => ?_)
  · refine g_iconst (pc := 17) hC kc_1 d_JInt_numberOfTrailingZeros_17 ?_
    refine s_istore_n (pc := 18) hC (i := 1) rfl (by decide) d_JInt_numberOfTrailingZeros_18 (lv2 := [some (.int y7), some (.int 1)]) rfl ?_
    refine g_iload_n (pc := 19) hC (i := 0) (x := y7) rfl rfl d_JInt_numberOfTrailingZeros_19 ?_
    refine g_ldcw (pc := 20) hC q_JInt_k264 d_JInt_numberOfTrailingZeros_20 ?_
    refine g_icmp_le (pc := 23) hC (tgt := 34) (by decide) d_JInt_numberOfTrailingZeros_23 h (fun h => ?_) (fun h => ?_)
    · exact w_JInt_numberOfTrailingZeros_b34 hC y7 1 h
    · refine s_iinc (pc := 26) hC (i := 1) (x := 1) (v := 1 + 16) rfl (by rw [kc_16]) (by decide) d_JInt_numberOfTrailingZeros_26 (lv2 := [some (.int y7), some (.int (1 + 16))]) rfl ?_
      refine g_iload_n (pc := 29) hC (i := 0) (x := y7) rfl rfl d_JInt_numberOfTrailingZeros_29 ?_
      refine g_bipush (pc := 30) hC kb_16 d_JInt_numberOfTrailingZeros_30 ?_
      refine g_iushr (pc := 32) hC d_JInt_numberOfTrailingZeros_32 ?_
      refine g_leti h (fun y33 h => ?_)
      refine s_istore_n (pc := 33) hC (i := 0) rfl (by decide) d_JInt_numberOfTrailingZeros_33 (lv2 := [some (.int y33), some (.int (1 + 16))]) rfl ?_
      exact w_JInt_numberOfTrailingZeros_b34 hC y33 (1 + 16) h
  · refine g_iload_n (pc := 12) hC (i := 0) (x := y7) rfl rfl d_JInt_numberOfTrailingZeros_12 ?_
    refine g_bipush (pc := 13) hC kb_32 d_JInt_numberOfTrailingZeros_13 ?_
    refine g_iand (pc := 15) hC d_JInt_numberOfTrailingZeros_15 ?_
    exact g_iN (pc := 16) hC rfl d_JInt_numberOfTrailingZeros_16 h
theorem c_JInt_numberOfTrailingZeros {V : WV} {l : Launch} (hVO : VOk V) {x0 : Int32} {S : Mem} {z : Int32} (h : f_JInt_numberOfTrailingZeros x0 = some z) : CI V l y_JInt_numberOfTrailingZeros bc_JInt_numberOfTrailingZeros 2 (some .int) 0 0 [.int x0] S z S :=
  ct_i rfl hVO (Nat.le_of_ble_eq_true rfl) (fun _ _ hC => w_JInt_numberOfTrailingZeros_b0 hC x0 h)
