/-! methods of the bytecode as functions, and the machine's walks of them. By program (wip/whole/gen/make.py): JInt_bitCount, JArr_fill, JStr_coder, JStr_length, JStr_isLatin1, JPre_checkIndex, JStr_checkIndex, JLat_charAt, JStr_charAt, JLat_canEncode, JLat_indexOfChar, JLat_indexOf, JStr_indexOf2, JStr_indexOf, JInt_numberOfTrailingZeros -/
def f_JInt_bitCount_b0 (x0 : Int32) : Option (Int32) :=
  letS (x0 - ((jUshr x0 1) &&& 1431655765)) (fun y9 =>
  letS ((y9 &&& 858993459) + ((jUshr y9 2) &&& 858993459)) (fun y23 =>
  letS ((y23 + (jUshr y23 4)) &&& 252645135) (fun y33 =>
  letS (y33 + (jUshr y33 8)) (fun y40 =>
  letS (y40 + (jUshr y40 16)) (fun y47 =>
  some (y47 &&& 63))))))
def f_JInt_bitCount (x0 : Int32) : Option (Int32) := f_JInt_bitCount_b0  x0
theorem d_JInt_bitCount_0 : decode bc_JInt_bitCount 0 = .ok (.iload_n 0, 1) := by decide +kernel
theorem d_JInt_bitCount_1 : decode bc_JInt_bitCount 1 = .ok (.iload_n 0, 1) := by decide +kernel
theorem d_JInt_bitCount_2 : decode bc_JInt_bitCount 2 = .ok (.iconst 1, 1) := by decide +kernel
theorem d_JInt_bitCount_3 : decode bc_JInt_bitCount 3 = .ok (.iushr, 1) := by decide +kernel
theorem d_JInt_bitCount_4 : decode bc_JInt_bitCount 4 = .ok (.ldc_w 265, 3) := by decide +kernel
theorem d_JInt_bitCount_7 : decode bc_JInt_bitCount 7 = .ok (.iand, 1) := by decide +kernel
theorem d_JInt_bitCount_8 : decode bc_JInt_bitCount 8 = .ok (.isub, 1) := by decide +kernel
theorem d_JInt_bitCount_9 : decode bc_JInt_bitCount 9 = .ok (.istore_n 0, 1) := by decide +kernel
theorem d_JInt_bitCount_10 : decode bc_JInt_bitCount 10 = .ok (.iload_n 0, 1) := by decide +kernel
theorem d_JInt_bitCount_11 : decode bc_JInt_bitCount 11 = .ok (.ldc_w 266, 3) := by decide +kernel
theorem d_JInt_bitCount_14 : decode bc_JInt_bitCount 14 = .ok (.iand, 1) := by decide +kernel
theorem d_JInt_bitCount_15 : decode bc_JInt_bitCount 15 = .ok (.iload_n 0, 1) := by decide +kernel
theorem d_JInt_bitCount_16 : decode bc_JInt_bitCount 16 = .ok (.iconst 2, 1) := by decide +kernel
theorem d_JInt_bitCount_17 : decode bc_JInt_bitCount 17 = .ok (.iushr, 1) := by decide +kernel
theorem d_JInt_bitCount_18 : decode bc_JInt_bitCount 18 = .ok (.ldc_w 266, 3) := by decide +kernel
theorem d_JInt_bitCount_21 : decode bc_JInt_bitCount 21 = .ok (.iand, 1) := by decide +kernel
theorem d_JInt_bitCount_22 : decode bc_JInt_bitCount 22 = .ok (.iadd, 1) := by decide +kernel
theorem d_JInt_bitCount_23 : decode bc_JInt_bitCount 23 = .ok (.istore_n 0, 1) := by decide +kernel
theorem d_JInt_bitCount_24 : decode bc_JInt_bitCount 24 = .ok (.iload_n 0, 1) := by decide +kernel
theorem d_JInt_bitCount_25 : decode bc_JInt_bitCount 25 = .ok (.iload_n 0, 1) := by decide +kernel
theorem d_JInt_bitCount_26 : decode bc_JInt_bitCount 26 = .ok (.iconst 4, 1) := by decide +kernel
theorem d_JInt_bitCount_27 : decode bc_JInt_bitCount 27 = .ok (.iushr, 1) := by decide +kernel
theorem d_JInt_bitCount_28 : decode bc_JInt_bitCount 28 = .ok (.iadd, 1) := by decide +kernel
theorem d_JInt_bitCount_29 : decode bc_JInt_bitCount 29 = .ok (.ldc_w 267, 3) := by decide +kernel
theorem d_JInt_bitCount_32 : decode bc_JInt_bitCount 32 = .ok (.iand, 1) := by decide +kernel
theorem d_JInt_bitCount_33 : decode bc_JInt_bitCount 33 = .ok (.istore_n 0, 1) := by decide +kernel
theorem d_JInt_bitCount_34 : decode bc_JInt_bitCount 34 = .ok (.iload_n 0, 1) := by decide +kernel
theorem d_JInt_bitCount_35 : decode bc_JInt_bitCount 35 = .ok (.iload_n 0, 1) := by decide +kernel
theorem d_JInt_bitCount_36 : decode bc_JInt_bitCount 36 = .ok (.bipush 8, 2) := by decide +kernel
theorem d_JInt_bitCount_38 : decode bc_JInt_bitCount 38 = .ok (.iushr, 1) := by decide +kernel
theorem d_JInt_bitCount_39 : decode bc_JInt_bitCount 39 = .ok (.iadd, 1) := by decide +kernel
theorem d_JInt_bitCount_40 : decode bc_JInt_bitCount 40 = .ok (.istore_n 0, 1) := by decide +kernel
theorem d_JInt_bitCount_41 : decode bc_JInt_bitCount 41 = .ok (.iload_n 0, 1) := by decide +kernel
theorem d_JInt_bitCount_42 : decode bc_JInt_bitCount 42 = .ok (.iload_n 0, 1) := by decide +kernel
theorem d_JInt_bitCount_43 : decode bc_JInt_bitCount 43 = .ok (.bipush 16, 2) := by decide +kernel
theorem d_JInt_bitCount_45 : decode bc_JInt_bitCount 45 = .ok (.iushr, 1) := by decide +kernel
theorem d_JInt_bitCount_46 : decode bc_JInt_bitCount 46 = .ok (.iadd, 1) := by decide +kernel
theorem d_JInt_bitCount_47 : decode bc_JInt_bitCount 47 = .ok (.istore_n 0, 1) := by decide +kernel
theorem d_JInt_bitCount_48 : decode bc_JInt_bitCount 48 = .ok (.iload_n 0, 1) := by decide +kernel
theorem d_JInt_bitCount_49 : decode bc_JInt_bitCount 49 = .ok (.bipush 63, 2) := by decide +kernel
theorem d_JInt_bitCount_51 : decode bc_JInt_bitCount 51 = .ok (.iand, 1) := by decide +kernel
theorem d_JInt_bitCount_52 : decode bc_JInt_bitCount 52 = .ok (.ireturn, 1) := by decide +kernel
set_option maxRecDepth 20000 in
theorem w_JInt_bitCount_b0 {X : CX} {V : WV} (hVO : VOk V) {S : Mem} {z : Int32} (hC : Ck X V bc_JInt_bitCount 1 "java/lang/Integer" (some .int) 0 0) (x0 : Int32) (h : f_JInt_bitCount_b0  x0 = some z) : G X V 1 (QI X V z S) 0 [some (.int x0)] [] S := by
  unfold f_JInt_bitCount_b0 at h
  refine g_iload_n (pc := 0) hC (i := 0) (x := x0) rfl rfl d_JInt_bitCount_0 ?_
  refine g_iload_n (pc := 1) hC (i := 0) (x := x0) rfl rfl d_JInt_bitCount_1 ?_
  refine g_iconst (pc := 2) hC kc_1 d_JInt_bitCount_2 ?_
  refine g_iushr (pc := 3) hC d_JInt_bitCount_3 ?_
  refine g_ldcw (pc := 4) hC q_JInt_k265 d_JInt_bitCount_4 ?_
  refine g_iand (pc := 7) hC d_JInt_bitCount_7 ?_
  refine g_isub (pc := 8) hC d_JInt_bitCount_8 ?_
  refine g_leti h (fun y9 h => ?_)
  refine s_istore_n (pc := 9) hC (i := 0) rfl (by decide) d_JInt_bitCount_9 (lv2 := [some (.int y9)]) rfl ?_
  refine g_iload_n (pc := 10) hC (i := 0) (x := y9) rfl rfl d_JInt_bitCount_10 ?_
  refine g_ldcw (pc := 11) hC q_JInt_k266 d_JInt_bitCount_11 ?_
  refine g_iand (pc := 14) hC d_JInt_bitCount_14 ?_
  refine g_iload_n (pc := 15) hC (i := 0) (x := y9) rfl rfl d_JInt_bitCount_15 ?_
  refine g_iconst (pc := 16) hC kc_2 d_JInt_bitCount_16 ?_
  refine g_iushr (pc := 17) hC d_JInt_bitCount_17 ?_
  refine g_ldcw (pc := 18) hC q_JInt_k266 d_JInt_bitCount_18 ?_
  refine g_iand (pc := 21) hC d_JInt_bitCount_21 ?_
  refine g_iadd (pc := 22) hC d_JInt_bitCount_22 ?_
  refine g_leti h (fun y23 h => ?_)
  refine s_istore_n (pc := 23) hC (i := 0) rfl (by decide) d_JInt_bitCount_23 (lv2 := [some (.int y23)]) rfl ?_
  refine g_iload_n (pc := 24) hC (i := 0) (x := y23) rfl rfl d_JInt_bitCount_24 ?_
  refine g_iload_n (pc := 25) hC (i := 0) (x := y23) rfl rfl d_JInt_bitCount_25 ?_
  refine g_iconst (pc := 26) hC kc_4 d_JInt_bitCount_26 ?_
  refine g_iushr (pc := 27) hC d_JInt_bitCount_27 ?_
  refine g_iadd (pc := 28) hC d_JInt_bitCount_28 ?_
  refine g_ldcw (pc := 29) hC q_JInt_k267 d_JInt_bitCount_29 ?_
  refine g_iand (pc := 32) hC d_JInt_bitCount_32 ?_
  refine g_leti h (fun y33 h => ?_)
  refine s_istore_n (pc := 33) hC (i := 0) rfl (by decide) d_JInt_bitCount_33 (lv2 := [some (.int y33)]) rfl ?_
  refine g_iload_n (pc := 34) hC (i := 0) (x := y33) rfl rfl d_JInt_bitCount_34 ?_
  refine g_iload_n (pc := 35) hC (i := 0) (x := y33) rfl rfl d_JInt_bitCount_35 ?_
  refine g_bipush (pc := 36) hC kb_8 d_JInt_bitCount_36 ?_
  refine g_iushr (pc := 38) hC d_JInt_bitCount_38 ?_
  refine g_iadd (pc := 39) hC d_JInt_bitCount_39 ?_
  refine g_leti h (fun y40 h => ?_)
  refine s_istore_n (pc := 40) hC (i := 0) rfl (by decide) d_JInt_bitCount_40 (lv2 := [some (.int y40)]) rfl ?_
  refine g_iload_n (pc := 41) hC (i := 0) (x := y40) rfl rfl d_JInt_bitCount_41 ?_
  refine g_iload_n (pc := 42) hC (i := 0) (x := y40) rfl rfl d_JInt_bitCount_42 ?_
  refine g_bipush (pc := 43) hC kb_16 d_JInt_bitCount_43 ?_
  refine g_iushr (pc := 45) hC d_JInt_bitCount_45 ?_
  refine g_iadd (pc := 46) hC d_JInt_bitCount_46 ?_
  refine g_leti h (fun y47 h => ?_)
  refine s_istore_n (pc := 47) hC (i := 0) rfl (by decide) d_JInt_bitCount_47 (lv2 := [some (.int y47)]) rfl ?_
  refine g_iload_n (pc := 48) hC (i := 0) (x := y47) rfl rfl d_JInt_bitCount_48 ?_
  refine g_bipush (pc := 49) hC kb_63 d_JInt_bitCount_49 ?_
  refine g_iand (pc := 51) hC d_JInt_bitCount_51 ?_
  exact g_iN (pc := 52) hC rfl d_JInt_bitCount_52 h
theorem c_JInt_bitCount {V : WV} {l : Launch} (hVO : VOk V) {x0 : Int32} {S : Mem} {z : Int32} (h : f_JInt_bitCount x0 = some z) : CI V l y_JInt_bitCount bc_JInt_bitCount 1 (some .int) 0 0 [.int x0] S z S :=
  ct_i rfl hVO (Nat.le_of_ble_eq_true rfl) (fun _ _ hC => w_JInt_bitCount_b0 hVO hC x0 h)
def f_JArr_fill_b5 (ao : Nat) (af : Nat) (an : Nat) (k5 : Int32 → Int32 → Int32 → Mem → Option (Mem)) (x1 : Int32) (x2 : Int32) (x3 : Int32) (S : Mem) : Option (Mem) :=
  if x3 ≤ x2 then
    some S
  else
    gIn x2 an (letS (sA S ao af x2 x1) (fun S13 =>
    k5 x1 (x2 + 1) x3 S13))
def f_JArr_fill_l5 (ao : Nat) (af : Nat) (an : Nat) : Nat → Int32 → Int32 → Int32 → Mem → Option (Mem)
  | 0 => fun _ _ _ _ => none
  | n + 1 => f_JArr_fill_b5 ao af an (f_JArr_fill_l5 ao af an n)
def f_JArr_fill_b0 (ao : Nat) (af : Nat) (an : Nat) (x1 : Int32) (S : Mem) : Option (Mem) :=
  letS (Int32.ofNat an) (fun y4 =>
  f_JArr_fill_l5 ao af an 5000 x1 0 y4 S)
def f_JArr_fill (ao : Nat) (af : Nat) (an : Nat) (x1 : Int32) (S : Mem) : Option (Mem) := f_JArr_fill_b0 ao af an x1 S
theorem d_JArr_fill_0 : decode bc_JArr_fill 0 = .ok (.iconst 0, 1) := by decide +kernel
theorem d_JArr_fill_1 : decode bc_JArr_fill 1 = .ok (.istore_n 2, 1) := by decide +kernel
theorem d_JArr_fill_2 : decode bc_JArr_fill 2 = .ok (.aload_n 0, 1) := by decide +kernel
theorem d_JArr_fill_3 : decode bc_JArr_fill 3 = .ok (.arraylength, 1) := by decide +kernel
theorem d_JArr_fill_4 : decode bc_JArr_fill 4 = .ok (.istore_n 3, 1) := by decide +kernel
theorem d_JArr_fill_5 : decode bc_JArr_fill 5 = .ok (.iload_n 2, 1) := by decide +kernel
theorem d_JArr_fill_6 : decode bc_JArr_fill 6 = .ok (.iload_n 3, 1) := by decide +kernel
theorem d_JArr_fill_7 : decode bc_JArr_fill 7 = .ok (.if_icmp .ge 13, 3) := by decide +kernel
theorem d_JArr_fill_10 : decode bc_JArr_fill 10 = .ok (.aload_n 0, 1) := by decide +kernel
theorem d_JArr_fill_11 : decode bc_JArr_fill 11 = .ok (.iload_n 2, 1) := by decide +kernel
theorem d_JArr_fill_12 : decode bc_JArr_fill 12 = .ok (.iload_n 1, 1) := by decide +kernel
theorem d_JArr_fill_13 : decode bc_JArr_fill 13 = .ok (.iastore, 1) := by decide +kernel
theorem d_JArr_fill_14 : decode bc_JArr_fill 14 = .ok (.iinc 2 1, 3) := by decide +kernel
theorem d_JArr_fill_17 : decode bc_JArr_fill 17 = .ok (.goto (-12), 3) := by decide +kernel
theorem d_JArr_fill_20 : decode bc_JArr_fill 20 = .ok (.return_, 1) := by decide +kernel
set_option maxRecDepth 20000 in
theorem w_JArr_fill_b5 {X : CX} {V : WV} {ao : Nat} {af : Nat} {an : Nat} (hVO : VOk V) (han : (ao, af, 0, an) ∈ V.2.2.2.2) {z : Mem} (hC : Ck X V bc_JArr_fill 4 "java/util/Arrays" none 0 0) (k5 : Int32 → Int32 → Int32 → Mem → Option (Mem)) (hk5 : ∀ (x1 : Int32) (x2 : Int32) (x3 : Int32) (S : Mem), k5 x1 x2 x3 S = some z → G X V 4 (QV X V z) 5 [some (.ref (V.2.2.1 ao (af + 1))), some (.int x1), some (.int x2), some (.int x3)] [] S) (x1 : Int32) (x2 : Int32) (x3 : Int32) (S : Mem) (h : f_JArr_fill_b5 ao af an k5 x1 x2 x3 S = some z) : G X V 4 (QV X V z) 5 [some (.ref (V.2.2.1 ao (af + 1))), some (.int x1), some (.int x2), some (.int x3)] [] S := by
  unfold f_JArr_fill_b5 at h
  refine g_iload_n (pc := 5) hC (i := 2) (x := x2) rfl rfl d_JArr_fill_5 ?_
  refine g_iload_n (pc := 6) hC (i := 3) (x := x3) rfl rfl d_JArr_fill_6 ?_
  refine g_icmp_ge (pc := 7) hC (tgt := 20) (by decide) d_JArr_fill_7 h (fun h => ?_) (fun h => ?_)
  · exact g_vW (pc := 20) hC d_JArr_fill_20 h
  · refine g_aload_n (pc := 10) hC (i := 0) (x := (V.2.2.1 ao (af + 1))) rfl rfl d_JArr_fill_10 ?_
    refine g_iload_n (pc := 11) hC (i := 2) (x := x2) rfl rfl d_JArr_fill_11 ?_
    refine g_iload_n (pc := 12) hC (i := 1) (x := x1) rfl rfl d_JArr_fill_12 ?_
    refine g_iast (pc := 13) hC han d_JArr_fill_13 h (fun h => ?_)
    refine g_letS h (fun S13 h => ?_)
    refine s_iinc (pc := 14) hC (i := 2) (x := x2) (v := x2 + 1) rfl (by rw [kc_1]) (by decide) d_JArr_fill_14 (lv2 := [some (.ref (V.2.2.1 ao (af + 1))), some (.int x1), some (.int (x2 + 1)), some (.int x3)]) rfl ?_
    refine g_goto (pc := 17) hC (tgt := 5) (by decide) d_JArr_fill_17 ?_
    exact hk5 x1 (x2 + 1) x3 S13 h
theorem w_JArr_fill_l5 {X : CX} {V : WV} {ao : Nat} {af : Nat} {an : Nat} (hVO : VOk V) (han : (ao, af, 0, an) ∈ V.2.2.2.2) {z : Mem} (hC : Ck X V bc_JArr_fill 4 "java/util/Arrays" none 0 0) : ∀ (n : Nat) (x1 : Int32) (x2 : Int32) (x3 : Int32) (S : Mem), f_JArr_fill_l5 ao af an n x1 x2 x3 S = some z → G X V 4 (QV X V z) 5 [some (.ref (V.2.2.1 ao (af + 1))), some (.int x1), some (.int x2), some (.int x3)] [] S := by
  intro n
  induction n with
  | zero =>
    intro x1 x2 x3 S h
    have h : (none : Option (Mem)) = some z := h
    cases h
  | succ n ih =>
    intro x1 x2 x3 S h
    exact w_JArr_fill_b5 hVO han hC (f_JArr_fill_l5 ao af an n) ih x1 x2 x3 S h
set_option maxRecDepth 20000 in
theorem w_JArr_fill_b0 {X : CX} {V : WV} {ao : Nat} {af : Nat} {an : Nat} (hVO : VOk V) (han : (ao, af, 0, an) ∈ V.2.2.2.2) {z : Mem} (hC : Ck X V bc_JArr_fill 4 "java/util/Arrays" none 0 0) (x1 : Int32) (S : Mem) (h : f_JArr_fill_b0 ao af an x1 S = some z) : G X V 4 (QV X V z) 0 [some (.ref (V.2.2.1 ao (af + 1))), some (.int x1), none, none] [] S := by
  unfold f_JArr_fill_b0 at h
  refine g_iconst (pc := 0) hC kc_0 d_JArr_fill_0 ?_
  refine s_istore_n (pc := 1) hC (i := 2) rfl (by decide) d_JArr_fill_1 (lv2 := [some (.ref (V.2.2.1 ao (af + 1))), some (.int x1), some (.int 0), none]) rfl ?_
  refine g_aload_n (pc := 2) hC (i := 0) (x := (V.2.2.1 ao (af + 1))) rfl rfl d_JArr_fill_2 ?_
  refine g_alen (pc := 3) hC (by decide) han rfl d_JArr_fill_3 ?_
  refine g_leti h (fun y4 h => ?_)
  refine s_istore_n (pc := 4) hC (i := 3) rfl (by decide) d_JArr_fill_4 (lv2 := [some (.ref (V.2.2.1 ao (af + 1))), some (.int x1), some (.int 0), some (.int y4)]) rfl ?_
  exact w_JArr_fill_l5 hVO han hC 5000 x1 0 y4 S h
theorem c_JArr_fill {V : WV} {l : Launch} (hVO : VOk V) {ao : Nat} {af : Nat} {an : Nat} (han : (ao, af, 0, an) ∈ V.2.2.2.2) {x1 : Int32} {S : Mem} {z : Mem} (h : f_JArr_fill ao af an x1 S = some z) : CV V l y_JArr_fill bc_JArr_fill 4 none 0 0 [.ref (V.2.2.1 ao (af + 1)), .int x1] S z :=
  ct_v rfl hVO (Nat.le_of_ble_eq_true rfl) (fun _ _ hC => w_JArr_fill_b0 hVO han hC x1 S h)
def f_JStr_coder_b0 (si : Nat) : Option (Int32) :=
  if (1 : Int32) = 0 then
    some 1
  else
    some (0 : Int32)
def f_JStr_coder (si : Nat) : Option (Int32) := f_JStr_coder_b0 si
theorem d_JStr_coder_0 : decode bc_JStr_coder 0 = .ok (.getstatic 38, 3) := by decide +kernel
theorem d_JStr_coder_3 : decode bc_JStr_coder 3 = .ok (.ifCond .eq 10, 3) := by decide +kernel
theorem d_JStr_coder_6 : decode bc_JStr_coder 6 = .ok (.aload_n 0, 1) := by decide +kernel
theorem d_JStr_coder_7 : decode bc_JStr_coder 7 = .ok (.getfield 15, 3) := by decide +kernel
theorem d_JStr_coder_10 : decode bc_JStr_coder 10 = .ok (.goto 4, 3) := by decide +kernel
theorem d_JStr_coder_13 : decode bc_JStr_coder 13 = .ok (.iconst 1, 1) := by decide +kernel
theorem d_JStr_coder_14 : decode bc_JStr_coder 14 = .ok (.ireturn, 1) := by decide +kernel
set_option maxRecDepth 20000 in
theorem w_JStr_coder_b0 {X : CX} {V : WV} {si : Nat} (hV : IsK V) (hsi : si < 7) {S : Mem} {z : Int32} (hC : Ck X V bc_JStr_coder 1 "java/lang/String" (some .byte) 0 0) (h : f_JStr_coder_b0 si = some z) : G X V 1 (QI X V z S) 0 [some (.ref (V.2.1.2.2.1 si))] [] S := by
  unfold f_JStr_coder_b0 at h
  refine g_gets1 (pc := 0) hV.2 hC fs_JStr_38 d_JStr_coder_0 ?_
  refine g_if_eq (pc := 3) hC (tgt := 13) (by decide) d_JStr_coder_3 h (fun h => ?_) (fun h => ?_)
  · refine g_iconst (pc := 13) hC kc_1 d_JStr_coder_13 ?_
    exact g_iN (pc := 14) hC rfl d_JStr_coder_14 h
  · refine g_aload_n (pc := 6) hC (i := 0) (x := (V.2.1.2.2.1 si)) rfl rfl d_JStr_coder_6 ?_
    refine g_scod (pc := 7) hV.2 hC hsi fs_JStr_15 d_JStr_coder_7 ?_
    refine g_goto (pc := 10) hC (tgt := 14) (by decide) d_JStr_coder_10 ?_
    exact g_iN (pc := 14) hC rfl d_JStr_coder_14 h
theorem c_JStr_coder {V : WV} {l : Launch} (hV : IsK V) {si : Nat} (hsi : si < 7) {S : Mem} {z : Int32} (h : f_JStr_coder si = some z) : CI V l y_JStr_coder bc_JStr_coder 1 (some .byte) 0 0 [.ref (V.2.1.2.2.1 si)] S z S :=
  ct_i rfl (IsK.ok hV) (Nat.le_of_ble_eq_true rfl) (fun _ _ hC => w_JStr_coder_b0 hV hsi hC h)
def f_JStr_length_b0 (si : Nat) : Option (Int32) :=
  Option.bind (f_JStr_coder si) (fun q6 =>
  some ((Int32.ofNat (jsLen.getD si 0)) >>> (q6 &&& 31)))
def f_JStr_length (si : Nat) : Option (Int32) := f_JStr_length_b0 si
theorem d_JStr_length_0 : decode bc_JStr_length 0 = .ok (.aload_n 0, 1) := by decide +kernel
theorem d_JStr_length_1 : decode bc_JStr_length 1 = .ok (.getfield 9, 3) := by decide +kernel
theorem d_JStr_length_4 : decode bc_JStr_length 4 = .ok (.arraylength, 1) := by decide +kernel
theorem d_JStr_length_5 : decode bc_JStr_length 5 = .ok (.aload_n 0, 1) := by decide +kernel
theorem d_JStr_length_6 : decode bc_JStr_length 6 = .ok (.invokevirtual 335, 3) := by decide +kernel
theorem d_JStr_length_9 : decode bc_JStr_length 9 = .ok (.ishr, 1) := by decide +kernel
theorem d_JStr_length_10 : decode bc_JStr_length 10 = .ok (.ireturn, 1) := by decide +kernel
set_option maxRecDepth 20000 in
theorem w_JStr_length_b0 {X : CX} {V : WV} {si : Nat} (hV : IsK V) (hsi : si < 7) {S : Mem} {z : Int32} (hC : Ck X V bc_JStr_length 1 "java/lang/String" (some .int) 1 20) (h : f_JStr_length_b0 si = some z) : G X V 1 (QI X V z S) 0 [some (.ref (V.2.1.2.2.1 si))] [] S := by
  unfold f_JStr_length_b0 at h
  refine g_aload_n (pc := 0) hC (i := 0) (x := (V.2.1.2.2.1 si)) rfl rfl d_JStr_length_0 ?_
  refine g_sval (pc := 1) hV.2 hC hsi fs_JStr_9 d_JStr_length_1 ?_
  refine g_slen (pc := 4) hV.2 hC hsi d_JStr_length_4 ?_
  refine g_aload_n (pc := 5) hC (i := 0) (x := (V.2.1.2.2.1 si)) rfl rfl d_JStr_length_5 ?_
  obtain ⟨q6, hq6, h⟩ := Option.bind_eq_some_iff.mp h
  refine g_ki (pc := 6) hV.2 hC (As := []) (st := [.int (Int32.ofNat (jsLen.getD si 0))]) mt_JStr_coder lk_JStr_335 rfl hsi (Nat.le_of_ble_eq_true rfl) ⟨Nat.le_of_ble_eq_true rfl, Nat.le_of_ble_eq_true rfl⟩ rfl d_JStr_length_6 (c_JStr_coder hV hsi hq6) ?_
  refine g_ishr (pc := 9) hC d_JStr_length_9 ?_
  exact g_iN (pc := 10) hC rfl d_JStr_length_10 h
theorem c_JStr_length {V : WV} {l : Launch} (hV : IsK V) {si : Nat} (hsi : si < 7) {S : Mem} {z : Int32} (h : f_JStr_length si = some z) : CI V l y_JStr_length bc_JStr_length 1 (some .int) 1 20 [.ref (V.2.1.2.2.1 si)] S z S :=
  ct_i rfl (IsK.ok hV) (Nat.le_of_ble_eq_true rfl) (fun _ _ hC => w_JStr_length_b0 hV hsi hC h)
def f_JStr_isLatin1_b0 (si : Nat) : Option (Int32) :=
  if (1 : Int32) = 0 then
    some 0
  else
    if (0 : Int32) = 0 then
      some 1
    else
      some 0
def f_JStr_isLatin1 (si : Nat) : Option (Int32) := f_JStr_isLatin1_b0 si
theorem d_JStr_isLatin1_0 : decode bc_JStr_isLatin1 0 = .ok (.getstatic 38, 3) := by decide +kernel
theorem d_JStr_isLatin1_3 : decode bc_JStr_isLatin1 3 = .ok (.ifCond .eq 14, 3) := by decide +kernel
theorem d_JStr_isLatin1_6 : decode bc_JStr_isLatin1 6 = .ok (.aload_n 0, 1) := by decide +kernel
theorem d_JStr_isLatin1_7 : decode bc_JStr_isLatin1 7 = .ok (.getfield 15, 3) := by decide +kernel
theorem d_JStr_isLatin1_10 : decode bc_JStr_isLatin1 10 = .ok (.ifCond .ne 7, 3) := by decide +kernel
theorem d_JStr_isLatin1_13 : decode bc_JStr_isLatin1 13 = .ok (.iconst 1, 1) := by decide +kernel
theorem d_JStr_isLatin1_14 : decode bc_JStr_isLatin1 14 = .ok (.goto 4, 3) := by decide +kernel
theorem d_JStr_isLatin1_17 : decode bc_JStr_isLatin1 17 = .ok (.iconst 0, 1) := by decide +kernel
theorem d_JStr_isLatin1_18 : decode bc_JStr_isLatin1 18 = .ok (.ireturn, 1) := by decide +kernel
set_option maxRecDepth 20000 in
theorem w_JStr_isLatin1_b0 {X : CX} {V : WV} {si : Nat} (hV : IsK V) (hsi : si < 7) {S : Mem} {z : Int32} (hC : Ck X V bc_JStr_isLatin1 1 "java/lang/String" (some .boolean) 0 0) (h : f_JStr_isLatin1_b0 si = some z) : G X V 1 (QI X V z S) 0 [some (.ref (V.2.1.2.2.1 si))] [] S := by
  unfold f_JStr_isLatin1_b0 at h
  refine g_gets1 (pc := 0) hV.2 hC fs_JStr_38 d_JStr_isLatin1_0 ?_
  refine g_if_eq (pc := 3) hC (tgt := 17) (by decide) d_JStr_isLatin1_3 h (fun h => ?_) (fun h => ?_)
  · refine g_iconst (pc := 17) hC kc_0 d_JStr_isLatin1_17 ?_
    exact g_iN (pc := 18) hC rfl d_JStr_isLatin1_18 h
  · refine g_aload_n (pc := 6) hC (i := 0) (x := (V.2.1.2.2.1 si)) rfl rfl d_JStr_isLatin1_6 ?_
    refine g_scod (pc := 7) hV.2 hC hsi fs_JStr_15 d_JStr_isLatin1_7 ?_
    refine g_if_ne (pc := 10) hC (tgt := 17) (by decide) d_JStr_isLatin1_10 h (fun h => ?_) (fun h => ?_)
    · refine g_iconst (pc := 17) hC kc_0 d_JStr_isLatin1_17 ?_
      exact g_iN (pc := 18) hC rfl d_JStr_isLatin1_18 h
    · refine g_iconst (pc := 13) hC kc_1 d_JStr_isLatin1_13 ?_
      refine g_goto (pc := 14) hC (tgt := 18) (by decide) d_JStr_isLatin1_14 ?_
      exact g_iN (pc := 18) hC rfl d_JStr_isLatin1_18 h
theorem c_JStr_isLatin1 {V : WV} {l : Launch} (hV : IsK V) {si : Nat} (hsi : si < 7) {S : Mem} {z : Int32} (h : f_JStr_isLatin1 si = some z) : CI V l y_JStr_isLatin1 bc_JStr_isLatin1 1 (some .boolean) 0 0 [.ref (V.2.1.2.2.1 si)] S z S :=
  ct_i rfl (IsK.ok hV) (Nat.le_of_ble_eq_true rfl) (fun _ _ hC => w_JStr_isLatin1_b0 hV hsi hC h)
def f_JPre_checkIndex_b9 (x0 : Int32) (x1 : Int32) : Option (Int32) :=
  none
def f_JPre_checkIndex_b0 (x0 : Int32) (x1 : Int32) : Option (Int32) :=
  if x0 < 0 then
    f_JPre_checkIndex_b9 x0 x1
  else
    if x0 < x1 then
      some x0
    else
      f_JPre_checkIndex_b9 x0 x1
def f_JPre_checkIndex (x0 : Int32) (x1 : Int32) : Option (Int32) := f_JPre_checkIndex_b0  x0 x1
theorem d_JPre_checkIndex_0 : decode bc_JPre_checkIndex 0 = .ok (.iload_n 0, 1) := by decide +kernel
theorem d_JPre_checkIndex_1 : decode bc_JPre_checkIndex 1 = .ok (.ifCond .lt 8, 3) := by decide +kernel
theorem d_JPre_checkIndex_4 : decode bc_JPre_checkIndex 4 = .ok (.iload_n 0, 1) := by decide +kernel
theorem d_JPre_checkIndex_5 : decode bc_JPre_checkIndex 5 = .ok (.iload_n 1, 1) := by decide +kernel
theorem d_JPre_checkIndex_6 : decode bc_JPre_checkIndex 6 = .ok (.if_icmp .lt 10, 3) := by decide +kernel
theorem d_JPre_checkIndex_9 : decode bc_JPre_checkIndex 9 = .ok (.aload_n 2, 1) := by decide +kernel
theorem d_JPre_checkIndex_16 : decode bc_JPre_checkIndex 16 = .ok (.iload_n 0, 1) := by decide +kernel
theorem d_JPre_checkIndex_17 : decode bc_JPre_checkIndex 17 = .ok (.ireturn, 1) := by decide +kernel
set_option maxRecDepth 20000 in
theorem w_JPre_checkIndex_b9 {X : CX} {V : WV} (hVO : VOk V) {S : Mem} {z : Int32} (hC : Ck X V bc_JPre_checkIndex 3 "jdk/internal/util/Preconditions" (some .int) 0 0) (x0 : Int32) (x1 : Int32) (h : f_JPre_checkIndex_b9  x0 x1 = some z) : G X V 3 (QI X V z S) 9 [some (.int x0), some (.int x1), none] [] S := by
  unfold f_JPre_checkIndex_b9 at h
  cases h
set_option maxRecDepth 20000 in
theorem w_JPre_checkIndex_b0 {X : CX} {V : WV} (hVO : VOk V) {S : Mem} {z : Int32} (hC : Ck X V bc_JPre_checkIndex 3 "jdk/internal/util/Preconditions" (some .int) 0 0) (x0 : Int32) (x1 : Int32) (h : f_JPre_checkIndex_b0  x0 x1 = some z) : G X V 3 (QI X V z S) 0 [some (.int x0), some (.int x1), none] [] S := by
  unfold f_JPre_checkIndex_b0 at h
  refine g_iload_n (pc := 0) hC (i := 0) (x := x0) rfl rfl d_JPre_checkIndex_0 ?_
  refine g_if_lt (pc := 1) hC (tgt := 9) (by decide) d_JPre_checkIndex_1 h (fun h => ?_) (fun h => ?_)
  · exact w_JPre_checkIndex_b9 hVO hC x0 x1 h
  · refine g_iload_n (pc := 4) hC (i := 0) (x := x0) rfl rfl d_JPre_checkIndex_4 ?_
    refine g_iload_n (pc := 5) hC (i := 1) (x := x1) rfl rfl d_JPre_checkIndex_5 ?_
    refine g_icmp_lt (pc := 6) hC (tgt := 16) (by decide) d_JPre_checkIndex_6 h (fun h => ?_) (fun h => ?_)
    · refine g_iload_n (pc := 16) hC (i := 0) (x := x0) rfl rfl d_JPre_checkIndex_16 ?_
      exact g_iN (pc := 17) hC rfl d_JPre_checkIndex_17 h
    · exact w_JPre_checkIndex_b9 hVO hC x0 x1 h
theorem c_JPre_checkIndex {V : WV} {l : Launch} (hVO : VOk V) {u : Value} (hu : u = .null ∨ ∃ a, u = .ref a) {x0 : Int32} {x1 : Int32} {S : Mem} {z : Int32} (h : f_JPre_checkIndex x0 x1 = some z) : CI V l y_JPre_checkIndex bc_JPre_checkIndex 3 (some .int) 0 0 [.int x0, .int x1, u] S z S := by
  rcases hu with rfl | ⟨a, rfl⟩ <;> exact ct_i rfl hVO (Nat.le_of_ble_eq_true rfl) (fun _ _ hC => g_le (lv2 := [some (.int x0), some (.int x1), none]) ⟨rfl, rfl, trivial⟩ (w_JPre_checkIndex_b0 hVO hC x0 x1 h))
def f_JStr_checkIndex_b0 (x0 : Int32) (x1 : Int32) (S : Mem) : Option (Mem) :=
  Option.bind (f_JPre_checkIndex x0 x1) (fun q5 =>
  some S)
def f_JStr_checkIndex (x0 : Int32) (x1 : Int32) (S : Mem) : Option (Mem) := f_JStr_checkIndex_b0  x0 x1 S
theorem d_JStr_checkIndex_0 : decode bc_JStr_checkIndex 0 = .ok (.iload_n 0, 1) := by decide +kernel
theorem d_JStr_checkIndex_1 : decode bc_JStr_checkIndex 1 = .ok (.iload_n 1, 1) := by decide +kernel
theorem d_JStr_checkIndex_2 : decode bc_JStr_checkIndex 2 = .ok (.getstatic 1053, 3) := by decide +kernel
theorem d_JStr_checkIndex_5 : decode bc_JStr_checkIndex 5 = .ok (.invokestatic 1059, 3) := by decide +kernel
theorem d_JStr_checkIndex_8 : decode bc_JStr_checkIndex 8 = .ok (.pop, 1) := by decide +kernel
theorem d_JStr_checkIndex_9 : decode bc_JStr_checkIndex 9 = .ok (.return_, 1) := by decide +kernel
set_option maxRecDepth 20000 in
theorem w_JStr_checkIndex_b0 {X : CX} {V : WV} (hV : IsK V) {z : Mem} (hC : Ck X V bc_JStr_checkIndex 2 "java/lang/String" none 1 22) (x0 : Int32) (x1 : Int32) (S : Mem) (h : f_JStr_checkIndex_b0  x0 x1 S = some z) : G X V 2 (QV X V z) 0 [some (.int x0), some (.int x1)] [] S := by
  unfold f_JStr_checkIndex_b0 at h
  refine g_iload_n (pc := 0) hC (i := 0) (x := x0) rfl rfl d_JStr_checkIndex_0 ?_
  refine g_iload_n (pc := 1) hC (i := 1) (x := x1) rfl rfl d_JStr_checkIndex_1 ?_
  refine g_getsU (pc := 2) hV.2 hC fs_JStr_1053 d_JStr_checkIndex_2 (fun u hu => ?_)
  obtain ⟨q5, hq5, h⟩ := Option.bind_eq_some_iff.mp h
  refine g_si (pc := 5) hC (As := [.int x0, .int x1, u]) (st := []) mt_JPre_checkIndex lk_JStr_1059 (Nat.le_of_ble_eq_true rfl) ⟨Nat.le_of_ble_eq_true rfl, Nat.le_of_ble_eq_true rfl⟩ rfl d_JStr_checkIndex_5 (c_JPre_checkIndex (IsK.ok hV) hu hq5) ?_
  refine g_pop (pc := 8) hC rfl d_JStr_checkIndex_8 ?_
  exact g_vW (pc := 9) hC d_JStr_checkIndex_9 h
theorem c_JStr_checkIndex {V : WV} {l : Launch} (hV : IsK V) {x0 : Int32} {x1 : Int32} {S : Mem} {z : Mem} (h : f_JStr_checkIndex x0 x1 S = some z) : CV V l y_JStr_checkIndex bc_JStr_checkIndex 2 none 1 22 [.int x0, .int x1] S z :=
  ct_v rfl (IsK.ok hV) (Nat.le_of_ble_eq_true rfl) (fun _ _ hC => w_JStr_checkIndex_b0 hV hC x0 x1 S h)
def f_JLat_charAt_b0 (si : Nat) (x1 : Int32) (S : Mem) : Option (Int32 × Mem) :=
  Option.bind (f_JStr_checkIndex x1 (Int32.ofNat (jsLen.getD si 0)) S) (fun q3 =>
  gIn x1 (jsLen.getD si 0) (
  gC (((((jsByt.getD si []).getD x1.toNatClampNeg 0) &&& 255).toUInt32 % 65536).toInt32) (some (((((jsByt.getD si []).getD x1.toNatClampNeg 0) &&& 255).toUInt32 % 65536).toInt32, q3))))
def f_JLat_charAt (si : Nat) (x1 : Int32) (S : Mem) : Option (Int32 × Mem) := f_JLat_charAt_b0 si x1 S
theorem d_JLat_charAt_0 : decode bc_JLat_charAt 0 = .ok (.iload_n 1, 1) := by decide +kernel
theorem d_JLat_charAt_1 : decode bc_JLat_charAt 1 = .ok (.aload_n 0, 1) := by decide +kernel
theorem d_JLat_charAt_2 : decode bc_JLat_charAt 2 = .ok (.arraylength, 1) := by decide +kernel
theorem d_JLat_charAt_3 : decode bc_JLat_charAt 3 = .ok (.invokestatic 9, 3) := by decide +kernel
theorem d_JLat_charAt_6 : decode bc_JLat_charAt 6 = .ok (.aload_n 0, 1) := by decide +kernel
theorem d_JLat_charAt_7 : decode bc_JLat_charAt 7 = .ok (.iload_n 1, 1) := by decide +kernel
theorem d_JLat_charAt_8 : decode bc_JLat_charAt 8 = .ok (.baload, 1) := by decide +kernel
theorem d_JLat_charAt_9 : decode bc_JLat_charAt 9 = .ok (.sipush 255, 3) := by decide +kernel
theorem d_JLat_charAt_12 : decode bc_JLat_charAt 12 = .ok (.iand, 1) := by decide +kernel
theorem d_JLat_charAt_13 : decode bc_JLat_charAt 13 = .ok (.i2c, 1) := by decide +kernel
theorem d_JLat_charAt_14 : decode bc_JLat_charAt 14 = .ok (.ireturn, 1) := by decide +kernel
set_option maxRecDepth 20000 in
theorem w_JLat_charAt_b0 {X : CX} {V : WV} {si : Nat} (hV : IsK V) (hsi : si < 7) {z : Int32 × Mem} (hC : Ck X V bc_JLat_charAt 2 "java/lang/StringLatin1" (some .char) 2 43) (x1 : Int32) (S : Mem) (h : f_JLat_charAt_b0 si x1 S = some z) : G X V 2 (QI X V z.1 z.2) 0 [some (.ref (V.2.1.2.2.2 si)), some (.int x1)] [] S := by
  unfold f_JLat_charAt_b0 at h
  refine g_iload_n (pc := 0) hC (i := 1) (x := x1) rfl rfl d_JLat_charAt_0 ?_
  refine g_aload_n (pc := 1) hC (i := 0) (x := (V.2.1.2.2.2 si)) rfl rfl d_JLat_charAt_1 ?_
  refine g_slen (pc := 2) hV.2 hC hsi d_JLat_charAt_2 ?_
  obtain ⟨q3, hq3, h⟩ := Option.bind_eq_some_iff.mp h
  refine g_sv (pc := 3) hC (As := [.int x1, .int (Int32.ofNat (jsLen.getD si 0))]) (st := []) mt_JStr_checkIndex lk_JLat_9 (Nat.le_of_ble_eq_true rfl) ⟨Nat.le_of_ble_eq_true rfl, Nat.le_of_ble_eq_true rfl⟩ rfl d_JLat_charAt_3 (c_JStr_checkIndex hV hq3) ?_
  refine g_aload_n (pc := 6) hC (i := 0) (x := (V.2.1.2.2.2 si)) rfl rfl d_JLat_charAt_6 ?_
  refine g_iload_n (pc := 7) hC (i := 1) (x := x1) rfl rfl d_JLat_charAt_7 ?_
  refine g_sald (pc := 8) hV.2 hC hsi d_JLat_charAt_8 h (fun h => ?_)
  refine g_sipush (pc := 9) hC ks_255 d_JLat_charAt_9 ?_
  refine g_iand (pc := 12) hC d_JLat_charAt_12 ?_
  refine g_i2c (pc := 13) hC d_JLat_charAt_13 ?_
  exact g_cW (pc := 14) hC d_JLat_charAt_14 h
theorem c_JLat_charAt {V : WV} {l : Launch} (hV : IsK V) {si : Nat} (hsi : si < 7) {x1 : Int32} {S : Mem} {z : Int32 × Mem} (h : f_JLat_charAt si x1 S = some z) : CI V l y_JLat_charAt bc_JLat_charAt 2 (some .char) 2 43 [.ref (V.2.1.2.2.2 si), .int x1] S z.1 z.2 :=
  ct_i rfl (IsK.ok hV) (Nat.le_of_ble_eq_true rfl) (fun _ _ hC => w_JLat_charAt_b0 hV hsi hC x1 S h)
def f_JStr_charAt_b0 (si : Nat) (x1 : Int32) (S : Mem) : Option (Int32 × Mem) :=
  Option.bind (f_JStr_isLatin1 si) (fun q1 =>
  if q1 = 0 then
    none
  else
    Option.bind (f_JLat_charAt si x1 S) (fun q12 =>
    gC q12.1 (some (q12.1, q12.2))))
def f_JStr_charAt (si : Nat) (x1 : Int32) (S : Mem) : Option (Int32 × Mem) := f_JStr_charAt_b0 si x1 S
theorem d_JStr_charAt_0 : decode bc_JStr_charAt 0 = .ok (.aload_n 0, 1) := by decide +kernel
theorem d_JStr_charAt_1 : decode bc_JStr_charAt 1 = .ok (.invokevirtual 492, 3) := by decide +kernel
theorem d_JStr_charAt_4 : decode bc_JStr_charAt 4 = .ok (.ifCond .eq 12, 3) := by decide +kernel
theorem d_JStr_charAt_7 : decode bc_JStr_charAt 7 = .ok (.aload_n 0, 1) := by decide +kernel
theorem d_JStr_charAt_8 : decode bc_JStr_charAt 8 = .ok (.getfield 9, 3) := by decide +kernel
theorem d_JStr_charAt_11 : decode bc_JStr_charAt 11 = .ok (.iload_n 1, 1) := by decide +kernel
theorem d_JStr_charAt_12 : decode bc_JStr_charAt 12 = .ok (.invokestatic 495, 3) := by decide +kernel
theorem d_JStr_charAt_15 : decode bc_JStr_charAt 15 = .ok (.ireturn, 1) := by decide +kernel
theorem d_JStr_charAt_16 : decode bc_JStr_charAt 16 = .ok (.aload_n 0, 1) := by decide +kernel
theorem d_JStr_charAt_17 : decode bc_JStr_charAt 17 = .ok (.getfield 9, 3) := by decide +kernel
theorem d_JStr_charAt_20 : decode bc_JStr_charAt 20 = .ok (.iload_n 1, 1) := by decide +kernel
theorem d_JStr_charAt_21 : decode bc_JStr_charAt 21 = .ok (.invokestatic 498, 3) := by decide +kernel
set_option maxRecDepth 20000 in
theorem w_JStr_charAt_b0 {X : CX} {V : WV} {si : Nat} (hV : IsK V) (hsi : si < 7) {z : Int32 × Mem} (hC : Ck X V bc_JStr_charAt 2 "java/lang/String" (some .char) 3 64) (x1 : Int32) (S : Mem) (h : f_JStr_charAt_b0 si x1 S = some z) : G X V 2 (QI X V z.1 z.2) 0 [some (.ref (V.2.1.2.2.1 si)), some (.int x1)] [] S := by
  unfold f_JStr_charAt_b0 at h
  refine g_aload_n (pc := 0) hC (i := 0) (x := (V.2.1.2.2.1 si)) rfl rfl d_JStr_charAt_0 ?_
  obtain ⟨q1, hq1, h⟩ := Option.bind_eq_some_iff.mp h
  refine g_ki (pc := 1) hV.2 hC (As := []) (st := []) mt_JStr_isLatin1 lk_JStr_492 rfl hsi (Nat.le_of_ble_eq_true rfl) ⟨Nat.le_of_ble_eq_true rfl, Nat.le_of_ble_eq_true rfl⟩ rfl d_JStr_charAt_1 (c_JStr_isLatin1 hV hsi hq1) ?_
  refine g_if_eq (pc := 4) hC (tgt := 16) (by decide) d_JStr_charAt_4 h (fun h => ?_) (fun h => ?_)
  · refine g_aload_n (pc := 16) hC (i := 0) (x := (V.2.1.2.2.1 si)) rfl rfl d_JStr_charAt_16 ?_
    refine g_sval (pc := 17) hV.2 hC hsi fs_JStr_9 d_JStr_charAt_17 ?_
    refine g_iload_n (pc := 20) hC (i := 1) (x := x1) rfl rfl d_JStr_charAt_20 ?_
    cases h
  · refine g_aload_n (pc := 7) hC (i := 0) (x := (V.2.1.2.2.1 si)) rfl rfl d_JStr_charAt_7 ?_
    refine g_sval (pc := 8) hV.2 hC hsi fs_JStr_9 d_JStr_charAt_8 ?_
    refine g_iload_n (pc := 11) hC (i := 1) (x := x1) rfl rfl d_JStr_charAt_11 ?_
    obtain ⟨q12, hq12, h⟩ := Option.bind_eq_some_iff.mp h
    refine g_si (pc := 12) hC (As := [.ref (V.2.1.2.2.2 si), .int x1]) (st := []) mt_JLat_charAt lk_JStr_495 (Nat.le_of_ble_eq_true rfl) ⟨Nat.le_of_ble_eq_true rfl, Nat.le_of_ble_eq_true rfl⟩ rfl d_JStr_charAt_12 (c_JLat_charAt hV hsi hq12) ?_
    exact g_cW (pc := 15) hC d_JStr_charAt_15 h
theorem c_JStr_charAt {V : WV} {l : Launch} (hV : IsK V) {si : Nat} (hsi : si < 7) {x1 : Int32} {S : Mem} {z : Int32 × Mem} (h : f_JStr_charAt si x1 S = some z) : CI V l y_JStr_charAt bc_JStr_charAt 2 (some .char) 3 64 [.ref (V.2.1.2.2.1 si), .int x1] S z.1 z.2 :=
  ct_i rfl (IsK.ok hV) (Nat.le_of_ble_eq_true rfl) (fun _ _ hC => w_JStr_charAt_b0 hV hsi hC x1 S h)
def f_JLat_canEncode_b0 (x0 : Int32) : Option (Int32) :=
  if x0 < 0 then
    some 0
  else
    if 255 < x0 then
      some 0
    else
      some 1
def f_JLat_canEncode (x0 : Int32) : Option (Int32) := f_JLat_canEncode_b0  x0
theorem d_JLat_canEncode_0 : decode bc_JLat_canEncode 0 = .ok (.iload_n 0, 1) := by decide +kernel
theorem d_JLat_canEncode_1 : decode bc_JLat_canEncode 1 = .ok (.ifCond .lt 14, 3) := by decide +kernel
theorem d_JLat_canEncode_4 : decode bc_JLat_canEncode 4 = .ok (.iload_n 0, 1) := by decide +kernel
theorem d_JLat_canEncode_5 : decode bc_JLat_canEncode 5 = .ok (.sipush 255, 3) := by decide +kernel
theorem d_JLat_canEncode_8 : decode bc_JLat_canEncode 8 = .ok (.if_icmp .gt 7, 3) := by decide +kernel
theorem d_JLat_canEncode_11 : decode bc_JLat_canEncode 11 = .ok (.iconst 1, 1) := by decide +kernel
theorem d_JLat_canEncode_12 : decode bc_JLat_canEncode 12 = .ok (.goto 4, 3) := by decide +kernel
theorem d_JLat_canEncode_15 : decode bc_JLat_canEncode 15 = .ok (.iconst 0, 1) := by decide +kernel
theorem d_JLat_canEncode_16 : decode bc_JLat_canEncode 16 = .ok (.ireturn, 1) := by decide +kernel
set_option maxRecDepth 20000 in
theorem w_JLat_canEncode_b0 {X : CX} {V : WV} (hVO : VOk V) {S : Mem} {z : Int32} (hC : Ck X V bc_JLat_canEncode 1 "java/lang/StringLatin1" (some .boolean) 0 0) (x0 : Int32) (h : f_JLat_canEncode_b0  x0 = some z) : G X V 1 (QI X V z S) 0 [some (.int x0)] [] S := by
  unfold f_JLat_canEncode_b0 at h
  refine g_iload_n (pc := 0) hC (i := 0) (x := x0) rfl rfl d_JLat_canEncode_0 ?_
  refine g_if_lt (pc := 1) hC (tgt := 15) (by decide) d_JLat_canEncode_1 h (fun h => ?_) (fun h => ?_)
  · refine g_iconst (pc := 15) hC kc_0 d_JLat_canEncode_15 ?_
    exact g_iN (pc := 16) hC rfl d_JLat_canEncode_16 h
  · refine g_iload_n (pc := 4) hC (i := 0) (x := x0) rfl rfl d_JLat_canEncode_4 ?_
    refine g_sipush (pc := 5) hC ks_255 d_JLat_canEncode_5 ?_
    refine g_icmp_gt (pc := 8) hC (tgt := 15) (by decide) d_JLat_canEncode_8 h (fun h => ?_) (fun h => ?_)
    · refine g_iconst (pc := 15) hC kc_0 d_JLat_canEncode_15 ?_
      exact g_iN (pc := 16) hC rfl d_JLat_canEncode_16 h
    · refine g_iconst (pc := 11) hC kc_1 d_JLat_canEncode_11 ?_
      refine g_goto (pc := 12) hC (tgt := 16) (by decide) d_JLat_canEncode_12 ?_
      exact g_iN (pc := 16) hC rfl d_JLat_canEncode_16 h
theorem c_JLat_canEncode {V : WV} {l : Launch} (hVO : VOk V) {x0 : Int32} {S : Mem} {z : Int32} (h : f_JLat_canEncode x0 = some z) : CI V l y_JLat_canEncode bc_JLat_canEncode 1 (some .boolean) 0 0 [.int x0] S z S :=
  ct_i rfl hVO (Nat.le_of_ble_eq_true rfl) (fun _ _ hC => w_JLat_canEncode_b0 hVO hC x0 h)
def f_JLat_indexOfChar_b7 (si : Nat) (k7 : Int32 → Int32 → Int32 → Option (Int32)) (x3 : Int32) (x4 : Int32) (x5 : Int32) : Option (Int32) :=
  if x3 ≤ x5 then
    some (-1)
  else
    gIn x5 (jsLen.getD si 0) (
    if ((jsByt.getD si []).getD x5.toNatClampNeg 0) = x4 then
      some x5
    else
      k7 x3 x4 (x5 + 1))
def f_JLat_indexOfChar_l7 (si : Nat) : Nat → Int32 → Int32 → Int32 → Option (Int32)
  | 0 => fun _ _ _ => none
  | n + 1 => f_JLat_indexOfChar_b7 si (f_JLat_indexOfChar_l7 si n)
def f_JLat_indexOfChar_b0 (si : Nat) (x1 : Int32) (x2 : Int32) (x3 : Int32) : Option (Int32) :=
  letS x1.toInt8.toInt32 (fun y2 =>
  f_JLat_indexOfChar_l7 si 5000 x3 y2 x2)
def f_JLat_indexOfChar (si : Nat) (x1 : Int32) (x2 : Int32) (x3 : Int32) : Option (Int32) := f_JLat_indexOfChar_b0 si x1 x2 x3
theorem d_JLat_indexOfChar_0 : decode bc_JLat_indexOfChar 0 = .ok (.iload_n 1, 1) := by decide +kernel
theorem d_JLat_indexOfChar_1 : decode bc_JLat_indexOfChar 1 = .ok (.i2b, 1) := by decide +kernel
theorem d_JLat_indexOfChar_2 : decode bc_JLat_indexOfChar 2 = .ok (.istore 4, 2) := by decide +kernel
theorem d_JLat_indexOfChar_4 : decode bc_JLat_indexOfChar 4 = .ok (.iload_n 2, 1) := by decide +kernel
theorem d_JLat_indexOfChar_5 : decode bc_JLat_indexOfChar 5 = .ok (.istore 5, 2) := by decide +kernel
theorem d_JLat_indexOfChar_7 : decode bc_JLat_indexOfChar 7 = .ok (.iload 5, 2) := by decide +kernel
theorem d_JLat_indexOfChar_9 : decode bc_JLat_indexOfChar 9 = .ok (.iload_n 3, 1) := by decide +kernel
theorem d_JLat_indexOfChar_10 : decode bc_JLat_indexOfChar 10 = .ok (.if_icmp .ge 21, 3) := by decide +kernel
theorem d_JLat_indexOfChar_13 : decode bc_JLat_indexOfChar 13 = .ok (.aload_n 0, 1) := by decide +kernel
theorem d_JLat_indexOfChar_14 : decode bc_JLat_indexOfChar 14 = .ok (.iload 5, 2) := by decide +kernel
theorem d_JLat_indexOfChar_16 : decode bc_JLat_indexOfChar 16 = .ok (.baload, 1) := by decide +kernel
theorem d_JLat_indexOfChar_17 : decode bc_JLat_indexOfChar 17 = .ok (.iload 4, 2) := by decide +kernel
theorem d_JLat_indexOfChar_19 : decode bc_JLat_indexOfChar 19 = .ok (.if_icmp .ne 6, 3) := by decide +kernel
theorem d_JLat_indexOfChar_22 : decode bc_JLat_indexOfChar 22 = .ok (.iload 5, 2) := by decide +kernel
theorem d_JLat_indexOfChar_24 : decode bc_JLat_indexOfChar 24 = .ok (.ireturn, 1) := by decide +kernel
theorem d_JLat_indexOfChar_25 : decode bc_JLat_indexOfChar 25 = .ok (.iinc 5 1, 3) := by decide +kernel
theorem d_JLat_indexOfChar_28 : decode bc_JLat_indexOfChar 28 = .ok (.goto (-21), 3) := by decide +kernel
theorem d_JLat_indexOfChar_31 : decode bc_JLat_indexOfChar 31 = .ok (.iconst (-1), 1) := by decide +kernel
theorem d_JLat_indexOfChar_32 : decode bc_JLat_indexOfChar 32 = .ok (.ireturn, 1) := by decide +kernel
set_option maxRecDepth 20000 in
theorem w_JLat_indexOfChar_b7 {X : CX} {V : WV} {si : Nat} (hV : IsK V) (hsi : si < 7) {S : Mem} {z : Int32} (hC : Ck X V bc_JLat_indexOfChar 6 "java/lang/StringLatin1" (some .int) 0 0) (k7 : Int32 → Int32 → Int32 → Option (Int32)) (hk7 : ∀ (x3 : Int32) (x4 : Int32) (x5 : Int32), k7 x3 x4 x5 = some z → G X V 6 (QI X V z S) 7 [some (.ref (V.2.1.2.2.2 si)), none, none, some (.int x3), some (.int x4), some (.int x5)] [] S) (x3 : Int32) (x4 : Int32) (x5 : Int32) (h : f_JLat_indexOfChar_b7 si k7 x3 x4 x5 = some z) : G X V 6 (QI X V z S) 7 [some (.ref (V.2.1.2.2.2 si)), none, none, some (.int x3), some (.int x4), some (.int x5)] [] S := by
  unfold f_JLat_indexOfChar_b7 at h
  refine g_iload (pc := 7) hC (i := 5) (x := x5) rfl d_JLat_indexOfChar_7 ?_
  refine g_iload_n (pc := 9) hC (i := 3) (x := x3) rfl rfl d_JLat_indexOfChar_9 ?_
  refine g_icmp_ge (pc := 10) hC (tgt := 31) (by decide) d_JLat_indexOfChar_10 h (fun h => ?_) (fun h => ?_)
  · refine g_iconst (pc := 31) hC kc_m1 d_JLat_indexOfChar_31 ?_
    exact g_iN (pc := 32) hC rfl d_JLat_indexOfChar_32 h
  · refine g_aload_n (pc := 13) hC (i := 0) (x := (V.2.1.2.2.2 si)) rfl rfl d_JLat_indexOfChar_13 ?_
    refine g_iload (pc := 14) hC (i := 5) (x := x5) rfl d_JLat_indexOfChar_14 ?_
    refine g_sald (pc := 16) hV.2 hC hsi d_JLat_indexOfChar_16 h (fun h => ?_)
    refine g_iload (pc := 17) hC (i := 4) (x := x4) rfl d_JLat_indexOfChar_17 ?_
    refine g_icmp_ne (pc := 19) hC (tgt := 25) (by decide) d_JLat_indexOfChar_19 h (fun h => ?_) (fun h => ?_)
    · refine s_iinc (pc := 25) hC (i := 5) (x := x5) (v := x5 + 1) rfl (by rw [kc_1]) (by decide) d_JLat_indexOfChar_25 (lv2 := [some (.ref (V.2.1.2.2.2 si)), none, none, some (.int x3), some (.int x4), some (.int (x5 + 1))]) rfl ?_
      refine g_goto (pc := 28) hC (tgt := 7) (by decide) d_JLat_indexOfChar_28 ?_
      exact hk7 x3 x4 (x5 + 1) h
    · refine g_iload (pc := 22) hC (i := 5) (x := x5) rfl d_JLat_indexOfChar_22 ?_
      exact g_iN (pc := 24) hC rfl d_JLat_indexOfChar_24 h
theorem w_JLat_indexOfChar_l7 {X : CX} {V : WV} {si : Nat} (hV : IsK V) (hsi : si < 7) {S : Mem} {z : Int32} (hC : Ck X V bc_JLat_indexOfChar 6 "java/lang/StringLatin1" (some .int) 0 0) : ∀ (n : Nat) (x3 : Int32) (x4 : Int32) (x5 : Int32), f_JLat_indexOfChar_l7 si n x3 x4 x5 = some z → G X V 6 (QI X V z S) 7 [some (.ref (V.2.1.2.2.2 si)), none, none, some (.int x3), some (.int x4), some (.int x5)] [] S := by
  intro n
  induction n with
  | zero =>
    intro x3 x4 x5 h
    have h : (none : Option (Int32)) = some z := h
    cases h
  | succ n ih =>
    intro x3 x4 x5 h
    exact w_JLat_indexOfChar_b7 hV hsi hC (f_JLat_indexOfChar_l7 si n) ih x3 x4 x5 h
set_option maxRecDepth 20000 in
theorem w_JLat_indexOfChar_b0 {X : CX} {V : WV} {si : Nat} (hV : IsK V) (hsi : si < 7) {S : Mem} {z : Int32} (hC : Ck X V bc_JLat_indexOfChar 6 "java/lang/StringLatin1" (some .int) 0 0) (x1 : Int32) (x2 : Int32) (x3 : Int32) (h : f_JLat_indexOfChar_b0 si x1 x2 x3 = some z) : G X V 6 (QI X V z S) 0 [some (.ref (V.2.1.2.2.2 si)), some (.int x1), some (.int x2), some (.int x3), none, none] [] S := by
  unfold f_JLat_indexOfChar_b0 at h
  refine g_iload_n (pc := 0) hC (i := 1) (x := x1) rfl rfl d_JLat_indexOfChar_0 ?_
  refine g_i2b (pc := 1) hC d_JLat_indexOfChar_1 ?_
  refine g_leti h (fun y2 h => ?_)
  refine s_istore (pc := 2) hC (i := 4) (by decide) d_JLat_indexOfChar_2 (lv2 := [some (.ref (V.2.1.2.2.2 si)), some (.int x1), some (.int x2), some (.int x3), some (.int y2), none]) rfl ?_
  refine g_iload_n (pc := 4) hC (i := 2) (x := x2) rfl rfl d_JLat_indexOfChar_4 ?_
  refine s_istore (pc := 5) hC (i := 5) (by decide) d_JLat_indexOfChar_5 (lv2 := [some (.ref (V.2.1.2.2.2 si)), some (.int x1), some (.int x2), some (.int x3), some (.int y2), some (.int x2)]) rfl ?_
  refine g_le (lv2 := [some (.ref (V.2.1.2.2.2 si)), none, none, some (.int x3), some (.int y2), some (.int x2)]) (⟨rfl, ⟨rfl, ⟨rfl, ⟨rfl, trivial⟩⟩⟩⟩) ?_
  exact w_JLat_indexOfChar_l7 hV hsi hC 5000 x3 y2 x2 h
theorem c_JLat_indexOfChar {V : WV} {l : Launch} (hV : IsK V) {si : Nat} (hsi : si < 7) {x1 : Int32} {x2 : Int32} {x3 : Int32} {S : Mem} {z : Int32} (h : f_JLat_indexOfChar si x1 x2 x3 = some z) : CI V l y_JLat_indexOfChar bc_JLat_indexOfChar 6 (some .int) 0 0 [.ref (V.2.1.2.2.2 si), .int x1, .int x2, .int x3] S z S :=
  ct_i rfl (IsK.ok hV) (Nat.le_of_ble_eq_true rfl) (fun _ _ hC => w_JLat_indexOfChar_b0 hV hsi hC x1 x2 x3 h)
def f_JLat_indexOf_b0 (si : Nat) (x1 : Int32) (x2 : Int32) (x3 : Int32) : Option (Int32) :=
  Option.bind (f_JLat_canEncode x1) (fun q1 =>
  if q1 = 0 then
    some (-1)
  else
    letS (jMmax x2 0) (fun y14 =>
    letS (jMmin x3 (Int32.ofNat (jsLen.getD si 0))) (fun y21 =>
    if y14 < y21 then
      Option.bind (f_JLat_indexOfChar si x1 y14 y21) (fun q33 =>
      some q33)
    else
      some (-1))))
def f_JLat_indexOf (si : Nat) (x1 : Int32) (x2 : Int32) (x3 : Int32) : Option (Int32) := f_JLat_indexOf_b0 si x1 x2 x3
theorem d_JLat_indexOf_0 : decode bc_JLat_indexOf 0 = .ok (.iload_n 1, 1) := by decide +kernel
theorem d_JLat_indexOf_1 : decode bc_JLat_indexOf 1 = .ok (.invokestatic 88, 3) := by decide +kernel
theorem d_JLat_indexOf_4 : decode bc_JLat_indexOf 4 = .ok (.ifCond .ne 5, 3) := by decide +kernel
theorem d_JLat_indexOf_7 : decode bc_JLat_indexOf 7 = .ok (.iconst (-1), 1) := by decide +kernel
theorem d_JLat_indexOf_8 : decode bc_JLat_indexOf 8 = .ok (.ireturn, 1) := by decide +kernel
theorem d_JLat_indexOf_9 : decode bc_JLat_indexOf 9 = .ok (.iload_n 2, 1) := by decide +kernel
theorem d_JLat_indexOf_10 : decode bc_JLat_indexOf 10 = .ok (.iconst 0, 1) := by decide +kernel
theorem d_JLat_indexOf_11 : decode bc_JLat_indexOf 11 = .ok (.invokestatic 92, 3) := by decide +kernel
theorem d_JLat_indexOf_14 : decode bc_JLat_indexOf 14 = .ok (.istore_n 2, 1) := by decide +kernel
theorem d_JLat_indexOf_15 : decode bc_JLat_indexOf 15 = .ok (.iload_n 3, 1) := by decide +kernel
theorem d_JLat_indexOf_16 : decode bc_JLat_indexOf 16 = .ok (.aload_n 0, 1) := by decide +kernel
theorem d_JLat_indexOf_17 : decode bc_JLat_indexOf 17 = .ok (.arraylength, 1) := by decide +kernel
theorem d_JLat_indexOf_18 : decode bc_JLat_indexOf 18 = .ok (.invokestatic 38, 3) := by decide +kernel
theorem d_JLat_indexOf_21 : decode bc_JLat_indexOf 21 = .ok (.istore_n 3, 1) := by decide +kernel
theorem d_JLat_indexOf_22 : decode bc_JLat_indexOf 22 = .ok (.iload_n 2, 1) := by decide +kernel
theorem d_JLat_indexOf_23 : decode bc_JLat_indexOf 23 = .ok (.iload_n 3, 1) := by decide +kernel
theorem d_JLat_indexOf_24 : decode bc_JLat_indexOf 24 = .ok (.if_icmp .lt 5, 3) := by decide +kernel
theorem d_JLat_indexOf_27 : decode bc_JLat_indexOf 27 = .ok (.iconst (-1), 1) := by decide +kernel
theorem d_JLat_indexOf_28 : decode bc_JLat_indexOf 28 = .ok (.ireturn, 1) := by decide +kernel
theorem d_JLat_indexOf_29 : decode bc_JLat_indexOf 29 = .ok (.aload_n 0, 1) := by decide +kernel
theorem d_JLat_indexOf_30 : decode bc_JLat_indexOf 30 = .ok (.iload_n 1, 1) := by decide +kernel
theorem d_JLat_indexOf_31 : decode bc_JLat_indexOf 31 = .ok (.iload_n 2, 1) := by decide +kernel
theorem d_JLat_indexOf_32 : decode bc_JLat_indexOf 32 = .ok (.iload_n 3, 1) := by decide +kernel
theorem d_JLat_indexOf_33 : decode bc_JLat_indexOf 33 = .ok (.invokestatic 95, 3) := by decide +kernel
theorem d_JLat_indexOf_36 : decode bc_JLat_indexOf 36 = .ok (.ireturn, 1) := by decide +kernel
set_option maxRecDepth 20000 in
theorem w_JLat_indexOf_b0 {X : CX} {V : WV} {si : Nat} (hV : IsK V) (hsi : si < 7) {S : Mem} {z : Int32} (hC : Ck X V bc_JLat_indexOf 4 "java/lang/StringLatin1" (some .int) 1 25) (x1 : Int32) (x2 : Int32) (x3 : Int32) (h : f_JLat_indexOf_b0 si x1 x2 x3 = some z) : G X V 4 (QI X V z S) 0 [some (.ref (V.2.1.2.2.2 si)), some (.int x1), some (.int x2), some (.int x3)] [] S := by
  unfold f_JLat_indexOf_b0 at h
  refine g_iload_n (pc := 0) hC (i := 1) (x := x1) rfl rfl d_JLat_indexOf_0 ?_
  obtain ⟨q1, hq1, h⟩ := Option.bind_eq_some_iff.mp h
  refine g_si (pc := 1) hC (As := [.int x1]) (st := []) mt_JLat_canEncode lk_JLat_88 (Nat.le_of_ble_eq_true rfl) ⟨Nat.le_of_ble_eq_true rfl, Nat.le_of_ble_eq_true rfl⟩ rfl d_JLat_indexOf_1 (c_JLat_canEncode (IsK.ok hV) hq1) ?_
  refine g_if_ne (pc := 4) hC (tgt := 9) (by decide) d_JLat_indexOf_4 h (fun h => ?_) (fun h => ?_)
  · refine g_iload_n (pc := 9) hC (i := 2) (x := x2) rfl rfl d_JLat_indexOf_9 ?_
    refine g_iconst (pc := 10) hC kc_0 d_JLat_indexOf_10 ?_
    refine g_mmax (pc := 11) hC lk_JLat_92 (Nat.le_of_ble_eq_true rfl) ⟨Nat.le_of_ble_eq_true rfl, Nat.le_of_ble_eq_true rfl⟩ d_JLat_indexOf_11 ?_
    refine g_leti h (fun y14 h => ?_)
    refine s_istore_n (pc := 14) hC (i := 2) rfl (by decide) d_JLat_indexOf_14 (lv2 := [some (.ref (V.2.1.2.2.2 si)), some (.int x1), some (.int y14), some (.int x3)]) rfl ?_
    refine g_iload_n (pc := 15) hC (i := 3) (x := x3) rfl rfl d_JLat_indexOf_15 ?_
    refine g_aload_n (pc := 16) hC (i := 0) (x := (V.2.1.2.2.2 si)) rfl rfl d_JLat_indexOf_16 ?_
    refine g_slen (pc := 17) hV.2 hC hsi d_JLat_indexOf_17 ?_
    refine g_mmin (pc := 18) hC lk_JLat_38 (Nat.le_of_ble_eq_true rfl) ⟨Nat.le_of_ble_eq_true rfl, Nat.le_of_ble_eq_true rfl⟩ d_JLat_indexOf_18 ?_
    refine g_leti h (fun y21 h => ?_)
    refine s_istore_n (pc := 21) hC (i := 3) rfl (by decide) d_JLat_indexOf_21 (lv2 := [some (.ref (V.2.1.2.2.2 si)), some (.int x1), some (.int y14), some (.int y21)]) rfl ?_
    refine g_iload_n (pc := 22) hC (i := 2) (x := y14) rfl rfl d_JLat_indexOf_22 ?_
    refine g_iload_n (pc := 23) hC (i := 3) (x := y21) rfl rfl d_JLat_indexOf_23 ?_
    refine g_icmp_lt (pc := 24) hC (tgt := 29) (by decide) d_JLat_indexOf_24 h (fun h => ?_) (fun h => ?_)
    · refine g_aload_n (pc := 29) hC (i := 0) (x := (V.2.1.2.2.2 si)) rfl rfl d_JLat_indexOf_29 ?_
      refine g_iload_n (pc := 30) hC (i := 1) (x := x1) rfl rfl d_JLat_indexOf_30 ?_
      refine g_iload_n (pc := 31) hC (i := 2) (x := y14) rfl rfl d_JLat_indexOf_31 ?_
      refine g_iload_n (pc := 32) hC (i := 3) (x := y21) rfl rfl d_JLat_indexOf_32 ?_
      obtain ⟨q33, hq33, h⟩ := Option.bind_eq_some_iff.mp h
      refine g_si (pc := 33) hC (As := [.ref (V.2.1.2.2.2 si), .int x1, .int y14, .int y21]) (st := []) mt_JLat_indexOfChar lk_JLat_95 (Nat.le_of_ble_eq_true rfl) ⟨Nat.le_of_ble_eq_true rfl, Nat.le_of_ble_eq_true rfl⟩ rfl d_JLat_indexOf_33 (c_JLat_indexOfChar hV hsi hq33) ?_
      exact g_iN (pc := 36) hC rfl d_JLat_indexOf_36 h
    · refine g_iconst (pc := 27) hC kc_m1 d_JLat_indexOf_27 ?_
      exact g_iN (pc := 28) hC rfl d_JLat_indexOf_28 h
  · refine g_iconst (pc := 7) hC kc_m1 d_JLat_indexOf_7 ?_
    exact g_iN (pc := 8) hC rfl d_JLat_indexOf_8 h
theorem c_JLat_indexOf {V : WV} {l : Launch} (hV : IsK V) {si : Nat} (hsi : si < 7) {x1 : Int32} {x2 : Int32} {x3 : Int32} {S : Mem} {z : Int32} (h : f_JLat_indexOf si x1 x2 x3 = some z) : CI V l y_JLat_indexOf bc_JLat_indexOf 4 (some .int) 1 25 [.ref (V.2.1.2.2.2 si), .int x1, .int x2, .int x3] S z S :=
  ct_i rfl (IsK.ok hV) (Nat.le_of_ble_eq_true rfl) (fun _ _ hC => w_JLat_indexOf_b0 hV hsi hC x1 x2 x3 h)
def f_JStr_indexOf2_b0 (si : Nat) (x1 : Int32) (x2 : Int32) : Option (Int32) :=
  Option.bind (f_JStr_isLatin1 si) (fun q1 =>
  if q1 = 0 then
    Option.bind (f_JStr_length si) (fun q30 =>
    none)
  else
    Option.bind (f_JStr_length si) (fun q14 =>
    Option.bind (f_JLat_indexOf si x1 x2 q14) (fun q17 =>
    some q17)))
def f_JStr_indexOf2 (si : Nat) (x1 : Int32) (x2 : Int32) : Option (Int32) := f_JStr_indexOf2_b0 si x1 x2
theorem d_JStr_indexOf2_0 : decode bc_JStr_indexOf2 0 = .ok (.aload_n 0, 1) := by decide +kernel
theorem d_JStr_indexOf2_1 : decode bc_JStr_indexOf2 1 = .ok (.invokevirtual 492, 3) := by decide +kernel
theorem d_JStr_indexOf2_4 : decode bc_JStr_indexOf2 4 = .ok (.ifCond .eq 19, 3) := by decide +kernel
theorem d_JStr_indexOf2_7 : decode bc_JStr_indexOf2 7 = .ok (.aload_n 0, 1) := by decide +kernel
theorem d_JStr_indexOf2_8 : decode bc_JStr_indexOf2 8 = .ok (.getfield 9, 3) := by decide +kernel
theorem d_JStr_indexOf2_11 : decode bc_JStr_indexOf2 11 = .ok (.iload_n 1, 1) := by decide +kernel
theorem d_JStr_indexOf2_12 : decode bc_JStr_indexOf2 12 = .ok (.iload_n 2, 1) := by decide +kernel
theorem d_JStr_indexOf2_13 : decode bc_JStr_indexOf2 13 = .ok (.aload_n 0, 1) := by decide +kernel
theorem d_JStr_indexOf2_14 : decode bc_JStr_indexOf2 14 = .ok (.invokevirtual 505, 3) := by decide +kernel
theorem d_JStr_indexOf2_17 : decode bc_JStr_indexOf2 17 = .ok (.invokestatic 637, 3) := by decide +kernel
theorem d_JStr_indexOf2_20 : decode bc_JStr_indexOf2 20 = .ok (.goto 16, 3) := by decide +kernel
theorem d_JStr_indexOf2_23 : decode bc_JStr_indexOf2 23 = .ok (.aload_n 0, 1) := by decide +kernel
theorem d_JStr_indexOf2_24 : decode bc_JStr_indexOf2 24 = .ok (.getfield 9, 3) := by decide +kernel
theorem d_JStr_indexOf2_27 : decode bc_JStr_indexOf2 27 = .ok (.iload_n 1, 1) := by decide +kernel
theorem d_JStr_indexOf2_28 : decode bc_JStr_indexOf2 28 = .ok (.iload_n 2, 1) := by decide +kernel
theorem d_JStr_indexOf2_29 : decode bc_JStr_indexOf2 29 = .ok (.aload_n 0, 1) := by decide +kernel
theorem d_JStr_indexOf2_30 : decode bc_JStr_indexOf2 30 = .ok (.invokevirtual 505, 3) := by decide +kernel
theorem d_JStr_indexOf2_33 : decode bc_JStr_indexOf2 33 = .ok (.invokestatic 640, 3) := by decide +kernel
theorem d_JStr_indexOf2_36 : decode bc_JStr_indexOf2 36 = .ok (.ireturn, 1) := by decide +kernel
set_option maxRecDepth 20000 in
theorem w_JStr_indexOf2_b0 {X : CX} {V : WV} {si : Nat} (hV : IsK V) (hsi : si < 7) {S : Mem} {z : Int32} (hC : Ck X V bc_JStr_indexOf2 3 "java/lang/String" (some .int) 2 48) (x1 : Int32) (x2 : Int32) (h : f_JStr_indexOf2_b0 si x1 x2 = some z) : G X V 3 (QI X V z S) 0 [some (.ref (V.2.1.2.2.1 si)), some (.int x1), some (.int x2)] [] S := by
  unfold f_JStr_indexOf2_b0 at h
  refine g_aload_n (pc := 0) hC (i := 0) (x := (V.2.1.2.2.1 si)) rfl rfl d_JStr_indexOf2_0 ?_
  obtain ⟨q1, hq1, h⟩ := Option.bind_eq_some_iff.mp h
  refine g_ki (pc := 1) hV.2 hC (As := []) (st := []) mt_JStr_isLatin1 lk_JStr_492 rfl hsi (Nat.le_of_ble_eq_true rfl) ⟨Nat.le_of_ble_eq_true rfl, Nat.le_of_ble_eq_true rfl⟩ rfl d_JStr_indexOf2_1 (c_JStr_isLatin1 hV hsi hq1) ?_
  refine g_if_eq (pc := 4) hC (tgt := 23) (by decide) d_JStr_indexOf2_4 h (fun h => ?_) (fun h => ?_)
  · refine g_aload_n (pc := 23) hC (i := 0) (x := (V.2.1.2.2.1 si)) rfl rfl d_JStr_indexOf2_23 ?_
    refine g_sval (pc := 24) hV.2 hC hsi fs_JStr_9 d_JStr_indexOf2_24 ?_
    refine g_iload_n (pc := 27) hC (i := 1) (x := x1) rfl rfl d_JStr_indexOf2_27 ?_
    refine g_iload_n (pc := 28) hC (i := 2) (x := x2) rfl rfl d_JStr_indexOf2_28 ?_
    refine g_aload_n (pc := 29) hC (i := 0) (x := (V.2.1.2.2.1 si)) rfl rfl d_JStr_indexOf2_29 ?_
    obtain ⟨q30, hq30, h⟩ := Option.bind_eq_some_iff.mp h
    refine g_ki (pc := 30) hV.2 hC (As := []) (st := [.int x2, .int x1, .ref (V.2.1.2.2.2 si)]) mt_JStr_length lk_JStr_505 rfl hsi (Nat.le_of_ble_eq_true rfl) ⟨Nat.le_of_ble_eq_true rfl, Nat.le_of_ble_eq_true rfl⟩ rfl d_JStr_indexOf2_30 (c_JStr_length hV hsi hq30) ?_
    cases h
  · refine g_aload_n (pc := 7) hC (i := 0) (x := (V.2.1.2.2.1 si)) rfl rfl d_JStr_indexOf2_7 ?_
    refine g_sval (pc := 8) hV.2 hC hsi fs_JStr_9 d_JStr_indexOf2_8 ?_
    refine g_iload_n (pc := 11) hC (i := 1) (x := x1) rfl rfl d_JStr_indexOf2_11 ?_
    refine g_iload_n (pc := 12) hC (i := 2) (x := x2) rfl rfl d_JStr_indexOf2_12 ?_
    refine g_aload_n (pc := 13) hC (i := 0) (x := (V.2.1.2.2.1 si)) rfl rfl d_JStr_indexOf2_13 ?_
    obtain ⟨q14, hq14, h⟩ := Option.bind_eq_some_iff.mp h
    refine g_ki (pc := 14) hV.2 hC (As := []) (st := [.int x2, .int x1, .ref (V.2.1.2.2.2 si)]) mt_JStr_length lk_JStr_505 rfl hsi (Nat.le_of_ble_eq_true rfl) ⟨Nat.le_of_ble_eq_true rfl, Nat.le_of_ble_eq_true rfl⟩ rfl d_JStr_indexOf2_14 (c_JStr_length hV hsi hq14) ?_
    obtain ⟨q17, hq17, h⟩ := Option.bind_eq_some_iff.mp h
    refine g_si (pc := 17) hC (As := [.ref (V.2.1.2.2.2 si), .int x1, .int x2, .int q14]) (st := []) mt_JLat_indexOf lk_JStr_637 (Nat.le_of_ble_eq_true rfl) ⟨Nat.le_of_ble_eq_true rfl, Nat.le_of_ble_eq_true rfl⟩ rfl d_JStr_indexOf2_17 (c_JLat_indexOf hV hsi hq17) ?_
    refine g_goto (pc := 20) hC (tgt := 36) (by decide) d_JStr_indexOf2_20 ?_
    exact g_iN (pc := 36) hC rfl d_JStr_indexOf2_36 h
theorem c_JStr_indexOf2 {V : WV} {l : Launch} (hV : IsK V) {si : Nat} (hsi : si < 7) {x1 : Int32} {x2 : Int32} {S : Mem} {z : Int32} (h : f_JStr_indexOf2 si x1 x2 = some z) : CI V l y_JStr_indexOf2 bc_JStr_indexOf2 3 (some .int) 2 48 [.ref (V.2.1.2.2.1 si), .int x1, .int x2] S z S :=
  ct_i rfl (IsK.ok hV) (Nat.le_of_ble_eq_true rfl) (fun _ _ hC => w_JStr_indexOf2_b0 hV hsi hC x1 x2 h)
def f_JStr_indexOf_b0 (si : Nat) (x1 : Int32) : Option (Int32) :=
  Option.bind (f_JStr_indexOf2 si x1 0) (fun q3 =>
  some q3)
def f_JStr_indexOf (si : Nat) (x1 : Int32) : Option (Int32) := f_JStr_indexOf_b0 si x1
theorem d_JStr_indexOf_0 : decode bc_JStr_indexOf 0 = .ok (.aload_n 0, 1) := by decide +kernel
theorem d_JStr_indexOf_1 : decode bc_JStr_indexOf 1 = .ok (.iload_n 1, 1) := by decide +kernel
theorem d_JStr_indexOf_2 : decode bc_JStr_indexOf 2 = .ok (.iconst 0, 1) := by decide +kernel
theorem d_JStr_indexOf_3 : decode bc_JStr_indexOf 3 = .ok (.invokevirtual 633, 3) := by decide +kernel
theorem d_JStr_indexOf_6 : decode bc_JStr_indexOf 6 = .ok (.ireturn, 1) := by decide +kernel
set_option maxRecDepth 20000 in
theorem w_JStr_indexOf_b0 {X : CX} {V : WV} {si : Nat} (hV : IsK V) (hsi : si < 7) {S : Mem} {z : Int32} (hC : Ck X V bc_JStr_indexOf 2 "java/lang/String" (some .int) 3 70) (x1 : Int32) (h : f_JStr_indexOf_b0 si x1 = some z) : G X V 2 (QI X V z S) 0 [some (.ref (V.2.1.2.2.1 si)), some (.int x1)] [] S := by
  unfold f_JStr_indexOf_b0 at h
  refine g_aload_n (pc := 0) hC (i := 0) (x := (V.2.1.2.2.1 si)) rfl rfl d_JStr_indexOf_0 ?_
  refine g_iload_n (pc := 1) hC (i := 1) (x := x1) rfl rfl d_JStr_indexOf_1 ?_
  refine g_iconst (pc := 2) hC kc_0 d_JStr_indexOf_2 ?_
  obtain ⟨q3, hq3, h⟩ := Option.bind_eq_some_iff.mp h
  refine g_ki (pc := 3) hV.2 hC (As := [.int x1, .int 0]) (st := []) mt_JStr_indexOf2 lk_JStr_633 rfl hsi (Nat.le_of_ble_eq_true rfl) ⟨Nat.le_of_ble_eq_true rfl, Nat.le_of_ble_eq_true rfl⟩ rfl d_JStr_indexOf_3 (c_JStr_indexOf2 hV hsi hq3) ?_
  exact g_iN (pc := 6) hC rfl d_JStr_indexOf_6 h
theorem c_JStr_indexOf {V : WV} {l : Launch} (hV : IsK V) {si : Nat} (hsi : si < 7) {x1 : Int32} {S : Mem} {z : Int32} (h : f_JStr_indexOf si x1 = some z) : CI V l y_JStr_indexOf bc_JStr_indexOf 2 (some .int) 3 70 [.ref (V.2.1.2.2.1 si), .int x1] S z S :=
  ct_i rfl (IsK.ok hV) (Nat.le_of_ble_eq_true rfl) (fun _ _ hC => w_JStr_indexOf_b0 hV hsi hC x1 h)
def f_JInt_numberOfTrailingZeros_b74 (x0 : Int32) (x1 : Int32) : Option (Int32) :=
  some (x1 + (jUshr x0 1))
def f_JInt_numberOfTrailingZeros_b62 (x0 : Int32) (x1 : Int32) : Option (Int32) :=
  if x0 ≤ 4 then
    f_JInt_numberOfTrailingZeros_b74 x0 x1
  else
    letS (jUshr x0 2) (fun y73 =>
    f_JInt_numberOfTrailingZeros_b74 y73 (x1 + 2))
def f_JInt_numberOfTrailingZeros_b49 (x0 : Int32) (x1 : Int32) : Option (Int32) :=
  if x0 ≤ 16 then
    f_JInt_numberOfTrailingZeros_b62 x0 x1
  else
    letS (jUshr x0 4) (fun y61 =>
    f_JInt_numberOfTrailingZeros_b62 y61 (x1 + 4))
def f_JInt_numberOfTrailingZeros_b34 (x0 : Int32) (x1 : Int32) : Option (Int32) :=
  if x0 ≤ 256 then
    f_JInt_numberOfTrailingZeros_b49 x0 x1
  else
    letS (jUshr x0 8) (fun y48 =>
    f_JInt_numberOfTrailingZeros_b49 y48 (x1 + 8))
def f_JInt_numberOfTrailingZeros_b0 (x0 : Int32) : Option (Int32) :=
  letS ((x0 ^^^ (-1)) &&& (x0 - 1)) (fun y7 =>
  if 0 < y7 then
    if y7 ≤ 65536 then
      f_JInt_numberOfTrailingZeros_b34 y7 1
    else
      letS (jUshr y7 16) (fun y33 =>
      f_JInt_numberOfTrailingZeros_b34 y33 (1 + 16))
  else
    some (y7 &&& 32))
def f_JInt_numberOfTrailingZeros (x0 : Int32) : Option (Int32) := f_JInt_numberOfTrailingZeros_b0  x0
theorem d_JInt_numberOfTrailingZeros_0 : decode bc_JInt_numberOfTrailingZeros 0 = .ok (.iload_n 0, 1) := by decide +kernel
theorem d_JInt_numberOfTrailingZeros_1 : decode bc_JInt_numberOfTrailingZeros 1 = .ok (.iconst (-1), 1) := by decide +kernel
theorem d_JInt_numberOfTrailingZeros_2 : decode bc_JInt_numberOfTrailingZeros 2 = .ok (.ixor, 1) := by decide +kernel
theorem d_JInt_numberOfTrailingZeros_3 : decode bc_JInt_numberOfTrailingZeros 3 = .ok (.iload_n 0, 1) := by decide +kernel
theorem d_JInt_numberOfTrailingZeros_4 : decode bc_JInt_numberOfTrailingZeros 4 = .ok (.iconst 1, 1) := by decide +kernel
theorem d_JInt_numberOfTrailingZeros_5 : decode bc_JInt_numberOfTrailingZeros 5 = .ok (.isub, 1) := by decide +kernel
theorem d_JInt_numberOfTrailingZeros_6 : decode bc_JInt_numberOfTrailingZeros 6 = .ok (.iand, 1) := by decide +kernel
theorem d_JInt_numberOfTrailingZeros_7 : decode bc_JInt_numberOfTrailingZeros 7 = .ok (.istore_n 0, 1) := by decide +kernel
theorem d_JInt_numberOfTrailingZeros_8 : decode bc_JInt_numberOfTrailingZeros 8 = .ok (.iload_n 0, 1) := by decide +kernel
theorem d_JInt_numberOfTrailingZeros_9 : decode bc_JInt_numberOfTrailingZeros 9 = .ok (.ifCond .gt 8, 3) := by decide +kernel
theorem d_JInt_numberOfTrailingZeros_12 : decode bc_JInt_numberOfTrailingZeros 12 = .ok (.iload_n 0, 1) := by decide +kernel
theorem d_JInt_numberOfTrailingZeros_13 : decode bc_JInt_numberOfTrailingZeros 13 = .ok (.bipush 32, 2) := by decide +kernel
theorem d_JInt_numberOfTrailingZeros_15 : decode bc_JInt_numberOfTrailingZeros 15 = .ok (.iand, 1) := by decide +kernel
theorem d_JInt_numberOfTrailingZeros_16 : decode bc_JInt_numberOfTrailingZeros 16 = .ok (.ireturn, 1) := by decide +kernel
theorem d_JInt_numberOfTrailingZeros_17 : decode bc_JInt_numberOfTrailingZeros 17 = .ok (.iconst 1, 1) := by decide +kernel
theorem d_JInt_numberOfTrailingZeros_18 : decode bc_JInt_numberOfTrailingZeros 18 = .ok (.istore_n 1, 1) := by decide +kernel
theorem d_JInt_numberOfTrailingZeros_19 : decode bc_JInt_numberOfTrailingZeros 19 = .ok (.iload_n 0, 1) := by decide +kernel
theorem d_JInt_numberOfTrailingZeros_20 : decode bc_JInt_numberOfTrailingZeros 20 = .ok (.ldc_w 264, 3) := by decide +kernel
theorem d_JInt_numberOfTrailingZeros_23 : decode bc_JInt_numberOfTrailingZeros 23 = .ok (.if_icmp .le 11, 3) := by decide +kernel
theorem d_JInt_numberOfTrailingZeros_26 : decode bc_JInt_numberOfTrailingZeros 26 = .ok (.iinc 1 16, 3) := by decide +kernel
theorem d_JInt_numberOfTrailingZeros_29 : decode bc_JInt_numberOfTrailingZeros 29 = .ok (.iload_n 0, 1) := by decide +kernel
theorem d_JInt_numberOfTrailingZeros_30 : decode bc_JInt_numberOfTrailingZeros 30 = .ok (.bipush 16, 2) := by decide +kernel
theorem d_JInt_numberOfTrailingZeros_32 : decode bc_JInt_numberOfTrailingZeros 32 = .ok (.iushr, 1) := by decide +kernel
theorem d_JInt_numberOfTrailingZeros_33 : decode bc_JInt_numberOfTrailingZeros 33 = .ok (.istore_n 0, 1) := by decide +kernel
theorem d_JInt_numberOfTrailingZeros_34 : decode bc_JInt_numberOfTrailingZeros 34 = .ok (.iload_n 0, 1) := by decide +kernel
theorem d_JInt_numberOfTrailingZeros_35 : decode bc_JInt_numberOfTrailingZeros 35 = .ok (.sipush 256, 3) := by decide +kernel
theorem d_JInt_numberOfTrailingZeros_38 : decode bc_JInt_numberOfTrailingZeros 38 = .ok (.if_icmp .le 11, 3) := by decide +kernel
theorem d_JInt_numberOfTrailingZeros_41 : decode bc_JInt_numberOfTrailingZeros 41 = .ok (.iinc 1 8, 3) := by decide +kernel
theorem d_JInt_numberOfTrailingZeros_44 : decode bc_JInt_numberOfTrailingZeros 44 = .ok (.iload_n 0, 1) := by decide +kernel
theorem d_JInt_numberOfTrailingZeros_45 : decode bc_JInt_numberOfTrailingZeros 45 = .ok (.bipush 8, 2) := by decide +kernel
theorem d_JInt_numberOfTrailingZeros_47 : decode bc_JInt_numberOfTrailingZeros 47 = .ok (.iushr, 1) := by decide +kernel
theorem d_JInt_numberOfTrailingZeros_48 : decode bc_JInt_numberOfTrailingZeros 48 = .ok (.istore_n 0, 1) := by decide +kernel
theorem d_JInt_numberOfTrailingZeros_49 : decode bc_JInt_numberOfTrailingZeros 49 = .ok (.iload_n 0, 1) := by decide +kernel
theorem d_JInt_numberOfTrailingZeros_50 : decode bc_JInt_numberOfTrailingZeros 50 = .ok (.bipush 16, 2) := by decide +kernel
theorem d_JInt_numberOfTrailingZeros_52 : decode bc_JInt_numberOfTrailingZeros 52 = .ok (.if_icmp .le 10, 3) := by decide +kernel
theorem d_JInt_numberOfTrailingZeros_55 : decode bc_JInt_numberOfTrailingZeros 55 = .ok (.iinc 1 4, 3) := by decide +kernel
theorem d_JInt_numberOfTrailingZeros_58 : decode bc_JInt_numberOfTrailingZeros 58 = .ok (.iload_n 0, 1) := by decide +kernel
theorem d_JInt_numberOfTrailingZeros_59 : decode bc_JInt_numberOfTrailingZeros 59 = .ok (.iconst 4, 1) := by decide +kernel
theorem d_JInt_numberOfTrailingZeros_60 : decode bc_JInt_numberOfTrailingZeros 60 = .ok (.iushr, 1) := by decide +kernel
theorem d_JInt_numberOfTrailingZeros_61 : decode bc_JInt_numberOfTrailingZeros 61 = .ok (.istore_n 0, 1) := by decide +kernel
theorem d_JInt_numberOfTrailingZeros_62 : decode bc_JInt_numberOfTrailingZeros 62 = .ok (.iload_n 0, 1) := by decide +kernel
theorem d_JInt_numberOfTrailingZeros_63 : decode bc_JInt_numberOfTrailingZeros 63 = .ok (.iconst 4, 1) := by decide +kernel
theorem d_JInt_numberOfTrailingZeros_64 : decode bc_JInt_numberOfTrailingZeros 64 = .ok (.if_icmp .le 10, 3) := by decide +kernel
theorem d_JInt_numberOfTrailingZeros_67 : decode bc_JInt_numberOfTrailingZeros 67 = .ok (.iinc 1 2, 3) := by decide +kernel
theorem d_JInt_numberOfTrailingZeros_70 : decode bc_JInt_numberOfTrailingZeros 70 = .ok (.iload_n 0, 1) := by decide +kernel
theorem d_JInt_numberOfTrailingZeros_71 : decode bc_JInt_numberOfTrailingZeros 71 = .ok (.iconst 2, 1) := by decide +kernel
theorem d_JInt_numberOfTrailingZeros_72 : decode bc_JInt_numberOfTrailingZeros 72 = .ok (.iushr, 1) := by decide +kernel
theorem d_JInt_numberOfTrailingZeros_73 : decode bc_JInt_numberOfTrailingZeros 73 = .ok (.istore_n 0, 1) := by decide +kernel
theorem d_JInt_numberOfTrailingZeros_74 : decode bc_JInt_numberOfTrailingZeros 74 = .ok (.iload_n 1, 1) := by decide +kernel
theorem d_JInt_numberOfTrailingZeros_75 : decode bc_JInt_numberOfTrailingZeros 75 = .ok (.iload_n 0, 1) := by decide +kernel
theorem d_JInt_numberOfTrailingZeros_76 : decode bc_JInt_numberOfTrailingZeros 76 = .ok (.iconst 1, 1) := by decide +kernel
theorem d_JInt_numberOfTrailingZeros_77 : decode bc_JInt_numberOfTrailingZeros 77 = .ok (.iushr, 1) := by decide +kernel
theorem d_JInt_numberOfTrailingZeros_78 : decode bc_JInt_numberOfTrailingZeros 78 = .ok (.iadd, 1) := by decide +kernel
theorem d_JInt_numberOfTrailingZeros_79 : decode bc_JInt_numberOfTrailingZeros 79 = .ok (.ireturn, 1) := by decide +kernel
set_option maxRecDepth 20000 in
theorem w_JInt_numberOfTrailingZeros_b74 {X : CX} {V : WV} (hVO : VOk V) {S : Mem} {z : Int32} (hC : Ck X V bc_JInt_numberOfTrailingZeros 2 "java/lang/Integer" (some .int) 0 0) (x0 : Int32) (x1 : Int32) (h : f_JInt_numberOfTrailingZeros_b74  x0 x1 = some z) : G X V 2 (QI X V z S) 74 [some (.int x0), some (.int x1)] [] S := by
  unfold f_JInt_numberOfTrailingZeros_b74 at h
  refine g_iload_n (pc := 74) hC (i := 1) (x := x1) rfl rfl d_JInt_numberOfTrailingZeros_74 ?_
  refine g_iload_n (pc := 75) hC (i := 0) (x := x0) rfl rfl d_JInt_numberOfTrailingZeros_75 ?_
  refine g_iconst (pc := 76) hC kc_1 d_JInt_numberOfTrailingZeros_76 ?_
  refine g_iushr (pc := 77) hC d_JInt_numberOfTrailingZeros_77 ?_
  refine g_iadd (pc := 78) hC d_JInt_numberOfTrailingZeros_78 ?_
  exact g_iN (pc := 79) hC rfl d_JInt_numberOfTrailingZeros_79 h
set_option maxRecDepth 20000 in
theorem w_JInt_numberOfTrailingZeros_b62 {X : CX} {V : WV} (hVO : VOk V) {S : Mem} {z : Int32} (hC : Ck X V bc_JInt_numberOfTrailingZeros 2 "java/lang/Integer" (some .int) 0 0) (x0 : Int32) (x1 : Int32) (h : f_JInt_numberOfTrailingZeros_b62  x0 x1 = some z) : G X V 2 (QI X V z S) 62 [some (.int x0), some (.int x1)] [] S := by
  unfold f_JInt_numberOfTrailingZeros_b62 at h
  refine g_iload_n (pc := 62) hC (i := 0) (x := x0) rfl rfl d_JInt_numberOfTrailingZeros_62 ?_
  refine g_iconst (pc := 63) hC kc_4 d_JInt_numberOfTrailingZeros_63 ?_
  refine g_icmp_le (pc := 64) hC (tgt := 74) (by decide) d_JInt_numberOfTrailingZeros_64 h (fun h => ?_) (fun h => ?_)
  · exact w_JInt_numberOfTrailingZeros_b74 hVO hC x0 x1 h
  · refine s_iinc (pc := 67) hC (i := 1) (x := x1) (v := x1 + 2) rfl (by rw [kc_2]) (by decide) d_JInt_numberOfTrailingZeros_67 (lv2 := [some (.int x0), some (.int (x1 + 2))]) rfl ?_
    refine g_iload_n (pc := 70) hC (i := 0) (x := x0) rfl rfl d_JInt_numberOfTrailingZeros_70 ?_
    refine g_iconst (pc := 71) hC kc_2 d_JInt_numberOfTrailingZeros_71 ?_
    refine g_iushr (pc := 72) hC d_JInt_numberOfTrailingZeros_72 ?_
    refine g_leti h (fun y73 h => ?_)
    refine s_istore_n (pc := 73) hC (i := 0) rfl (by decide) d_JInt_numberOfTrailingZeros_73 (lv2 := [some (.int y73), some (.int (x1 + 2))]) rfl ?_
    exact w_JInt_numberOfTrailingZeros_b74 hVO hC y73 (x1 + 2) h
set_option maxRecDepth 20000 in
theorem w_JInt_numberOfTrailingZeros_b49 {X : CX} {V : WV} (hVO : VOk V) {S : Mem} {z : Int32} (hC : Ck X V bc_JInt_numberOfTrailingZeros 2 "java/lang/Integer" (some .int) 0 0) (x0 : Int32) (x1 : Int32) (h : f_JInt_numberOfTrailingZeros_b49  x0 x1 = some z) : G X V 2 (QI X V z S) 49 [some (.int x0), some (.int x1)] [] S := by
  unfold f_JInt_numberOfTrailingZeros_b49 at h
  refine g_iload_n (pc := 49) hC (i := 0) (x := x0) rfl rfl d_JInt_numberOfTrailingZeros_49 ?_
  refine g_bipush (pc := 50) hC kb_16 d_JInt_numberOfTrailingZeros_50 ?_
  refine g_icmp_le (pc := 52) hC (tgt := 62) (by decide) d_JInt_numberOfTrailingZeros_52 h (fun h => ?_) (fun h => ?_)
  · exact w_JInt_numberOfTrailingZeros_b62 hVO hC x0 x1 h
  · refine s_iinc (pc := 55) hC (i := 1) (x := x1) (v := x1 + 4) rfl (by rw [kc_4]) (by decide) d_JInt_numberOfTrailingZeros_55 (lv2 := [some (.int x0), some (.int (x1 + 4))]) rfl ?_
    refine g_iload_n (pc := 58) hC (i := 0) (x := x0) rfl rfl d_JInt_numberOfTrailingZeros_58 ?_
    refine g_iconst (pc := 59) hC kc_4 d_JInt_numberOfTrailingZeros_59 ?_
    refine g_iushr (pc := 60) hC d_JInt_numberOfTrailingZeros_60 ?_
    refine g_leti h (fun y61 h => ?_)
    refine s_istore_n (pc := 61) hC (i := 0) rfl (by decide) d_JInt_numberOfTrailingZeros_61 (lv2 := [some (.int y61), some (.int (x1 + 4))]) rfl ?_
    exact w_JInt_numberOfTrailingZeros_b62 hVO hC y61 (x1 + 4) h
set_option maxRecDepth 20000 in
theorem w_JInt_numberOfTrailingZeros_b34 {X : CX} {V : WV} (hVO : VOk V) {S : Mem} {z : Int32} (hC : Ck X V bc_JInt_numberOfTrailingZeros 2 "java/lang/Integer" (some .int) 0 0) (x0 : Int32) (x1 : Int32) (h : f_JInt_numberOfTrailingZeros_b34  x0 x1 = some z) : G X V 2 (QI X V z S) 34 [some (.int x0), some (.int x1)] [] S := by
  unfold f_JInt_numberOfTrailingZeros_b34 at h
  refine g_iload_n (pc := 34) hC (i := 0) (x := x0) rfl rfl d_JInt_numberOfTrailingZeros_34 ?_
  refine g_sipush (pc := 35) hC ks_256 d_JInt_numberOfTrailingZeros_35 ?_
  refine g_icmp_le (pc := 38) hC (tgt := 49) (by decide) d_JInt_numberOfTrailingZeros_38 h (fun h => ?_) (fun h => ?_)
  · exact w_JInt_numberOfTrailingZeros_b49 hVO hC x0 x1 h
  · refine s_iinc (pc := 41) hC (i := 1) (x := x1) (v := x1 + 8) rfl (by rw [kc_8]) (by decide) d_JInt_numberOfTrailingZeros_41 (lv2 := [some (.int x0), some (.int (x1 + 8))]) rfl ?_
    refine g_iload_n (pc := 44) hC (i := 0) (x := x0) rfl rfl d_JInt_numberOfTrailingZeros_44 ?_
    refine g_bipush (pc := 45) hC kb_8 d_JInt_numberOfTrailingZeros_45 ?_
    refine g_iushr (pc := 47) hC d_JInt_numberOfTrailingZeros_47 ?_
    refine g_leti h (fun y48 h => ?_)
    refine s_istore_n (pc := 48) hC (i := 0) rfl (by decide) d_JInt_numberOfTrailingZeros_48 (lv2 := [some (.int y48), some (.int (x1 + 8))]) rfl ?_
    exact w_JInt_numberOfTrailingZeros_b49 hVO hC y48 (x1 + 8) h
set_option maxRecDepth 20000 in
theorem w_JInt_numberOfTrailingZeros_b0 {X : CX} {V : WV} (hVO : VOk V) {S : Mem} {z : Int32} (hC : Ck X V bc_JInt_numberOfTrailingZeros 2 "java/lang/Integer" (some .int) 0 0) (x0 : Int32) (h : f_JInt_numberOfTrailingZeros_b0  x0 = some z) : G X V 2 (QI X V z S) 0 [some (.int x0), none] [] S := by
  unfold f_JInt_numberOfTrailingZeros_b0 at h
  refine g_iload_n (pc := 0) hC (i := 0) (x := x0) rfl rfl d_JInt_numberOfTrailingZeros_0 ?_
  refine g_iconst (pc := 1) hC kc_m1 d_JInt_numberOfTrailingZeros_1 ?_
  refine g_ixor (pc := 2) hC d_JInt_numberOfTrailingZeros_2 ?_
  refine g_iload_n (pc := 3) hC (i := 0) (x := x0) rfl rfl d_JInt_numberOfTrailingZeros_3 ?_
  refine g_iconst (pc := 4) hC kc_1 d_JInt_numberOfTrailingZeros_4 ?_
  refine g_isub (pc := 5) hC d_JInt_numberOfTrailingZeros_5 ?_
  refine g_iand (pc := 6) hC d_JInt_numberOfTrailingZeros_6 ?_
  refine g_leti h (fun y7 h => ?_)
  refine s_istore_n (pc := 7) hC (i := 0) rfl (by decide) d_JInt_numberOfTrailingZeros_7 (lv2 := [some (.int y7), none]) rfl ?_
  refine g_iload_n (pc := 8) hC (i := 0) (x := y7) rfl rfl d_JInt_numberOfTrailingZeros_8 ?_
  refine g_if_gt (pc := 9) hC (tgt := 17) (by decide) d_JInt_numberOfTrailingZeros_9 h (fun h => ?_) (fun h => ?_)
  · refine g_iconst (pc := 17) hC kc_1 d_JInt_numberOfTrailingZeros_17 ?_
    refine s_istore_n (pc := 18) hC (i := 1) rfl (by decide) d_JInt_numberOfTrailingZeros_18 (lv2 := [some (.int y7), some (.int 1)]) rfl ?_
    refine g_iload_n (pc := 19) hC (i := 0) (x := y7) rfl rfl d_JInt_numberOfTrailingZeros_19 ?_
    refine g_ldcw (pc := 20) hC q_JInt_k264 d_JInt_numberOfTrailingZeros_20 ?_
    refine g_icmp_le (pc := 23) hC (tgt := 34) (by decide) d_JInt_numberOfTrailingZeros_23 h (fun h => ?_) (fun h => ?_)
    · exact w_JInt_numberOfTrailingZeros_b34 hVO hC y7 1 h
    · refine s_iinc (pc := 26) hC (i := 1) (x := 1) (v := 1 + 16) rfl (by rw [kc_16]) (by decide) d_JInt_numberOfTrailingZeros_26 (lv2 := [some (.int y7), some (.int (1 + 16))]) rfl ?_
      refine g_iload_n (pc := 29) hC (i := 0) (x := y7) rfl rfl d_JInt_numberOfTrailingZeros_29 ?_
      refine g_bipush (pc := 30) hC kb_16 d_JInt_numberOfTrailingZeros_30 ?_
      refine g_iushr (pc := 32) hC d_JInt_numberOfTrailingZeros_32 ?_
      refine g_leti h (fun y33 h => ?_)
      refine s_istore_n (pc := 33) hC (i := 0) rfl (by decide) d_JInt_numberOfTrailingZeros_33 (lv2 := [some (.int y33), some (.int (1 + 16))]) rfl ?_
      exact w_JInt_numberOfTrailingZeros_b34 hVO hC y33 (1 + 16) h
  · refine g_iload_n (pc := 12) hC (i := 0) (x := y7) rfl rfl d_JInt_numberOfTrailingZeros_12 ?_
    refine g_bipush (pc := 13) hC kb_32 d_JInt_numberOfTrailingZeros_13 ?_
    refine g_iand (pc := 15) hC d_JInt_numberOfTrailingZeros_15 ?_
    exact g_iN (pc := 16) hC rfl d_JInt_numberOfTrailingZeros_16 h
theorem c_JInt_numberOfTrailingZeros {V : WV} {l : Launch} (hVO : VOk V) {x0 : Int32} {S : Mem} {z : Int32} (h : f_JInt_numberOfTrailingZeros x0 = some z) : CI V l y_JInt_numberOfTrailingZeros bc_JInt_numberOfTrailingZeros 2 (some .int) 0 0 [.int x0] S z S :=
  ct_i rfl hVO (Nat.le_of_ble_eq_true rfl) (fun _ _ hC => w_JInt_numberOfTrailingZeros_b0 hVO hC x0 h)
