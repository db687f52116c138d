/-! methods of the bytecode as functions, and the machine's walks of them. By program (wip/whole/gen/make.py): Mo_hasOf, Mo_isResting, Mo_quiet, Mo_areMany, Mo_goesBy, Mo_odds, Mo_deaths, Mo_worth, Mo_note, Mo_forget, Mo_deeperTold, Mo_isSo, Mo_truth, Mo_sure, Mo_next, Mo_hold, Mo_restore, Mo_count -/
def f_Mo_hasOf_b131 (S : Mem) (x1 : Int32) (x3 : Int32) (s0 : Int32) : Option (Int32) :=
  if ((x3 >>> (x1 &&& 31)) &&& 1) = 1 then
    Option.bind (f_Mo_bits ((S.1 0 67) &&& (x3 ^^^ (-1)))) (fun q153 =>
    some (s0 - (5 * q153)))
  else
    some s0
def f_Mo_hasOf_b67 (S : Mem) (k67 : Int32 → Int32 → Int32 → Int32 → Int32 → Int32 → Option (Int32)) (x1 : Int32) (x3 : Int32) (x4 : Int32) (x5 : Int32) (x6 : Int32) (x7 : Int32) : Option (Int32) :=
  gIn (S.1 0 18) 2 (
  if (S.2.1 0 30 (S.1 0 18).toNatClampNeg) ≤ x7 then
    if ((x4 >>> (x1 &&& 31)) &&& 1) = 1 then
      Option.bind (f_Mo_bits x4) (fun q123 =>
      gNz q123 (
      f_Mo_hasOf_b131 S x1 x3 (x6 / q123)))
    else
      f_Mo_hasOf_b131 S x1 x3 0
  else
    if ((x5 >>> (x7 &&& 31)) &&& 1) = 1 then
      Option.bind (f_Mo_weightNow x7 S) (fun q97 =>
      letS (x6 + q97) (fun y101 =>
      k67 x1 x3 x4 x5 y101 (x7 + 1)))
    else
      k67 x1 x3 x4 x5 x6 (x7 + 1))
def f_Mo_hasOf_l67 (S : Mem) : Nat → Int32 → Int32 → Int32 → Int32 → Int32 → Int32 → Option (Int32)
  | 0 => fun _ _ _ _ _ _ => none
  | n + 1 => f_Mo_hasOf_b67 S (f_Mo_hasOf_l67 S n)
def f_Mo_hasOf_b13 (S : Mem) (k13 : Int32 → Int32 → Int32 → Int32 → Int32 → Int32 → Option (Int32)) (x1 : Int32) (x2 : Int32) (x3 : Int32) (x4 : Int32) (x5 : Int32) (x6 : Int32) : Option (Int32) :=
  gIn (S.1 0 18) 2 (
  if (S.2.1 0 27 (S.1 0 18).toNatClampNeg) ≤ x6 then
    Option.bind (f_Mo_deepOf x2 S) (fun q59 =>
    f_Mo_hasOf_l67 S 5000 x1 x3 x4 x5 q59 0)
  else
    if ((x3 >>> (x6 &&& 31)) &&& 1) = 1 then
      gIn x6 7 (
      letS (x5 ||| ((1 : Int32) <<< ((S.2.1 0 66 x6.toNatClampNeg) &&& 31))) (fun y49 =>
      k13 x1 x2 x3 x4 y49 (x6 + 1)))
    else
      k13 x1 x2 x3 x4 x5 (x6 + 1))
def f_Mo_hasOf_l13 (S : Mem) : Nat → Int32 → Int32 → Int32 → Int32 → Int32 → Int32 → Option (Int32)
  | 0 => fun _ _ _ _ _ _ => none
  | n + 1 => f_Mo_hasOf_b13 S (f_Mo_hasOf_l13 S n)
def f_Mo_hasOf_b0 (S : Mem) (x1 : Int32) (x2 : Int32) (x3 : Int32) : Option (Int32) :=
  Option.bind (f_Mo_drinkersOf x2 S) (fun q2 =>
  f_Mo_hasOf_l13 S 5000 x1 x2 x3 q2 0 0)
def f_Mo_hasOf (x1 : Int32) (x2 : Int32) (x3 : Int32) (S : Mem) : Option (Int32) := f_Mo_hasOf_b0 S x1 x2 x3
theorem d_Mo_hasOf_0 : decode bc_Mo_hasOf 0 = .ok (.aload_n 0, 1) := by decide +kernel
theorem d_Mo_hasOf_1 : decode bc_Mo_hasOf 1 = .ok (.iload_n 2, 1) := by decide +kernel
theorem d_Mo_hasOf_2 : decode bc_Mo_hasOf 2 = .ok (.invokevirtual 380, 3) := by decide +kernel
theorem d_Mo_hasOf_5 : decode bc_Mo_hasOf 5 = .ok (.istore 4, 2) := by decide +kernel
theorem d_Mo_hasOf_7 : decode bc_Mo_hasOf 7 = .ok (.iconst 0, 1) := by decide +kernel
theorem d_Mo_hasOf_8 : decode bc_Mo_hasOf 8 = .ok (.istore 5, 2) := by decide +kernel
theorem d_Mo_hasOf_10 : decode bc_Mo_hasOf 10 = .ok (.iconst 0, 1) := by decide +kernel
theorem d_Mo_hasOf_11 : decode bc_Mo_hasOf 11 = .ok (.istore 6, 2) := by decide +kernel
theorem d_Mo_hasOf_13 : decode bc_Mo_hasOf 13 = .ok (.iload 6, 2) := by decide +kernel
theorem d_Mo_hasOf_15 : decode bc_Mo_hasOf 15 = .ok (.aload_n 0, 1) := by decide +kernel
theorem d_Mo_hasOf_16 : decode bc_Mo_hasOf 16 = .ok (.getfield 58, 3) := by decide +kernel
theorem d_Mo_hasOf_19 : decode bc_Mo_hasOf 19 = .ok (.aload_n 0, 1) := by decide +kernel
theorem d_Mo_hasOf_20 : decode bc_Mo_hasOf 20 = .ok (.getfield 245, 3) := by decide +kernel
theorem d_Mo_hasOf_23 : decode bc_Mo_hasOf 23 = .ok (.iaload, 1) := by decide +kernel
theorem d_Mo_hasOf_24 : decode bc_Mo_hasOf 24 = .ok (.if_icmp .ge 33, 3) := by decide +kernel
theorem d_Mo_hasOf_27 : decode bc_Mo_hasOf 27 = .ok (.iload_n 3, 1) := by decide +kernel
theorem d_Mo_hasOf_28 : decode bc_Mo_hasOf 28 = .ok (.iload 6, 2) := by decide +kernel
theorem d_Mo_hasOf_30 : decode bc_Mo_hasOf 30 = .ok (.ishr, 1) := by decide +kernel
theorem d_Mo_hasOf_31 : decode bc_Mo_hasOf 31 = .ok (.iconst 1, 1) := by decide +kernel
theorem d_Mo_hasOf_32 : decode bc_Mo_hasOf 32 = .ok (.iand, 1) := by decide +kernel
theorem d_Mo_hasOf_33 : decode bc_Mo_hasOf 33 = .ok (.iconst 1, 1) := by decide +kernel
theorem d_Mo_hasOf_34 : decode bc_Mo_hasOf 34 = .ok (.if_icmp .ne 17, 3) := by decide +kernel
theorem d_Mo_hasOf_37 : decode bc_Mo_hasOf 37 = .ok (.iload 5, 2) := by decide +kernel
theorem d_Mo_hasOf_39 : decode bc_Mo_hasOf 39 = .ok (.iconst 1, 1) := by decide +kernel
theorem d_Mo_hasOf_40 : decode bc_Mo_hasOf 40 = .ok (.aload_n 0, 1) := by decide +kernel
theorem d_Mo_hasOf_41 : decode bc_Mo_hasOf 41 = .ok (.getfield 146, 3) := by decide +kernel
theorem d_Mo_hasOf_44 : decode bc_Mo_hasOf 44 = .ok (.iload 6, 2) := by decide +kernel
theorem d_Mo_hasOf_46 : decode bc_Mo_hasOf 46 = .ok (.iaload, 1) := by decide +kernel
theorem d_Mo_hasOf_47 : decode bc_Mo_hasOf 47 = .ok (.ishl, 1) := by decide +kernel
theorem d_Mo_hasOf_48 : decode bc_Mo_hasOf 48 = .ok (.ior, 1) := by decide +kernel
theorem d_Mo_hasOf_49 : decode bc_Mo_hasOf 49 = .ok (.istore 5, 2) := by decide +kernel
theorem d_Mo_hasOf_51 : decode bc_Mo_hasOf 51 = .ok (.iinc 6 1, 3) := by decide +kernel
theorem d_Mo_hasOf_54 : decode bc_Mo_hasOf 54 = .ok (.goto (-41), 3) := by decide +kernel
theorem d_Mo_hasOf_57 : decode bc_Mo_hasOf 57 = .ok (.aload_n 0, 1) := by decide +kernel
theorem d_Mo_hasOf_58 : decode bc_Mo_hasOf 58 = .ok (.iload_n 2, 1) := by decide +kernel
theorem d_Mo_hasOf_59 : decode bc_Mo_hasOf 59 = .ok (.invokevirtual 364, 3) := by decide +kernel
theorem d_Mo_hasOf_62 : decode bc_Mo_hasOf 62 = .ok (.istore 6, 2) := by decide +kernel
theorem d_Mo_hasOf_64 : decode bc_Mo_hasOf 64 = .ok (.iconst 0, 1) := by decide +kernel
theorem d_Mo_hasOf_65 : decode bc_Mo_hasOf 65 = .ok (.istore 7, 2) := by decide +kernel
theorem d_Mo_hasOf_67 : decode bc_Mo_hasOf 67 = .ok (.iload 7, 2) := by decide +kernel
theorem d_Mo_hasOf_69 : decode bc_Mo_hasOf 69 = .ok (.aload_n 0, 1) := by decide +kernel
theorem d_Mo_hasOf_70 : decode bc_Mo_hasOf 70 = .ok (.getfield 67, 3) := by decide +kernel
theorem d_Mo_hasOf_73 : decode bc_Mo_hasOf 73 = .ok (.aload_n 0, 1) := by decide +kernel
theorem d_Mo_hasOf_74 : decode bc_Mo_hasOf 74 = .ok (.getfield 245, 3) := by decide +kernel
theorem d_Mo_hasOf_77 : decode bc_Mo_hasOf 77 = .ok (.iaload, 1) := by decide +kernel
theorem d_Mo_hasOf_78 : decode bc_Mo_hasOf 78 = .ok (.if_icmp .ge 31, 3) := by decide +kernel
theorem d_Mo_hasOf_81 : decode bc_Mo_hasOf 81 = .ok (.iload 5, 2) := by decide +kernel
theorem d_Mo_hasOf_83 : decode bc_Mo_hasOf 83 = .ok (.iload 7, 2) := by decide +kernel
theorem d_Mo_hasOf_85 : decode bc_Mo_hasOf 85 = .ok (.ishr, 1) := by decide +kernel
theorem d_Mo_hasOf_86 : decode bc_Mo_hasOf 86 = .ok (.iconst 1, 1) := by decide +kernel
theorem d_Mo_hasOf_87 : decode bc_Mo_hasOf 87 = .ok (.iand, 1) := by decide +kernel
theorem d_Mo_hasOf_88 : decode bc_Mo_hasOf 88 = .ok (.iconst 1, 1) := by decide +kernel
theorem d_Mo_hasOf_89 : decode bc_Mo_hasOf 89 = .ok (.if_icmp .ne 14, 3) := by decide +kernel
theorem d_Mo_hasOf_92 : decode bc_Mo_hasOf 92 = .ok (.iload 6, 2) := by decide +kernel
theorem d_Mo_hasOf_94 : decode bc_Mo_hasOf 94 = .ok (.aload_n 0, 1) := by decide +kernel
theorem d_Mo_hasOf_95 : decode bc_Mo_hasOf 95 = .ok (.iload 7, 2) := by decide +kernel
theorem d_Mo_hasOf_97 : decode bc_Mo_hasOf 97 = .ok (.invokevirtual 361, 3) := by decide +kernel
theorem d_Mo_hasOf_100 : decode bc_Mo_hasOf 100 = .ok (.iadd, 1) := by decide +kernel
theorem d_Mo_hasOf_101 : decode bc_Mo_hasOf 101 = .ok (.istore 6, 2) := by decide +kernel
theorem d_Mo_hasOf_103 : decode bc_Mo_hasOf 103 = .ok (.iinc 7 1, 3) := by decide +kernel
theorem d_Mo_hasOf_106 : decode bc_Mo_hasOf 106 = .ok (.goto (-39), 3) := by decide +kernel
theorem d_Mo_hasOf_109 : decode bc_Mo_hasOf 109 = .ok (.iload 4, 2) := by decide +kernel
theorem d_Mo_hasOf_111 : decode bc_Mo_hasOf 111 = .ok (.iload_n 1, 1) := by decide +kernel
theorem d_Mo_hasOf_112 : decode bc_Mo_hasOf 112 = .ok (.ishr, 1) := by decide +kernel
theorem d_Mo_hasOf_113 : decode bc_Mo_hasOf 113 = .ok (.iconst 1, 1) := by decide +kernel
theorem d_Mo_hasOf_114 : decode bc_Mo_hasOf 114 = .ok (.iand, 1) := by decide +kernel
theorem d_Mo_hasOf_115 : decode bc_Mo_hasOf 115 = .ok (.iconst 1, 1) := by decide +kernel
theorem d_Mo_hasOf_116 : decode bc_Mo_hasOf 116 = .ok (.if_icmp .ne 14, 3) := by decide +kernel
theorem d_Mo_hasOf_119 : decode bc_Mo_hasOf 119 = .ok (.iload 6, 2) := by decide +kernel
theorem d_Mo_hasOf_121 : decode bc_Mo_hasOf 121 = .ok (.iload 4, 2) := by decide +kernel
theorem d_Mo_hasOf_123 : decode bc_Mo_hasOf 123 = .ok (.invokestatic 349, 3) := by decide +kernel
theorem d_Mo_hasOf_126 : decode bc_Mo_hasOf 126 = .ok (.idiv, 1) := by decide +kernel
theorem d_Mo_hasOf_127 : decode bc_Mo_hasOf 127 = .ok (.goto 4, 3) := by decide +kernel
theorem d_Mo_hasOf_130 : decode bc_Mo_hasOf 130 = .ok (.iconst 0, 1) := by decide +kernel
theorem d_Mo_hasOf_131 : decode bc_Mo_hasOf 131 = .ok (.istore 7, 2) := by decide +kernel
theorem d_Mo_hasOf_133 : decode bc_Mo_hasOf 133 = .ok (.iload_n 3, 1) := by decide +kernel
theorem d_Mo_hasOf_134 : decode bc_Mo_hasOf 134 = .ok (.iload_n 1, 1) := by decide +kernel
theorem d_Mo_hasOf_135 : decode bc_Mo_hasOf 135 = .ok (.ishr, 1) := by decide +kernel
theorem d_Mo_hasOf_136 : decode bc_Mo_hasOf 136 = .ok (.iconst 1, 1) := by decide +kernel
theorem d_Mo_hasOf_137 : decode bc_Mo_hasOf 137 = .ok (.iand, 1) := by decide +kernel
theorem d_Mo_hasOf_138 : decode bc_Mo_hasOf 138 = .ok (.iconst 1, 1) := by decide +kernel
theorem d_Mo_hasOf_139 : decode bc_Mo_hasOf 139 = .ok (.if_icmp .ne 22, 3) := by decide +kernel
theorem d_Mo_hasOf_142 : decode bc_Mo_hasOf 142 = .ok (.iload 7, 2) := by decide +kernel
theorem d_Mo_hasOf_144 : decode bc_Mo_hasOf 144 = .ok (.iconst 5, 1) := by decide +kernel
theorem d_Mo_hasOf_145 : decode bc_Mo_hasOf 145 = .ok (.aload_n 0, 1) := by decide +kernel
theorem d_Mo_hasOf_146 : decode bc_Mo_hasOf 146 = .ok (.getfield 474, 3) := by decide +kernel
theorem d_Mo_hasOf_149 : decode bc_Mo_hasOf 149 = .ok (.iload_n 3, 1) := by decide +kernel
theorem d_Mo_hasOf_150 : decode bc_Mo_hasOf 150 = .ok (.iconst (-1), 1) := by decide +kernel
theorem d_Mo_hasOf_151 : decode bc_Mo_hasOf 151 = .ok (.ixor, 1) := by decide +kernel
theorem d_Mo_hasOf_152 : decode bc_Mo_hasOf 152 = .ok (.iand, 1) := by decide +kernel
theorem d_Mo_hasOf_153 : decode bc_Mo_hasOf 153 = .ok (.invokestatic 349, 3) := by decide +kernel
theorem d_Mo_hasOf_156 : decode bc_Mo_hasOf 156 = .ok (.imul, 1) := by decide +kernel
theorem d_Mo_hasOf_157 : decode bc_Mo_hasOf 157 = .ok (.isub, 1) := by decide +kernel
theorem d_Mo_hasOf_158 : decode bc_Mo_hasOf 158 = .ok (.goto 5, 3) := by decide +kernel
theorem d_Mo_hasOf_161 : decode bc_Mo_hasOf 161 = .ok (.iload 7, 2) := by decide +kernel
theorem d_Mo_hasOf_163 : decode bc_Mo_hasOf 163 = .ok (.ireturn, 1) := by decide +kernel
set_option maxRecDepth 20000 in
theorem w_Mo_hasOf_b131 {X : CX} {V : WV} (hV : IsM V) {S : Mem} {z : Int32} (hC : Ck X V bc_Mo_hasOf 8 "SecretWellsModel" (some .int) 5 110) (x1 : Int32) (x3 : Int32) (s0 : Int32) (h : f_Mo_hasOf_b131 S x1 x3 s0 = some z) : G X V 8 (QI X V z S) 131 [some (.ref (V.2.2.1 0 0)), some (.int x1), none, some (.int x3), none, none, none, none] [.int s0] S := by
  unfold f_Mo_hasOf_b131 at h
  refine s_istore (pc := 131) hC (i := 7) (by decide) d_Mo_hasOf_131 (lv2 := [some (.ref (V.2.2.1 0 0)), some (.int x1), none, some (.int x3), none, none, none, some (.int s0)]) rfl ?_
  refine g_iload_n (pc := 133) hC (i := 3) (x := x3) rfl rfl d_Mo_hasOf_133 ?_
  refine g_iload_n (pc := 134) hC (i := 1) (x := x1) rfl rfl d_Mo_hasOf_134 ?_
  refine g_ishr (pc := 135) hC d_Mo_hasOf_135 ?_
  refine g_iconst (pc := 136) hC kc_1 d_Mo_hasOf_136 ?_
  refine g_iand (pc := 137) hC d_Mo_hasOf_137 ?_
  refine g_iconst (pc := 138) hC kc_1 d_Mo_hasOf_138 ?_
  refine g_icmp_ne (pc := 139) hC (tgt := 161) (by decide) d_Mo_hasOf_139 h (fun h => ?_) (fun h => ?_)
  · refine g_iload (pc := 161) hC (i := 7) (x := s0) rfl d_Mo_hasOf_161 ?_
    exact g_iN (pc := 163) hC rfl d_Mo_hasOf_163 h
  · refine g_iload (pc := 142) hC (i := 7) (x := s0) rfl d_Mo_hasOf_142 ?_
    refine g_iconst (pc := 144) hC kc_5 d_Mo_hasOf_144 ?_
    refine g_aload_n (pc := 145) hC (i := 0) (x := (V.2.2.1 0 0)) rfl rfl d_Mo_hasOf_145 ?_
    refine g_getI (pc := 146) hC fo_Mo_474 (ob_Mo hV) rfl d_Mo_hasOf_146 ?_
    refine g_iload_n (pc := 149) hC (i := 3) (x := x3) rfl rfl d_Mo_hasOf_149 ?_
    refine g_iconst (pc := 150) hC kc_m1 d_Mo_hasOf_150 ?_
    refine g_ixor (pc := 151) hC d_Mo_hasOf_151 ?_
    refine g_iand (pc := 152) hC d_Mo_hasOf_152 ?_
    obtain ⟨q153, hq153, h⟩ := Option.bind_eq_some_iff.mp h
    refine g_si (pc := 153) hC (As := [.int ((S.1 0 67) &&& (x3 ^^^ (-1)))]) (st := [.int 5, .int s0]) mt_Mo_bits lk_Mo_349 (Nat.le_of_ble_eq_true rfl) ⟨Nat.le_of_ble_eq_true rfl, Nat.le_of_ble_eq_true rfl⟩ rfl d_Mo_hasOf_153 (c_Mo_bits (IsM.ok hV) hq153) ?_
    refine g_imul (pc := 156) hC d_Mo_hasOf_156 ?_
    refine g_isub (pc := 157) hC d_Mo_hasOf_157 ?_
    refine g_goto (pc := 158) hC (tgt := 163) (by decide) d_Mo_hasOf_158 ?_
    exact g_iN (pc := 163) hC rfl d_Mo_hasOf_163 h
set_option maxRecDepth 20000 in
theorem w_Mo_hasOf_b67 {X : CX} {V : WV} (hV : IsM V) {S : Mem} {z : Int32} (hC : Ck X V bc_Mo_hasOf 8 "SecretWellsModel" (some .int) 5 110) (k67 : Int32 → Int32 → Int32 → Int32 → Int32 → Int32 → Option (Int32)) (hk67 : ∀ (x1 : Int32) (x3 : Int32) (x4 : Int32) (x5 : Int32) (x6 : Int32) (x7 : Int32), k67 x1 x3 x4 x5 x6 x7 = some z → G X V 8 (QI X V z S) 67 [some (.ref (V.2.2.1 0 0)), some (.int x1), none, some (.int x3), some (.int x4), some (.int x5), some (.int x6), some (.int x7)] [] S) (x1 : Int32) (x3 : Int32) (x4 : Int32) (x5 : Int32) (x6 : Int32) (x7 : Int32) (h : f_Mo_hasOf_b67 S k67 x1 x3 x4 x5 x6 x7 = some z) : G X V 8 (QI X V z S) 67 [some (.ref (V.2.2.1 0 0)), some (.int x1), none, some (.int x3), some (.int x4), some (.int x5), some (.int x6), some (.int x7)] [] S := by
  unfold f_Mo_hasOf_b67 at h
  refine g_iload (pc := 67) hC (i := 7) (x := x7) rfl d_Mo_hasOf_67 ?_
  refine g_aload_n (pc := 69) hC (i := 0) (x := (V.2.2.1 0 0)) rfl rfl d_Mo_hasOf_69 ?_
  refine g_getA (pc := 70) hC fo_Mo_67 (ob_Mo hV) rfl d_Mo_hasOf_70 ?_
  refine g_aload_n (pc := 73) hC (i := 0) (x := (V.2.2.1 0 0)) rfl rfl d_Mo_hasOf_73 ?_
  refine g_getI (pc := 74) hC fo_Mo_245 (ob_Mo hV) rfl d_Mo_hasOf_74 ?_
  refine g_iald (pc := 77) hC (ar_Mo_30 hV) d_Mo_hasOf_77 h (fun h => ?_)
  refine g_icmp_ge (pc := 78) hC (tgt := 109) (by decide) d_Mo_hasOf_78 h (fun h => ?_) (fun h => ?_)
  · refine g_iload (pc := 109) hC (i := 4) (x := x4) rfl d_Mo_hasOf_109 ?_
    refine g_iload_n (pc := 111) hC (i := 1) (x := x1) rfl rfl d_Mo_hasOf_111 ?_
    refine g_ishr (pc := 112) hC d_Mo_hasOf_112 ?_
    refine g_iconst (pc := 113) hC kc_1 d_Mo_hasOf_113 ?_
    refine g_iand (pc := 114) hC d_Mo_hasOf_114 ?_
    refine g_iconst (pc := 115) hC kc_1 d_Mo_hasOf_115 ?_
    refine g_icmp_ne (pc := 116) hC (tgt := 130) (by decide) d_Mo_hasOf_116 h (fun h => ?_) (fun h => ?_)
    · refine g_iconst (pc := 130) hC kc_0 d_Mo_hasOf_130 ?_
      refine g_le (lv2 := [some (.ref (V.2.2.1 0 0)), some (.int x1), none, some (.int x3), none, none, none, none]) (⟨rfl, ⟨rfl, ⟨rfl, trivial⟩⟩⟩) ?_
      exact w_Mo_hasOf_b131 hV hC x1 x3 0 h
    · refine g_iload (pc := 119) hC (i := 6) (x := x6) rfl d_Mo_hasOf_119 ?_
      refine g_iload (pc := 121) hC (i := 4) (x := x4) rfl d_Mo_hasOf_121 ?_
      obtain ⟨q123, hq123, h⟩ := Option.bind_eq_some_iff.mp h
      refine g_si (pc := 123) hC (As := [.int x4]) (st := [.int x6]) mt_Mo_bits lk_Mo_349 (Nat.le_of_ble_eq_true rfl) ⟨Nat.le_of_ble_eq_true rfl, Nat.le_of_ble_eq_true rfl⟩ rfl d_Mo_hasOf_123 (c_Mo_bits (IsM.ok hV) hq123) ?_
      refine g_idiv (pc := 126) hC d_Mo_hasOf_126 h (fun h => ?_)
      refine g_goto (pc := 127) hC (tgt := 131) (by decide) d_Mo_hasOf_127 ?_
      refine g_le (lv2 := [some (.ref (V.2.2.1 0 0)), some (.int x1), none, some (.int x3), none, none, none, none]) (⟨rfl, ⟨rfl, ⟨rfl, trivial⟩⟩⟩) ?_
      exact w_Mo_hasOf_b131 hV hC x1 x3 (x6 / q123) h
  · refine g_iload (pc := 81) hC (i := 5) (x := x5) rfl d_Mo_hasOf_81 ?_
    refine g_iload (pc := 83) hC (i := 7) (x := x7) rfl d_Mo_hasOf_83 ?_
    refine g_ishr (pc := 85) hC d_Mo_hasOf_85 ?_
    refine g_iconst (pc := 86) hC kc_1 d_Mo_hasOf_86 ?_
    refine g_iand (pc := 87) hC d_Mo_hasOf_87 ?_
    refine g_iconst (pc := 88) hC kc_1 d_Mo_hasOf_88 ?_
    refine g_icmp_ne (pc := 89) hC (tgt := 103) (by decide) d_Mo_hasOf_89 h (fun h => ?_) (fun h => ?_)
    · refine s_iinc (pc := 103) hC (i := 7) (x := x7) (v := x7 + 1) rfl (by rw [kc_1]) (by decide) d_Mo_hasOf_103 (lv2 := [some (.ref (V.2.2.1 0 0)), some (.int x1), none, some (.int x3), some (.int x4), some (.int x5), some (.int x6), some (.int (x7 + 1))]) rfl ?_
      refine g_goto (pc := 106) hC (tgt := 67) (by decide) d_Mo_hasOf_106 ?_
      exact hk67 x1 x3 x4 x5 x6 (x7 + 1) h
    · refine g_iload (pc := 92) hC (i := 6) (x := x6) rfl d_Mo_hasOf_92 ?_
      refine g_aload_n (pc := 94) hC (i := 0) (x := (V.2.2.1 0 0)) rfl rfl d_Mo_hasOf_94 ?_
      refine g_iload (pc := 95) hC (i := 7) (x := x7) rfl d_Mo_hasOf_95 ?_
      obtain ⟨q97, hq97, h⟩ := Option.bind_eq_some_iff.mp h
      refine g_vi (pc := 97) hC (As := [.int x7]) (st := [.int x6]) mt_Mo_weightNow lk_Mo_361 rfl (ob_Mo hV) (Nat.le_of_ble_eq_true rfl) ⟨Nat.le_of_ble_eq_true rfl, Nat.le_of_ble_eq_true rfl⟩ rfl d_Mo_hasOf_97 (c_Mo_weightNow hV hq97) ?_
      refine g_iadd (pc := 100) hC d_Mo_hasOf_100 ?_
      refine g_leti h (fun y101 h => ?_)
      refine s_istore (pc := 101) hC (i := 6) (by decide) d_Mo_hasOf_101 (lv2 := [some (.ref (V.2.2.1 0 0)), some (.int x1), none, some (.int x3), some (.int x4), some (.int x5), some (.int y101), some (.int x7)]) rfl ?_
      refine s_iinc (pc := 103) hC (i := 7) (x := x7) (v := x7 + 1) rfl (by rw [kc_1]) (by decide) d_Mo_hasOf_103 (lv2 := [some (.ref (V.2.2.1 0 0)), some (.int x1), none, some (.int x3), some (.int x4), some (.int x5), some (.int y101), some (.int (x7 + 1))]) rfl ?_
      refine g_goto (pc := 106) hC (tgt := 67) (by decide) d_Mo_hasOf_106 ?_
      exact hk67 x1 x3 x4 x5 y101 (x7 + 1) h
theorem w_Mo_hasOf_l67 {X : CX} {V : WV} (hV : IsM V) {S : Mem} {z : Int32} (hC : Ck X V bc_Mo_hasOf 8 "SecretWellsModel" (some .int) 5 110) : ∀ (n : Nat) (x1 : Int32) (x3 : Int32) (x4 : Int32) (x5 : Int32) (x6 : Int32) (x7 : Int32), f_Mo_hasOf_l67 S n x1 x3 x4 x5 x6 x7 = some z → G X V 8 (QI X V z S) 67 [some (.ref (V.2.2.1 0 0)), some (.int x1), none, some (.int x3), some (.int x4), some (.int x5), some (.int x6), some (.int x7)] [] S := by
  intro n
  induction n with
  | zero =>
    intro x1 x3 x4 x5 x6 x7 h
    have h : (none : Option (Int32)) = some z := h
    cases h
  | succ n ih =>
    intro x1 x3 x4 x5 x6 x7 h
    exact w_Mo_hasOf_b67 hV hC (f_Mo_hasOf_l67 S n) ih x1 x3 x4 x5 x6 x7 h
set_option maxRecDepth 20000 in
theorem w_Mo_hasOf_b13 {X : CX} {V : WV} (hV : IsM V) {S : Mem} {z : Int32} (hC : Ck X V bc_Mo_hasOf 8 "SecretWellsModel" (some .int) 5 110) (k13 : Int32 → Int32 → Int32 → Int32 → Int32 → Int32 → Option (Int32)) (hk13 : ∀ (x1 : Int32) (x2 : Int32) (x3 : Int32) (x4 : Int32) (x5 : Int32) (x6 : Int32), k13 x1 x2 x3 x4 x5 x6 = some z → G X V 8 (QI X V z S) 13 [some (.ref (V.2.2.1 0 0)), some (.int x1), some (.int x2), some (.int x3), some (.int x4), some (.int x5), some (.int x6), none] [] S) (x1 : Int32) (x2 : Int32) (x3 : Int32) (x4 : Int32) (x5 : Int32) (x6 : Int32) (h : f_Mo_hasOf_b13 S k13 x1 x2 x3 x4 x5 x6 = some z) : G X V 8 (QI X V z S) 13 [some (.ref (V.2.2.1 0 0)), some (.int x1), some (.int x2), some (.int x3), some (.int x4), some (.int x5), some (.int x6), none] [] S := by
  unfold f_Mo_hasOf_b13 at h
  refine g_iload (pc := 13) hC (i := 6) (x := x6) rfl d_Mo_hasOf_13 ?_
  refine g_aload_n (pc := 15) hC (i := 0) (x := (V.2.2.1 0 0)) rfl rfl d_Mo_hasOf_15 ?_
  refine g_getA (pc := 16) hC fo_Mo_58 (ob_Mo hV) rfl d_Mo_hasOf_16 ?_
  refine g_aload_n (pc := 19) hC (i := 0) (x := (V.2.2.1 0 0)) rfl rfl d_Mo_hasOf_19 ?_
  refine g_getI (pc := 20) hC fo_Mo_245 (ob_Mo hV) rfl d_Mo_hasOf_20 ?_
  refine g_iald (pc := 23) hC (ar_Mo_27 hV) d_Mo_hasOf_23 h (fun h => ?_)
  refine g_icmp_ge (pc := 24) hC (tgt := 57) (by decide) d_Mo_hasOf_24 h (fun h => ?_) (fun h => ?_)
  · refine g_aload_n (pc := 57) hC (i := 0) (x := (V.2.2.1 0 0)) rfl rfl d_Mo_hasOf_57 ?_
    refine g_iload_n (pc := 58) hC (i := 2) (x := x2) rfl rfl d_Mo_hasOf_58 ?_
    obtain ⟨q59, hq59, h⟩ := Option.bind_eq_some_iff.mp h
    refine g_vi (pc := 59) hC (As := [.int x2]) (st := []) mt_Mo_deepOf lk_Mo_364 rfl (ob_Mo hV) (Nat.le_of_ble_eq_true rfl) ⟨Nat.le_of_ble_eq_true rfl, Nat.le_of_ble_eq_true rfl⟩ rfl d_Mo_hasOf_59 (c_Mo_deepOf hV hq59) ?_
    refine s_istore (pc := 62) hC (i := 6) (by decide) d_Mo_hasOf_62 (lv2 := [some (.ref (V.2.2.1 0 0)), some (.int x1), some (.int x2), some (.int x3), some (.int x4), some (.int x5), some (.int q59), none]) rfl ?_
    refine g_iconst (pc := 64) hC kc_0 d_Mo_hasOf_64 ?_
    refine s_istore (pc := 65) hC (i := 7) (by decide) d_Mo_hasOf_65 (lv2 := [some (.ref (V.2.2.1 0 0)), some (.int x1), some (.int x2), some (.int x3), some (.int x4), some (.int x5), some (.int q59), some (.int 0)]) rfl ?_
    refine g_le (lv2 := [some (.ref (V.2.2.1 0 0)), some (.int x1), none, some (.int x3), some (.int x4), some (.int x5), some (.int q59), some (.int 0)]) (⟨rfl, ⟨rfl, ⟨rfl, ⟨rfl, ⟨rfl, ⟨rfl, ⟨rfl, trivial⟩⟩⟩⟩⟩⟩⟩) ?_
    exact w_Mo_hasOf_l67 hV hC 5000 x1 x3 x4 x5 q59 0 h
  · refine g_iload_n (pc := 27) hC (i := 3) (x := x3) rfl rfl d_Mo_hasOf_27 ?_
    refine g_iload (pc := 28) hC (i := 6) (x := x6) rfl d_Mo_hasOf_28 ?_
    refine g_ishr (pc := 30) hC d_Mo_hasOf_30 ?_
    refine g_iconst (pc := 31) hC kc_1 d_Mo_hasOf_31 ?_
    refine g_iand (pc := 32) hC d_Mo_hasOf_32 ?_
    refine g_iconst (pc := 33) hC kc_1 d_Mo_hasOf_33 ?_
    refine g_icmp_ne (pc := 34) hC (tgt := 51) (by decide) d_Mo_hasOf_34 h (fun h => ?_) (fun h => ?_)
    · refine s_iinc (pc := 51) hC (i := 6) (x := x6) (v := x6 + 1) rfl (by rw [kc_1]) (by decide) d_Mo_hasOf_51 (lv2 := [some (.ref (V.2.2.1 0 0)), some (.int x1), some (.int x2), some (.int x3), some (.int x4), some (.int x5), some (.int (x6 + 1)), none]) rfl ?_
      refine g_goto (pc := 54) hC (tgt := 13) (by decide) d_Mo_hasOf_54 ?_
      exact hk13 x1 x2 x3 x4 x5 (x6 + 1) h
    · refine g_iload (pc := 37) hC (i := 5) (x := x5) rfl d_Mo_hasOf_37 ?_
      refine g_iconst (pc := 39) hC kc_1 d_Mo_hasOf_39 ?_
      refine g_aload_n (pc := 40) hC (i := 0) (x := (V.2.2.1 0 0)) rfl rfl d_Mo_hasOf_40 ?_
      refine g_getA (pc := 41) hC fo_Mo_146 (ob_Mo hV) rfl d_Mo_hasOf_41 ?_
      refine g_iload (pc := 44) hC (i := 6) (x := x6) rfl d_Mo_hasOf_44 ?_
      refine g_iald (pc := 46) hC (ar_Mo_66 hV) d_Mo_hasOf_46 h (fun h => ?_)
      refine g_ishl (pc := 47) hC d_Mo_hasOf_47 ?_
      refine g_ior (pc := 48) hC d_Mo_hasOf_48 ?_
      refine g_leti h (fun y49 h => ?_)
      refine s_istore (pc := 49) hC (i := 5) (by decide) d_Mo_hasOf_49 (lv2 := [some (.ref (V.2.2.1 0 0)), some (.int x1), some (.int x2), some (.int x3), some (.int x4), some (.int y49), some (.int x6), none]) rfl ?_
      refine s_iinc (pc := 51) hC (i := 6) (x := x6) (v := x6 + 1) rfl (by rw [kc_1]) (by decide) d_Mo_hasOf_51 (lv2 := [some (.ref (V.2.2.1 0 0)), some (.int x1), some (.int x2), some (.int x3), some (.int x4), some (.int y49), some (.int (x6 + 1)), none]) rfl ?_
      refine g_goto (pc := 54) hC (tgt := 13) (by decide) d_Mo_hasOf_54 ?_
      exact hk13 x1 x2 x3 x4 y49 (x6 + 1) h
theorem w_Mo_hasOf_l13 {X : CX} {V : WV} (hV : IsM V) {S : Mem} {z : Int32} (hC : Ck X V bc_Mo_hasOf 8 "SecretWellsModel" (some .int) 5 110) : ∀ (n : Nat) (x1 : Int32) (x2 : Int32) (x3 : Int32) (x4 : Int32) (x5 : Int32) (x6 : Int32), f_Mo_hasOf_l13 S n x1 x2 x3 x4 x5 x6 = some z → G X V 8 (QI X V z S) 13 [some (.ref (V.2.2.1 0 0)), some (.int x1), some (.int x2), some (.int x3), some (.int x4), some (.int x5), some (.int x6), none] [] S := by
  intro n
  induction n with
  | zero =>
    intro x1 x2 x3 x4 x5 x6 h
    have h : (none : Option (Int32)) = some z := h
    cases h
  | succ n ih =>
    intro x1 x2 x3 x4 x5 x6 h
    exact w_Mo_hasOf_b13 hV hC (f_Mo_hasOf_l13 S n) ih x1 x2 x3 x4 x5 x6 h
set_option maxRecDepth 20000 in
theorem w_Mo_hasOf_b0 {X : CX} {V : WV} (hV : IsM V) {S : Mem} {z : Int32} (hC : Ck X V bc_Mo_hasOf 8 "SecretWellsModel" (some .int) 5 110) (x1 : Int32) (x2 : Int32) (x3 : Int32) (h : f_Mo_hasOf_b0 S x1 x2 x3 = some z) : G X V 8 (QI X V z S) 0 [some (.ref (V.2.2.1 0 0)), some (.int x1), some (.int x2), some (.int x3), none, none, none, none] [] S := by
  unfold f_Mo_hasOf_b0 at h
  refine g_aload_n (pc := 0) hC (i := 0) (x := (V.2.2.1 0 0)) rfl rfl d_Mo_hasOf_0 ?_
  refine g_iload_n (pc := 1) hC (i := 2) (x := x2) rfl rfl d_Mo_hasOf_1 ?_
  obtain ⟨q2, hq2, h⟩ := Option.bind_eq_some_iff.mp h
  refine g_vi (pc := 2) hC (As := [.int x2]) (st := []) mt_Mo_drinkersOf lk_Mo_380 rfl (ob_Mo hV) (Nat.le_of_ble_eq_true rfl) ⟨Nat.le_of_ble_eq_true rfl, Nat.le_of_ble_eq_true rfl⟩ rfl d_Mo_hasOf_2 (c_Mo_drinkersOf hV hq2) ?_
  refine s_istore (pc := 5) hC (i := 4) (by decide) d_Mo_hasOf_5 (lv2 := [some (.ref (V.2.2.1 0 0)), some (.int x1), some (.int x2), some (.int x3), some (.int q2), none, none, none]) rfl ?_
  refine g_iconst (pc := 7) hC kc_0 d_Mo_hasOf_7 ?_
  refine s_istore (pc := 8) hC (i := 5) (by decide) d_Mo_hasOf_8 (lv2 := [some (.ref (V.2.2.1 0 0)), some (.int x1), some (.int x2), some (.int x3), some (.int q2), some (.int 0), none, none]) rfl ?_
  refine g_iconst (pc := 10) hC kc_0 d_Mo_hasOf_10 ?_
  refine s_istore (pc := 11) hC (i := 6) (by decide) d_Mo_hasOf_11 (lv2 := [some (.ref (V.2.2.1 0 0)), some (.int x1), some (.int x2), some (.int x3), some (.int q2), some (.int 0), some (.int 0), none]) rfl ?_
  exact w_Mo_hasOf_l13 hV hC 5000 x1 x2 x3 q2 0 0 h
theorem c_Mo_hasOf {V : WV} {l : Launch} (hV : IsM V) {x1 : Int32} {x2 : Int32} {x3 : Int32} {S : Mem} {z : Int32} (h : f_Mo_hasOf x1 x2 x3 S = some z) : CI V l y_Mo_hasOf bc_Mo_hasOf 8 (some .int) 5 110 [.ref (V.2.2.1 0 0), .int x1, .int x2, .int x3] S z S :=
  ct_i rfl (IsM.ok hV) (Nat.le_of_ble_eq_true rfl) (fun _ _ hC => w_Mo_hasOf_b0 hV hC x1 x2 x3 h)
def f_Mo_isResting_b2 (S : Mem) (k2 : Int32 → Int32 → Int32 → Option (Int32)) (x1 : Int32) (x2 : Int32) (x3 : Int32) : Option (Int32) :=
  gIn (S.1 0 18) 2 (
  if (S.2.1 0 27 (S.1 0 18).toNatClampNeg) ≤ x3 then
    some 1
  else
    if (((S.1 0 67) >>> (x3 &&& 31)) &&& 1) = 1 then
      Option.bind (f_Mo_hasOf x3 x1 (x2 ^^^ ((1 : Int32) <<< (x3 &&& 31))) S) (fun q35 =>
      Option.bind (f_Mo_hasOf x3 x1 x2 S) (fun q42 =>
      if q35 ≤ q42 then
        k2 x1 x2 (x3 + 1)
      else
        some 0))
    else
      k2 x1 x2 (x3 + 1))
def f_Mo_isResting_l2 (S : Mem) : Nat → Int32 → Int32 → Int32 → Option (Int32)
  | 0 => fun _ _ _ => none
  | n + 1 => f_Mo_isResting_b2 S (f_Mo_isResting_l2 S n)
def f_Mo_isResting_b0 (S : Mem) (x1 : Int32) (x2 : Int32) : Option (Int32) :=
  f_Mo_isResting_l2 S 5000 x1 x2 0
def f_Mo_isResting (x1 : Int32) (x2 : Int32) (S : Mem) : Option (Int32) := f_Mo_isResting_b0 S x1 x2
theorem d_Mo_isResting_0 : decode bc_Mo_isResting 0 = .ok (.iconst 0, 1) := by decide +kernel
theorem d_Mo_isResting_1 : decode bc_Mo_isResting 1 = .ok (.istore_n 3, 1) := by decide +kernel
theorem d_Mo_isResting_2 : decode bc_Mo_isResting 2 = .ok (.iload_n 3, 1) := by decide +kernel
theorem d_Mo_isResting_3 : decode bc_Mo_isResting 3 = .ok (.aload_n 0, 1) := by decide +kernel
theorem d_Mo_isResting_4 : decode bc_Mo_isResting 4 = .ok (.getfield 58, 3) := by decide +kernel
theorem d_Mo_isResting_7 : decode bc_Mo_isResting 7 = .ok (.aload_n 0, 1) := by decide +kernel
theorem d_Mo_isResting_8 : decode bc_Mo_isResting 8 = .ok (.getfield 245, 3) := by decide +kernel
theorem d_Mo_isResting_11 : decode bc_Mo_isResting 11 = .ok (.iaload, 1) := by decide +kernel
theorem d_Mo_isResting_12 : decode bc_Mo_isResting 12 = .ok (.if_icmp .ge 44, 3) := by decide +kernel
theorem d_Mo_isResting_15 : decode bc_Mo_isResting 15 = .ok (.aload_n 0, 1) := by decide +kernel
theorem d_Mo_isResting_16 : decode bc_Mo_isResting 16 = .ok (.getfield 474, 3) := by decide +kernel
theorem d_Mo_isResting_19 : decode bc_Mo_isResting 19 = .ok (.iload_n 3, 1) := by decide +kernel
theorem d_Mo_isResting_20 : decode bc_Mo_isResting 20 = .ok (.ishr, 1) := by decide +kernel
theorem d_Mo_isResting_21 : decode bc_Mo_isResting 21 = .ok (.iconst 1, 1) := by decide +kernel
theorem d_Mo_isResting_22 : decode bc_Mo_isResting 22 = .ok (.iand, 1) := by decide +kernel
theorem d_Mo_isResting_23 : decode bc_Mo_isResting 23 = .ok (.iconst 1, 1) := by decide +kernel
theorem d_Mo_isResting_24 : decode bc_Mo_isResting 24 = .ok (.if_icmp .ne 26, 3) := by decide +kernel
theorem d_Mo_isResting_27 : decode bc_Mo_isResting 27 = .ok (.aload_n 0, 1) := by decide +kernel
theorem d_Mo_isResting_28 : decode bc_Mo_isResting 28 = .ok (.iload_n 3, 1) := by decide +kernel
theorem d_Mo_isResting_29 : decode bc_Mo_isResting 29 = .ok (.iload_n 1, 1) := by decide +kernel
theorem d_Mo_isResting_30 : decode bc_Mo_isResting 30 = .ok (.iload_n 2, 1) := by decide +kernel
theorem d_Mo_isResting_31 : decode bc_Mo_isResting 31 = .ok (.iconst 1, 1) := by decide +kernel
theorem d_Mo_isResting_32 : decode bc_Mo_isResting 32 = .ok (.iload_n 3, 1) := by decide +kernel
theorem d_Mo_isResting_33 : decode bc_Mo_isResting 33 = .ok (.ishl, 1) := by decide +kernel
theorem d_Mo_isResting_34 : decode bc_Mo_isResting 34 = .ok (.ixor, 1) := by decide +kernel
theorem d_Mo_isResting_35 : decode bc_Mo_isResting 35 = .ok (.invokevirtual 477, 3) := by decide +kernel
theorem d_Mo_isResting_38 : decode bc_Mo_isResting 38 = .ok (.aload_n 0, 1) := by decide +kernel
theorem d_Mo_isResting_39 : decode bc_Mo_isResting 39 = .ok (.iload_n 3, 1) := by decide +kernel
theorem d_Mo_isResting_40 : decode bc_Mo_isResting 40 = .ok (.iload_n 1, 1) := by decide +kernel
theorem d_Mo_isResting_41 : decode bc_Mo_isResting 41 = .ok (.iload_n 2, 1) := by decide +kernel
theorem d_Mo_isResting_42 : decode bc_Mo_isResting 42 = .ok (.invokevirtual 477, 3) := by decide +kernel
theorem d_Mo_isResting_45 : decode bc_Mo_isResting 45 = .ok (.if_icmp .le 5, 3) := by decide +kernel
theorem d_Mo_isResting_48 : decode bc_Mo_isResting 48 = .ok (.iconst 0, 1) := by decide +kernel
theorem d_Mo_isResting_49 : decode bc_Mo_isResting 49 = .ok (.ireturn, 1) := by decide +kernel
theorem d_Mo_isResting_50 : decode bc_Mo_isResting 50 = .ok (.iinc 3 1, 3) := by decide +kernel
theorem d_Mo_isResting_53 : decode bc_Mo_isResting 53 = .ok (.goto (-51), 3) := by decide +kernel
theorem d_Mo_isResting_56 : decode bc_Mo_isResting 56 = .ok (.iconst 1, 1) := by decide +kernel
theorem d_Mo_isResting_57 : decode bc_Mo_isResting 57 = .ok (.ireturn, 1) := by decide +kernel
set_option maxRecDepth 20000 in
theorem w_Mo_isResting_b2 {X : CX} {V : WV} (hV : IsM V) {S : Mem} {z : Int32} (hC : Ck X V bc_Mo_isResting 4 "SecretWellsModel" (some .boolean) 6 137) (k2 : Int32 → Int32 → Int32 → Option (Int32)) (hk2 : ∀ (x1 : Int32) (x2 : Int32) (x3 : Int32), k2 x1 x2 x3 = some z → G X V 4 (QI X V z S) 2 [some (.ref (V.2.2.1 0 0)), some (.int x1), some (.int x2), some (.int x3)] [] S) (x1 : Int32) (x2 : Int32) (x3 : Int32) (h : f_Mo_isResting_b2 S k2 x1 x2 x3 = some z) : G X V 4 (QI X V z S) 2 [some (.ref (V.2.2.1 0 0)), some (.int x1), some (.int x2), some (.int x3)] [] S := by
  unfold f_Mo_isResting_b2 at h
  refine g_iload_n (pc := 2) hC (i := 3) (x := x3) rfl rfl d_Mo_isResting_2 ?_
  refine g_aload_n (pc := 3) hC (i := 0) (x := (V.2.2.1 0 0)) rfl rfl d_Mo_isResting_3 ?_
  refine g_getA (pc := 4) hC fo_Mo_58 (ob_Mo hV) rfl d_Mo_isResting_4 ?_
  refine g_aload_n (pc := 7) hC (i := 0) (x := (V.2.2.1 0 0)) rfl rfl d_Mo_isResting_7 ?_
  refine g_getI (pc := 8) hC fo_Mo_245 (ob_Mo hV) rfl d_Mo_isResting_8 ?_
  refine g_iald (pc := 11) hC (ar_Mo_27 hV) d_Mo_isResting_11 h (fun h => ?_)
  refine g_icmp_ge (pc := 12) hC (tgt := 56) (by decide) d_Mo_isResting_12 h (fun h => ?_) (fun h => ?_)
  · refine g_iconst (pc := 56) hC kc_1 d_Mo_isResting_56 ?_
    exact g_iN (pc := 57) hC rfl d_Mo_isResting_57 h
  · refine g_aload_n (pc := 15) hC (i := 0) (x := (V.2.2.1 0 0)) rfl rfl d_Mo_isResting_15 ?_
    refine g_getI (pc := 16) hC fo_Mo_474 (ob_Mo hV) rfl d_Mo_isResting_16 ?_
    refine g_iload_n (pc := 19) hC (i := 3) (x := x3) rfl rfl d_Mo_isResting_19 ?_
    refine g_ishr (pc := 20) hC d_Mo_isResting_20 ?_
    refine g_iconst (pc := 21) hC kc_1 d_Mo_isResting_21 ?_
    refine g_iand (pc := 22) hC d_Mo_isResting_22 ?_
    refine g_iconst (pc := 23) hC kc_1 d_Mo_isResting_23 ?_
    refine g_icmp_ne (pc := 24) hC (tgt := 50) (by decide) d_Mo_isResting_24 h (fun h => ?_) (fun h => ?_)
    · refine s_iinc (pc := 50) hC (i := 3) (x := x3) (v := x3 + 1) rfl (by rw [kc_1]) (by decide) d_Mo_isResting_50 (lv2 := [some (.ref (V.2.2.1 0 0)), some (.int x1), some (.int x2), some (.int (x3 + 1))]) rfl ?_
      refine g_goto (pc := 53) hC (tgt := 2) (by decide) d_Mo_isResting_53 ?_
      exact hk2 x1 x2 (x3 + 1) h
    · refine g_aload_n (pc := 27) hC (i := 0) (x := (V.2.2.1 0 0)) rfl rfl d_Mo_isResting_27 ?_
      refine g_iload_n (pc := 28) hC (i := 3) (x := x3) rfl rfl d_Mo_isResting_28 ?_
      refine g_iload_n (pc := 29) hC (i := 1) (x := x1) rfl rfl d_Mo_isResting_29 ?_
      refine g_iload_n (pc := 30) hC (i := 2) (x := x2) rfl rfl d_Mo_isResting_30 ?_
      refine g_iconst (pc := 31) hC kc_1 d_Mo_isResting_31 ?_
      refine g_iload_n (pc := 32) hC (i := 3) (x := x3) rfl rfl d_Mo_isResting_32 ?_
      refine g_ishl (pc := 33) hC d_Mo_isResting_33 ?_
      refine g_ixor (pc := 34) hC d_Mo_isResting_34 ?_
      obtain ⟨q35, hq35, h⟩ := Option.bind_eq_some_iff.mp h
      refine g_vi (pc := 35) hC (As := [.int x3, .int x1, .int (x2 ^^^ ((1 : Int32) <<< (x3 &&& 31)))]) (st := []) mt_Mo_hasOf lk_Mo_477 rfl (ob_Mo hV) (Nat.le_of_ble_eq_true rfl) ⟨Nat.le_of_ble_eq_true rfl, Nat.le_of_ble_eq_true rfl⟩ rfl d_Mo_isResting_35 (c_Mo_hasOf hV hq35) ?_
      refine g_aload_n (pc := 38) hC (i := 0) (x := (V.2.2.1 0 0)) rfl rfl d_Mo_isResting_38 ?_
      refine g_iload_n (pc := 39) hC (i := 3) (x := x3) rfl rfl d_Mo_isResting_39 ?_
      refine g_iload_n (pc := 40) hC (i := 1) (x := x1) rfl rfl d_Mo_isResting_40 ?_
      refine g_iload_n (pc := 41) hC (i := 2) (x := x2) rfl rfl d_Mo_isResting_41 ?_
      obtain ⟨q42, hq42, h⟩ := Option.bind_eq_some_iff.mp h
      refine g_vi (pc := 42) hC (As := [.int x3, .int x1, .int x2]) (st := [.int q35]) mt_Mo_hasOf lk_Mo_477 rfl (ob_Mo hV) (Nat.le_of_ble_eq_true rfl) ⟨Nat.le_of_ble_eq_true rfl, Nat.le_of_ble_eq_true rfl⟩ rfl d_Mo_isResting_42 (c_Mo_hasOf hV hq42) ?_
      refine g_icmp_le (pc := 45) hC (tgt := 50) (by decide) d_Mo_isResting_45 h (fun h => ?_) (fun h => ?_)
      · refine s_iinc (pc := 50) hC (i := 3) (x := x3) (v := x3 + 1) rfl (by rw [kc_1]) (by decide) d_Mo_isResting_50 (lv2 := [some (.ref (V.2.2.1 0 0)), some (.int x1), some (.int x2), some (.int (x3 + 1))]) rfl ?_
        refine g_goto (pc := 53) hC (tgt := 2) (by decide) d_Mo_isResting_53 ?_
        exact hk2 x1 x2 (x3 + 1) h
      · refine g_iconst (pc := 48) hC kc_0 d_Mo_isResting_48 ?_
        exact g_iN (pc := 49) hC rfl d_Mo_isResting_49 h
theorem w_Mo_isResting_l2 {X : CX} {V : WV} (hV : IsM V) {S : Mem} {z : Int32} (hC : Ck X V bc_Mo_isResting 4 "SecretWellsModel" (some .boolean) 6 137) : ∀ (n : Nat) (x1 : Int32) (x2 : Int32) (x3 : Int32), f_Mo_isResting_l2 S n x1 x2 x3 = some z → G X V 4 (QI X V z S) 2 [some (.ref (V.2.2.1 0 0)), some (.int x1), some (.int x2), some (.int x3)] [] S := by
  intro n
  induction n with
  | zero =>
    intro x1 x2 x3 h
    have h : (none : Option (Int32)) = some z := h
    cases h
  | succ n ih =>
    intro x1 x2 x3 h
    exact w_Mo_isResting_b2 hV hC (f_Mo_isResting_l2 S n) ih x1 x2 x3 h
set_option maxRecDepth 20000 in
theorem w_Mo_isResting_b0 {X : CX} {V : WV} (hV : IsM V) {S : Mem} {z : Int32} (hC : Ck X V bc_Mo_isResting 4 "SecretWellsModel" (some .boolean) 6 137) (x1 : Int32) (x2 : Int32) (h : f_Mo_isResting_b0 S x1 x2 = some z) : G X V 4 (QI X V z S) 0 [some (.ref (V.2.2.1 0 0)), some (.int x1), some (.int x2), none] [] S := by
  unfold f_Mo_isResting_b0 at h
  refine g_iconst (pc := 0) hC kc_0 d_Mo_isResting_0 ?_
  refine s_istore_n (pc := 1) hC (i := 3) rfl (by decide) d_Mo_isResting_1 (lv2 := [some (.ref (V.2.2.1 0 0)), some (.int x1), some (.int x2), some (.int 0)]) rfl ?_
  exact w_Mo_isResting_l2 hV hC 5000 x1 x2 0 h
theorem c_Mo_isResting {V : WV} {l : Launch} (hV : IsM V) {x1 : Int32} {x2 : Int32} {S : Mem} {z : Int32} (h : f_Mo_isResting x1 x2 S = some z) : CI V l y_Mo_isResting bc_Mo_isResting 4 (some .boolean) 6 137 [.ref (V.2.2.1 0 0), .int x1, .int x2] S z S :=
  ct_i rfl (IsM.ok hV) (Nat.le_of_ble_eq_true rfl) (fun _ _ hC => w_Mo_isResting_b0 hV hC x1 x2 h)
def f_Mo_quiet_b28 (k28 : Int32 → Int32 → Int32 → Int32 → Mem → Option (Int32 × Mem)) (x1 : Int32) (x2 : Int32) (x3 : Int32) (x4 : Int32) (S : Mem) : Option (Int32 × Mem) :=
  gIn (S.1 0 18) 2 (
  if ((1 : Int32) <<< ((S.2.1 0 27 (S.1 0 18).toNatClampNeg) &&& 31)) ≤ x4 then
    if x2 = (-1) then
      some (x3, S)
    else
      some ((-1), S)
  else
    if (x4 &&& ((S.1 0 67) ^^^ (-1))) = 0 then
      Option.bind (f_Mo_isResting x1 x4 S) (fun q60 =>
      if q60 = 0 then
        k28 x1 x2 x3 (x4 + 1) S
      else
        if x3 = x2 then
          some (x4, S)
        else
          k28 x1 x2 (x3 + 1) (x4 + 1) S)
    else
      k28 x1 x2 x3 (x4 + 1) S)
def f_Mo_quiet_l28 : Nat → Int32 → Int32 → Int32 → Int32 → Mem → Option (Int32 × Mem)
  | 0 => fun _ _ _ _ _ => none
  | n + 1 => f_Mo_quiet_b28  (f_Mo_quiet_l28  n)
def f_Mo_quiet_b0 (x1 : Int32) (x2 : Int32) (S : Mem) : Option (Int32 × Mem) :=
  Option.bind (f_Mo_isWell x1 S) (fun q2 =>
  if q2 = 0 then
    some ((-1), S)
  else
    if (-1) ≤ x2 then
      Option.bind (f_Mo_copies S) (fun q16 =>
      Option.bind (f_Mo_fillsMay q16) (fun q20 =>
      f_Mo_quiet_l28 5000 x1 x2 0 0 q20))
    else
      some ((-1), S))
def f_Mo_quiet (x1 : Int32) (x2 : Int32) (S : Mem) : Option (Int32 × Mem) := f_Mo_quiet_b0  x1 x2 S
theorem d_Mo_quiet_0 : decode bc_Mo_quiet 0 = .ok (.aload_n 0, 1) := by decide +kernel
theorem d_Mo_quiet_1 : decode bc_Mo_quiet 1 = .ok (.iload_n 1, 1) := by decide +kernel
theorem d_Mo_quiet_2 : decode bc_Mo_quiet 2 = .ok (.invokevirtual 419, 3) := by decide +kernel
theorem d_Mo_quiet_5 : decode bc_Mo_quiet 5 = .ok (.ifCond .eq 8, 3) := by decide +kernel
theorem d_Mo_quiet_8 : decode bc_Mo_quiet 8 = .ok (.iload_n 2, 1) := by decide +kernel
theorem d_Mo_quiet_9 : decode bc_Mo_quiet 9 = .ok (.iconst (-1), 1) := by decide +kernel
theorem d_Mo_quiet_10 : decode bc_Mo_quiet 10 = .ok (.if_icmp .ge 5, 3) := by decide +kernel
theorem d_Mo_quiet_13 : decode bc_Mo_quiet 13 = .ok (.iconst (-1), 1) := by decide +kernel
theorem d_Mo_quiet_14 : decode bc_Mo_quiet 14 = .ok (.ireturn, 1) := by decide +kernel
theorem d_Mo_quiet_15 : decode bc_Mo_quiet 15 = .ok (.aload_n 0, 1) := by decide +kernel
theorem d_Mo_quiet_16 : decode bc_Mo_quiet 16 = .ok (.invokevirtual 422, 3) := by decide +kernel
theorem d_Mo_quiet_19 : decode bc_Mo_quiet 19 = .ok (.aload_n 0, 1) := by decide +kernel
theorem d_Mo_quiet_20 : decode bc_Mo_quiet 20 = .ok (.invokevirtual 480, 3) := by decide +kernel
theorem d_Mo_quiet_23 : decode bc_Mo_quiet 23 = .ok (.iconst 0, 1) := by decide +kernel
theorem d_Mo_quiet_24 : decode bc_Mo_quiet 24 = .ok (.istore_n 3, 1) := by decide +kernel
theorem d_Mo_quiet_25 : decode bc_Mo_quiet 25 = .ok (.iconst 0, 1) := by decide +kernel
theorem d_Mo_quiet_26 : decode bc_Mo_quiet 26 = .ok (.istore 4, 2) := by decide +kernel
theorem d_Mo_quiet_28 : decode bc_Mo_quiet 28 = .ok (.iload 4, 2) := by decide +kernel
theorem d_Mo_quiet_30 : decode bc_Mo_quiet 30 = .ok (.iconst 1, 1) := by decide +kernel
theorem d_Mo_quiet_31 : decode bc_Mo_quiet 31 = .ok (.aload_n 0, 1) := by decide +kernel
theorem d_Mo_quiet_32 : decode bc_Mo_quiet 32 = .ok (.getfield 58, 3) := by decide +kernel
theorem d_Mo_quiet_35 : decode bc_Mo_quiet 35 = .ok (.aload_n 0, 1) := by decide +kernel
theorem d_Mo_quiet_36 : decode bc_Mo_quiet 36 = .ok (.getfield 245, 3) := by decide +kernel
theorem d_Mo_quiet_39 : decode bc_Mo_quiet 39 = .ok (.iaload, 1) := by decide +kernel
theorem d_Mo_quiet_40 : decode bc_Mo_quiet 40 = .ok (.ishl, 1) := by decide +kernel
theorem d_Mo_quiet_41 : decode bc_Mo_quiet 41 = .ok (.if_icmp .ge 45, 3) := by decide +kernel
theorem d_Mo_quiet_44 : decode bc_Mo_quiet 44 = .ok (.iload 4, 2) := by decide +kernel
theorem d_Mo_quiet_46 : decode bc_Mo_quiet 46 = .ok (.aload_n 0, 1) := by decide +kernel
theorem d_Mo_quiet_47 : decode bc_Mo_quiet 47 = .ok (.getfield 474, 3) := by decide +kernel
theorem d_Mo_quiet_50 : decode bc_Mo_quiet 50 = .ok (.iconst (-1), 1) := by decide +kernel
theorem d_Mo_quiet_51 : decode bc_Mo_quiet 51 = .ok (.ixor, 1) := by decide +kernel
theorem d_Mo_quiet_52 : decode bc_Mo_quiet 52 = .ok (.iand, 1) := by decide +kernel
theorem d_Mo_quiet_53 : decode bc_Mo_quiet 53 = .ok (.ifCond .ne 27, 3) := by decide +kernel
theorem d_Mo_quiet_56 : decode bc_Mo_quiet 56 = .ok (.aload_n 0, 1) := by decide +kernel
theorem d_Mo_quiet_57 : decode bc_Mo_quiet 57 = .ok (.iload_n 1, 1) := by decide +kernel
theorem d_Mo_quiet_58 : decode bc_Mo_quiet 58 = .ok (.iload 4, 2) := by decide +kernel
theorem d_Mo_quiet_60 : decode bc_Mo_quiet 60 = .ok (.invokevirtual 483, 3) := by decide +kernel
theorem d_Mo_quiet_63 : decode bc_Mo_quiet 63 = .ok (.ifCond .ne 6, 3) := by decide +kernel
theorem d_Mo_quiet_66 : decode bc_Mo_quiet 66 = .ok (.goto 14, 3) := by decide +kernel
theorem d_Mo_quiet_69 : decode bc_Mo_quiet 69 = .ok (.iload_n 3, 1) := by decide +kernel
theorem d_Mo_quiet_70 : decode bc_Mo_quiet 70 = .ok (.iload_n 2, 1) := by decide +kernel
theorem d_Mo_quiet_71 : decode bc_Mo_quiet 71 = .ok (.if_icmp .ne 6, 3) := by decide +kernel
theorem d_Mo_quiet_74 : decode bc_Mo_quiet 74 = .ok (.iload 4, 2) := by decide +kernel
theorem d_Mo_quiet_76 : decode bc_Mo_quiet 76 = .ok (.ireturn, 1) := by decide +kernel
theorem d_Mo_quiet_77 : decode bc_Mo_quiet 77 = .ok (.iinc 3 1, 3) := by decide +kernel
theorem d_Mo_quiet_80 : decode bc_Mo_quiet 80 = .ok (.iinc 4 1, 3) := by decide +kernel
theorem d_Mo_quiet_83 : decode bc_Mo_quiet 83 = .ok (.goto (-55), 3) := by decide +kernel
theorem d_Mo_quiet_86 : decode bc_Mo_quiet 86 = .ok (.iload_n 2, 1) := by decide +kernel
theorem d_Mo_quiet_87 : decode bc_Mo_quiet 87 = .ok (.iconst (-1), 1) := by decide +kernel
theorem d_Mo_quiet_88 : decode bc_Mo_quiet 88 = .ok (.if_icmp .ne 7, 3) := by decide +kernel
theorem d_Mo_quiet_91 : decode bc_Mo_quiet 91 = .ok (.iload_n 3, 1) := by decide +kernel
theorem d_Mo_quiet_92 : decode bc_Mo_quiet 92 = .ok (.goto 4, 3) := by decide +kernel
theorem d_Mo_quiet_95 : decode bc_Mo_quiet 95 = .ok (.iconst (-1), 1) := by decide +kernel
theorem d_Mo_quiet_96 : decode bc_Mo_quiet 96 = .ok (.ireturn, 1) := by decide +kernel
set_option maxRecDepth 20000 in
theorem w_Mo_quiet_b28 {X : CX} {V : WV} (hV : IsM V) {z : Int32 × Mem} (hC : Ck X V bc_Mo_quiet 5 "SecretWellsModel" (some .int) 7 160) (k28 : Int32 → Int32 → Int32 → Int32 → Mem → Option (Int32 × Mem)) (hk28 : ∀ (x1 : Int32) (x2 : Int32) (x3 : Int32) (x4 : Int32) (S : Mem), k28 x1 x2 x3 x4 S = some z → G X V 5 (QI X V z.1 z.2) 28 [some (.ref (V.2.2.1 0 0)), some (.int x1), some (.int x2), some (.int x3), some (.int x4)] [] S) (x1 : Int32) (x2 : Int32) (x3 : Int32) (x4 : Int32) (S : Mem) (h : f_Mo_quiet_b28  k28 x1 x2 x3 x4 S = some z) : G X V 5 (QI X V z.1 z.2) 28 [some (.ref (V.2.2.1 0 0)), some (.int x1), some (.int x2), some (.int x3), some (.int x4)] [] S := by
  unfold f_Mo_quiet_b28 at h
  refine g_iload (pc := 28) hC (i := 4) (x := x4) rfl d_Mo_quiet_28 ?_
  refine g_iconst (pc := 30) hC kc_1 d_Mo_quiet_30 ?_
  refine g_aload_n (pc := 31) hC (i := 0) (x := (V.2.2.1 0 0)) rfl rfl d_Mo_quiet_31 ?_
  refine g_getA (pc := 32) hC fo_Mo_58 (ob_Mo hV) rfl d_Mo_quiet_32 ?_
  refine g_aload_n (pc := 35) hC (i := 0) (x := (V.2.2.1 0 0)) rfl rfl d_Mo_quiet_35 ?_
  refine g_getI (pc := 36) hC fo_Mo_245 (ob_Mo hV) rfl d_Mo_quiet_36 ?_
  refine g_iald (pc := 39) hC (ar_Mo_27 hV) d_Mo_quiet_39 h (fun h => ?_)
  refine g_ishl (pc := 40) hC d_Mo_quiet_40 ?_
  refine g_icmp_ge (pc := 41) hC (tgt := 86) (by decide) d_Mo_quiet_41 h (fun h => ?_) (fun h => ?_)
  · refine g_iload_n (pc := 86) hC (i := 2) (x := x2) rfl rfl d_Mo_quiet_86 ?_
    refine g_iconst (pc := 87) hC kc_m1 d_Mo_quiet_87 ?_
    refine g_icmp_ne (pc := 88) hC (tgt := 95) (by decide) d_Mo_quiet_88 h (fun h => ?_) (fun h => ?_)
    · refine g_iconst (pc := 95) hC kc_m1 d_Mo_quiet_95 ?_
      exact g_iW (pc := 96) hC rfl d_Mo_quiet_96 h
    · refine g_iload_n (pc := 91) hC (i := 3) (x := x3) rfl rfl d_Mo_quiet_91 ?_
      refine g_goto (pc := 92) hC (tgt := 96) (by decide) d_Mo_quiet_92 ?_
      exact g_iW (pc := 96) hC rfl d_Mo_quiet_96 h
  · refine g_iload (pc := 44) hC (i := 4) (x := x4) rfl d_Mo_quiet_44 ?_
    refine g_aload_n (pc := 46) hC (i := 0) (x := (V.2.2.1 0 0)) rfl rfl d_Mo_quiet_46 ?_
    refine g_getI (pc := 47) hC fo_Mo_474 (ob_Mo hV) rfl d_Mo_quiet_47 ?_
    refine g_iconst (pc := 50) hC kc_m1 d_Mo_quiet_50 ?_
    refine g_ixor (pc := 51) hC d_Mo_quiet_51 ?_
    refine g_iand (pc := 52) hC d_Mo_quiet_52 ?_
    refine g_if_ne (pc := 53) hC (tgt := 80) (by decide) d_Mo_quiet_53 h (fun h => ?_) (fun h => ?_)
    · refine s_iinc (pc := 80) hC (i := 4) (x := x4) (v := x4 + 1) rfl (by rw [kc_1]) (by decide) d_Mo_quiet_80 (lv2 := [some (.ref (V.2.2.1 0 0)), some (.int x1), some (.int x2), some (.int x3), some (.int (x4 + 1))]) rfl ?_
      refine g_goto (pc := 83) hC (tgt := 28) (by decide) d_Mo_quiet_83 ?_
      exact hk28 x1 x2 x3 (x4 + 1) S h
    · refine g_aload_n (pc := 56) hC (i := 0) (x := (V.2.2.1 0 0)) rfl rfl d_Mo_quiet_56 ?_
      refine g_iload_n (pc := 57) hC (i := 1) (x := x1) rfl rfl d_Mo_quiet_57 ?_
      refine g_iload (pc := 58) hC (i := 4) (x := x4) rfl d_Mo_quiet_58 ?_
      obtain ⟨q60, hq60, h⟩ := Option.bind_eq_some_iff.mp h
      refine g_vi (pc := 60) hC (As := [.int x1, .int x4]) (st := []) mt_Mo_isResting lk_Mo_483 rfl (ob_Mo hV) (Nat.le_of_ble_eq_true rfl) ⟨Nat.le_of_ble_eq_true rfl, Nat.le_of_ble_eq_true rfl⟩ rfl d_Mo_quiet_60 (c_Mo_isResting hV hq60) ?_
      refine g_if_ne (pc := 63) hC (tgt := 69) (by decide) d_Mo_quiet_63 h (fun h => ?_) (fun h => ?_)
      · refine g_iload_n (pc := 69) hC (i := 3) (x := x3) rfl rfl d_Mo_quiet_69 ?_
        refine g_iload_n (pc := 70) hC (i := 2) (x := x2) rfl rfl d_Mo_quiet_70 ?_
        refine g_icmp_ne (pc := 71) hC (tgt := 77) (by decide) d_Mo_quiet_71 h (fun h => ?_) (fun h => ?_)
        · refine s_iinc (pc := 77) hC (i := 3) (x := x3) (v := x3 + 1) rfl (by rw [kc_1]) (by decide) d_Mo_quiet_77 (lv2 := [some (.ref (V.2.2.1 0 0)), some (.int x1), some (.int x2), some (.int (x3 + 1)), some (.int x4)]) rfl ?_
          refine s_iinc (pc := 80) hC (i := 4) (x := x4) (v := x4 + 1) rfl (by rw [kc_1]) (by decide) d_Mo_quiet_80 (lv2 := [some (.ref (V.2.2.1 0 0)), some (.int x1), some (.int x2), some (.int (x3 + 1)), some (.int (x4 + 1))]) rfl ?_
          refine g_goto (pc := 83) hC (tgt := 28) (by decide) d_Mo_quiet_83 ?_
          exact hk28 x1 x2 (x3 + 1) (x4 + 1) S h
        · refine g_iload (pc := 74) hC (i := 4) (x := x4) rfl d_Mo_quiet_74 ?_
          exact g_iW (pc := 76) hC rfl d_Mo_quiet_76 h
      · refine g_goto (pc := 66) hC (tgt := 80) (by decide) d_Mo_quiet_66 ?_
        refine s_iinc (pc := 80) hC (i := 4) (x := x4) (v := x4 + 1) rfl (by rw [kc_1]) (by decide) d_Mo_quiet_80 (lv2 := [some (.ref (V.2.2.1 0 0)), some (.int x1), some (.int x2), some (.int x3), some (.int (x4 + 1))]) rfl ?_
        refine g_goto (pc := 83) hC (tgt := 28) (by decide) d_Mo_quiet_83 ?_
        exact hk28 x1 x2 x3 (x4 + 1) S h
theorem w_Mo_quiet_l28 {X : CX} {V : WV} (hV : IsM V) {z : Int32 × Mem} (hC : Ck X V bc_Mo_quiet 5 "SecretWellsModel" (some .int) 7 160) : ∀ (n : Nat) (x1 : Int32) (x2 : Int32) (x3 : Int32) (x4 : Int32) (S : Mem), f_Mo_quiet_l28  n x1 x2 x3 x4 S = some z → G X V 5 (QI X V z.1 z.2) 28 [some (.ref (V.2.2.1 0 0)), some (.int x1), some (.int x2), some (.int x3), some (.int x4)] [] S := by
  intro n
  induction n with
  | zero =>
    intro x1 x2 x3 x4 S h
    have h : (none : Option (Int32 × Mem)) = some z := h
    cases h
  | succ n ih =>
    intro x1 x2 x3 x4 S h
    exact w_Mo_quiet_b28 hV hC (f_Mo_quiet_l28  n) ih x1 x2 x3 x4 S h
set_option maxRecDepth 20000 in
theorem w_Mo_quiet_b0 {X : CX} {V : WV} (hV : IsM V) {z : Int32 × Mem} (hC : Ck X V bc_Mo_quiet 5 "SecretWellsModel" (some .int) 7 160) (x1 : Int32) (x2 : Int32) (S : Mem) (h : f_Mo_quiet_b0  x1 x2 S = some z) : G X V 5 (QI X V z.1 z.2) 0 [some (.ref (V.2.2.1 0 0)), some (.int x1), some (.int x2), none, none] [] S := by
  unfold f_Mo_quiet_b0 at h
  refine g_aload_n (pc := 0) hC (i := 0) (x := (V.2.2.1 0 0)) rfl rfl d_Mo_quiet_0 ?_
  refine g_iload_n (pc := 1) hC (i := 1) (x := x1) rfl rfl d_Mo_quiet_1 ?_
  obtain ⟨q2, hq2, h⟩ := Option.bind_eq_some_iff.mp h
  refine g_vi (pc := 2) hC (As := [.int x1]) (st := []) mt_Mo_isWell lk_Mo_419 rfl (ob_Mo hV) (Nat.le_of_ble_eq_true rfl) ⟨Nat.le_of_ble_eq_true rfl, Nat.le_of_ble_eq_true rfl⟩ rfl d_Mo_quiet_2 (c_Mo_isWell hV hq2) ?_
  refine g_if_eq (pc := 5) hC (tgt := 13) (by decide) d_Mo_quiet_5 h (fun h => ?_) (fun h => ?_)
  · refine g_iconst (pc := 13) hC kc_m1 d_Mo_quiet_13 ?_
    exact g_iW (pc := 14) hC rfl d_Mo_quiet_14 h
  · refine g_iload_n (pc := 8) hC (i := 2) (x := x2) rfl rfl d_Mo_quiet_8 ?_
    refine g_iconst (pc := 9) hC kc_m1 d_Mo_quiet_9 ?_
    refine g_icmp_ge (pc := 10) hC (tgt := 15) (by decide) d_Mo_quiet_10 h (fun h => ?_) (fun h => ?_)
    · refine g_aload_n (pc := 15) hC (i := 0) (x := (V.2.2.1 0 0)) rfl rfl d_Mo_quiet_15 ?_
      obtain ⟨q16, hq16, h⟩ := Option.bind_eq_some_iff.mp h
      refine g_vv (pc := 16) hC (As := []) (st := []) mt_Mo_copies lk_Mo_422 rfl (ob_Mo hV) (Nat.le_of_ble_eq_true rfl) ⟨Nat.le_of_ble_eq_true rfl, Nat.le_of_ble_eq_true rfl⟩ rfl d_Mo_quiet_16 (c_Mo_copies hV hq16) ?_
      refine g_aload_n (pc := 19) hC (i := 0) (x := (V.2.2.1 0 0)) rfl rfl d_Mo_quiet_19 ?_
      obtain ⟨q20, hq20, h⟩ := Option.bind_eq_some_iff.mp h
      refine g_vv (pc := 20) hC (As := []) (st := []) mt_Mo_fillsMay lk_Mo_480 rfl (ob_Mo hV) (Nat.le_of_ble_eq_true rfl) ⟨Nat.le_of_ble_eq_true rfl, Nat.le_of_ble_eq_true rfl⟩ rfl d_Mo_quiet_20 (c_Mo_fillsMay hV hq20) ?_
      refine g_iconst (pc := 23) hC kc_0 d_Mo_quiet_23 ?_
      refine s_istore_n (pc := 24) hC (i := 3) rfl (by decide) d_Mo_quiet_24 (lv2 := [some (.ref (V.2.2.1 0 0)), some (.int x1), some (.int x2), some (.int 0), none]) rfl ?_
      refine g_iconst (pc := 25) hC kc_0 d_Mo_quiet_25 ?_
      refine s_istore (pc := 26) hC (i := 4) (by decide) d_Mo_quiet_26 (lv2 := [some (.ref (V.2.2.1 0 0)), some (.int x1), some (.int x2), some (.int 0), some (.int 0)]) rfl ?_
      exact w_Mo_quiet_l28 hV hC 5000 x1 x2 0 0 q20 h
    · refine g_iconst (pc := 13) hC kc_m1 d_Mo_quiet_13 ?_
      exact g_iW (pc := 14) hC rfl d_Mo_quiet_14 h
theorem c_Mo_quiet {V : WV} {l : Launch} (hV : IsM V) {x1 : Int32} {x2 : Int32} {S : Mem} {z : Int32 × Mem} (h : f_Mo_quiet x1 x2 S = some z) : CI V l y_Mo_quiet bc_Mo_quiet 5 (some .int) 7 160 [.ref (V.2.2.1 0 0), .int x1, .int x2] S z.1 z.2 :=
  ct_i rfl (IsM.ok hV) (Nat.le_of_ble_eq_true rfl) (fun _ _ hC => w_Mo_quiet_b0 hV hC x1 x2 S h)
def f_Mo_areMany_b0 (x0 : Int32) (x1 : Int32) : Option (Int32) :=
  Option.bind (f_Mo_in x0 0 100) (fun q4 =>
  if q4 = 0 then
    some 0
  else
    Option.bind (f_Mo_in x1 1 20) (fun q14 =>
    if q14 = 0 then
      some 0
    else
      some 1))
def f_Mo_areMany (x0 : Int32) (x1 : Int32) : Option (Int32) := f_Mo_areMany_b0  x0 x1
theorem d_Mo_areMany_0 : decode bc_Mo_areMany 0 = .ok (.iload_n 0, 1) := by decide +kernel
theorem d_Mo_areMany_1 : decode bc_Mo_areMany 1 = .ok (.iconst 0, 1) := by decide +kernel
theorem d_Mo_areMany_2 : decode bc_Mo_areMany 2 = .ok (.bipush 100, 2) := by decide +kernel
theorem d_Mo_areMany_4 : decode bc_Mo_areMany 4 = .ok (.invokestatic 332, 3) := by decide +kernel
theorem d_Mo_areMany_7 : decode bc_Mo_areMany 7 = .ok (.ifCond .eq 17, 3) := by decide +kernel
theorem d_Mo_areMany_10 : decode bc_Mo_areMany 10 = .ok (.iload_n 1, 1) := by decide +kernel
theorem d_Mo_areMany_11 : decode bc_Mo_areMany 11 = .ok (.iconst 1, 1) := by decide +kernel
theorem d_Mo_areMany_12 : decode bc_Mo_areMany 12 = .ok (.bipush 20, 2) := by decide +kernel
theorem d_Mo_areMany_14 : decode bc_Mo_areMany 14 = .ok (.invokestatic 332, 3) := by decide +kernel
theorem d_Mo_areMany_17 : decode bc_Mo_areMany 17 = .ok (.ifCond .eq 7, 3) := by decide +kernel
theorem d_Mo_areMany_20 : decode bc_Mo_areMany 20 = .ok (.iconst 1, 1) := by decide +kernel
theorem d_Mo_areMany_21 : decode bc_Mo_areMany 21 = .ok (.goto 4, 3) := by decide +kernel
theorem d_Mo_areMany_24 : decode bc_Mo_areMany 24 = .ok (.iconst 0, 1) := by decide +kernel
theorem d_Mo_areMany_25 : decode bc_Mo_areMany 25 = .ok (.ireturn, 1) := by decide +kernel
set_option maxRecDepth 20000 in
theorem w_Mo_areMany_b0 {X : CX} {V : WV} (hVO : VOk V) {S : Mem} {z : Int32} (hC : Ck X V bc_Mo_areMany 2 "SecretWellsModel" (some .boolean) 1 22) (x0 : Int32) (x1 : Int32) (h : f_Mo_areMany_b0  x0 x1 = some z) : G X V 2 (QI X V z S) 0 [some (.int x0), some (.int x1)] [] S := by
  unfold f_Mo_areMany_b0 at h
  refine g_iload_n (pc := 0) hC (i := 0) (x := x0) rfl rfl d_Mo_areMany_0 ?_
  refine g_iconst (pc := 1) hC kc_0 d_Mo_areMany_1 ?_
  refine g_bipush (pc := 2) hC kb_100 d_Mo_areMany_2 ?_
  obtain ⟨q4, hq4, h⟩ := Option.bind_eq_some_iff.mp h
  refine g_si (pc := 4) hC (As := [.int x0, .int 0, .int 100]) (st := []) mt_Mo_in lk_Mo_332 (Nat.le_of_ble_eq_true rfl) ⟨Nat.le_of_ble_eq_true rfl, Nat.le_of_ble_eq_true rfl⟩ rfl d_Mo_areMany_4 (c_Mo_in hVO hq4) ?_
  refine g_if_eq (pc := 7) hC (tgt := 24) (by decide) d_Mo_areMany_7 h (fun h => ?_) (fun h => ?_)
  · refine g_iconst (pc := 24) hC kc_0 d_Mo_areMany_24 ?_
    exact g_iN (pc := 25) hC rfl d_Mo_areMany_25 h
  · refine g_iload_n (pc := 10) hC (i := 1) (x := x1) rfl rfl d_Mo_areMany_10 ?_
    refine g_iconst (pc := 11) hC kc_1 d_Mo_areMany_11 ?_
    refine g_bipush (pc := 12) hC kb_20 d_Mo_areMany_12 ?_
    obtain ⟨q14, hq14, h⟩ := Option.bind_eq_some_iff.mp h
    refine g_si (pc := 14) hC (As := [.int x1, .int 1, .int 20]) (st := []) mt_Mo_in lk_Mo_332 (Nat.le_of_ble_eq_true rfl) ⟨Nat.le_of_ble_eq_true rfl, Nat.le_of_ble_eq_true rfl⟩ rfl d_Mo_areMany_14 (c_Mo_in hVO hq14) ?_
    refine g_if_eq (pc := 17) hC (tgt := 24) (by decide) d_Mo_areMany_17 h (fun h => ?_) (fun h => ?_)
    · refine g_iconst (pc := 24) hC kc_0 d_Mo_areMany_24 ?_
      exact g_iN (pc := 25) hC rfl d_Mo_areMany_25 h
    · refine g_iconst (pc := 20) hC kc_1 d_Mo_areMany_20 ?_
      refine g_goto (pc := 21) hC (tgt := 25) (by decide) d_Mo_areMany_21 ?_
      exact g_iN (pc := 25) hC rfl d_Mo_areMany_25 h
theorem c_Mo_areMany {V : WV} {l : Launch} (hVO : VOk V) {x0 : Int32} {x1 : Int32} {S : Mem} {z : Int32} (h : f_Mo_areMany x0 x1 = some z) : CI V l y_Mo_areMany bc_Mo_areMany 2 (some .boolean) 1 22 [.int x0, .int x1] S z S :=
  ct_i rfl hVO (Nat.le_of_ble_eq_true rfl) (fun _ _ hC => w_Mo_areMany_b0 hVO hC x0 x1 h)
def f_Mo_goesBy_b0 (x1 : Int32) (x2 : Int32) (S : Mem) : Option (Mem) :=
  Option.bind (f_Mo_copies S) (fun q1 =>
  letS (pI q1 0 58 ((q1.1 0 58) + x1)) (fun S11 =>
  Option.bind (f_Mo_goes x2 S11) (fun q16 =>
  some q16)))
def f_Mo_goesBy (x1 : Int32) (x2 : Int32) (S : Mem) : Option (Mem) := f_Mo_goesBy_b0  x1 x2 S
theorem d_Mo_goesBy_0 : decode bc_Mo_goesBy 0 = .ok (.aload_n 0, 1) := by decide +kernel
theorem d_Mo_goesBy_1 : decode bc_Mo_goesBy 1 = .ok (.invokevirtual 422, 3) := by decide +kernel
theorem d_Mo_goesBy_4 : decode bc_Mo_goesBy 4 = .ok (.aload_n 0, 1) := by decide +kernel
theorem d_Mo_goesBy_5 : decode bc_Mo_goesBy 5 = .ok (.dup, 1) := by decide +kernel
theorem d_Mo_goesBy_6 : decode bc_Mo_goesBy 6 = .ok (.getfield 336, 3) := by decide +kernel
theorem d_Mo_goesBy_9 : decode bc_Mo_goesBy 9 = .ok (.iload_n 1, 1) := by decide +kernel
theorem d_Mo_goesBy_10 : decode bc_Mo_goesBy 10 = .ok (.iadd, 1) := by decide +kernel
theorem d_Mo_goesBy_11 : decode bc_Mo_goesBy 11 = .ok (.putfield 336, 3) := by decide +kernel
theorem d_Mo_goesBy_14 : decode bc_Mo_goesBy 14 = .ok (.aload_n 0, 1) := by decide +kernel
theorem d_Mo_goesBy_15 : decode bc_Mo_goesBy 15 = .ok (.iload_n 2, 1) := by decide +kernel
theorem d_Mo_goesBy_16 : decode bc_Mo_goesBy 16 = .ok (.invokevirtual 431, 3) := by decide +kernel
theorem d_Mo_goesBy_19 : decode bc_Mo_goesBy 19 = .ok (.return_, 1) := by decide +kernel
set_option maxRecDepth 20000 in
theorem w_Mo_goesBy_b0 {X : CX} {V : WV} (hV : IsM V) {z : Mem} (hC : Ck X V bc_Mo_goesBy 3 "SecretWellsModel" none 11 243) (x1 : Int32) (x2 : Int32) (S : Mem) (h : f_Mo_goesBy_b0  x1 x2 S = some z) : G X V 3 (QV X V z) 0 [some (.ref (V.2.2.1 0 0)), some (.int x1), some (.int x2)] [] S := by
  unfold f_Mo_goesBy_b0 at h
  refine g_aload_n (pc := 0) hC (i := 0) (x := (V.2.2.1 0 0)) rfl rfl d_Mo_goesBy_0 ?_
  obtain ⟨q1, hq1, h⟩ := Option.bind_eq_some_iff.mp h
  refine g_vv (pc := 1) hC (As := []) (st := []) mt_Mo_copies lk_Mo_422 rfl (ob_Mo hV) (Nat.le_of_ble_eq_true rfl) ⟨Nat.le_of_ble_eq_true rfl, Nat.le_of_ble_eq_true rfl⟩ rfl d_Mo_goesBy_1 (c_Mo_copies hV hq1) ?_
  refine g_aload_n (pc := 4) hC (i := 0) (x := (V.2.2.1 0 0)) rfl rfl d_Mo_goesBy_4 ?_
  refine g_dup (pc := 5) hC rfl d_Mo_goesBy_5 ?_
  refine g_getI (pc := 6) hC fo_Mo_336 (ob_Mo hV) rfl d_Mo_goesBy_6 ?_
  refine g_iload_n (pc := 9) hC (i := 1) (x := x1) rfl rfl d_Mo_goesBy_9 ?_
  refine g_iadd (pc := 10) hC d_Mo_goesBy_10 ?_
  refine g_putI (pc := 11) hC po_Mo_336 (ob_Mo hV) rfl rfl rfl d_Mo_goesBy_11 ?_
  refine g_letS h (fun S11 h => ?_)
  refine g_aload_n (pc := 14) hC (i := 0) (x := (V.2.2.1 0 0)) rfl rfl d_Mo_goesBy_14 ?_
  refine g_iload_n (pc := 15) hC (i := 2) (x := x2) rfl rfl d_Mo_goesBy_15 ?_
  obtain ⟨q16, hq16, h⟩ := Option.bind_eq_some_iff.mp h
  refine g_vv (pc := 16) hC (As := [.int x2]) (st := []) mt_Mo_goes lk_Mo_431 rfl (ob_Mo hV) (Nat.le_of_ble_eq_true rfl) ⟨Nat.le_of_ble_eq_true rfl, Nat.le_of_ble_eq_true rfl⟩ rfl d_Mo_goesBy_16 (c_Mo_goes hV hq16) ?_
  exact g_vW (pc := 19) hC d_Mo_goesBy_19 h
theorem c_Mo_goesBy {V : WV} {l : Launch} (hV : IsM V) {x1 : Int32} {x2 : Int32} {S : Mem} {z : Mem} (h : f_Mo_goesBy x1 x2 S = some z) : CV V l y_Mo_goesBy bc_Mo_goesBy 3 none 11 243 [.ref (V.2.2.1 0 0), .int x1, .int x2] S z :=
  ct_v rfl (IsM.ok hV) (Nat.le_of_ble_eq_true rfl) (fun _ _ hC => w_Mo_goesBy_b0 hV hC x1 x2 S h)
def f_Mo_odds_b33 (k33 : Int32 → Int32 → Int32 → Int32 → Int32 → Int32 → Mem → Option (Int32 × Mem)) (x1 : Int32) (x2 : Int32) (x3 : Int32) (x4 : Int32) (x5 : Int32) (x6 : Int32) (S : Mem) : Option (Int32 × Mem) :=
  if x4 ≤ x6 then
    some (x5, S)
  else
    Option.bind (f_Mo_goesBy x6 x3 S) (fun q44 =>
    Option.bind (f_Mo_knows x1 x2 q44) (fun q50 =>
    if q50 = 0 then
      k33 x1 x2 x3 x4 x5 (x6 + 1) q44
    else
      k33 x1 x2 x3 x4 (x5 + 1) (x6 + 1) q44))
def f_Mo_odds_l33 : Nat → Int32 → Int32 → Int32 → Int32 → Int32 → Int32 → Mem → Option (Int32 × Mem)
  | 0 => fun _ _ _ _ _ _ _ => none
  | n + 1 => f_Mo_odds_b33  (f_Mo_odds_l33  n)
def f_Mo_odds_b0 (x1 : Int32) (x2 : Int32) (x3 : Int32) (x4 : Int32) (S : Mem) : Option (Int32 × Mem) :=
  Option.bind (f_Mo_isMan x1 S) (fun q2 =>
  if q2 = 0 then
    some ((-1), S)
  else
    Option.bind (f_Mo_isSecret x2 S) (fun q10 =>
    if q10 = 0 then
      some ((-1), S)
    else
      Option.bind (f_Mo_areMany x3 x4) (fun q19 =>
      if q19 = 0 then
        some ((-1), S)
      else
        f_Mo_odds_l33 5000 x1 x2 x3 x4 0 0 S)))
def f_Mo_odds (x1 : Int32) (x2 : Int32) (x3 : Int32) (x4 : Int32) (S : Mem) : Option (Int32 × Mem) := f_Mo_odds_b0  x1 x2 x3 x4 S
theorem d_Mo_odds_0 : decode bc_Mo_odds 0 = .ok (.aload_n 0, 1) := by decide +kernel
theorem d_Mo_odds_1 : decode bc_Mo_odds 1 = .ok (.iload_n 1, 1) := by decide +kernel
theorem d_Mo_odds_2 : decode bc_Mo_odds 2 = .ok (.invokevirtual 425, 3) := by decide +kernel
theorem d_Mo_odds_5 : decode bc_Mo_odds 5 = .ok (.ifCond .eq 20, 3) := by decide +kernel
theorem d_Mo_odds_8 : decode bc_Mo_odds 8 = .ok (.aload_n 0, 1) := by decide +kernel
theorem d_Mo_odds_9 : decode bc_Mo_odds 9 = .ok (.iload_n 2, 1) := by decide +kernel
theorem d_Mo_odds_10 : decode bc_Mo_odds 10 = .ok (.invokevirtual 428, 3) := by decide +kernel
theorem d_Mo_odds_13 : decode bc_Mo_odds 13 = .ok (.ifCond .eq 12, 3) := by decide +kernel
theorem d_Mo_odds_16 : decode bc_Mo_odds 16 = .ok (.iload_n 3, 1) := by decide +kernel
theorem d_Mo_odds_17 : decode bc_Mo_odds 17 = .ok (.iload 4, 2) := by decide +kernel
theorem d_Mo_odds_19 : decode bc_Mo_odds 19 = .ok (.invokestatic 486, 3) := by decide +kernel
theorem d_Mo_odds_22 : decode bc_Mo_odds 22 = .ok (.ifCond .ne 5, 3) := by decide +kernel
theorem d_Mo_odds_25 : decode bc_Mo_odds 25 = .ok (.iconst (-1), 1) := by decide +kernel
theorem d_Mo_odds_26 : decode bc_Mo_odds 26 = .ok (.ireturn, 1) := by decide +kernel
theorem d_Mo_odds_27 : decode bc_Mo_odds 27 = .ok (.iconst 0, 1) := by decide +kernel
theorem d_Mo_odds_28 : decode bc_Mo_odds 28 = .ok (.istore 5, 2) := by decide +kernel
theorem d_Mo_odds_30 : decode bc_Mo_odds 30 = .ok (.iconst 0, 1) := by decide +kernel
theorem d_Mo_odds_31 : decode bc_Mo_odds 31 = .ok (.istore 6, 2) := by decide +kernel
theorem d_Mo_odds_33 : decode bc_Mo_odds 33 = .ok (.iload 6, 2) := by decide +kernel
theorem d_Mo_odds_35 : decode bc_Mo_odds 35 = .ok (.iload 4, 2) := by decide +kernel
theorem d_Mo_odds_37 : decode bc_Mo_odds 37 = .ok (.if_icmp .ge 28, 3) := by decide +kernel
theorem d_Mo_odds_40 : decode bc_Mo_odds 40 = .ok (.aload_n 0, 1) := by decide +kernel
theorem d_Mo_odds_41 : decode bc_Mo_odds 41 = .ok (.iload 6, 2) := by decide +kernel
theorem d_Mo_odds_43 : decode bc_Mo_odds 43 = .ok (.iload_n 3, 1) := by decide +kernel
theorem d_Mo_odds_44 : decode bc_Mo_odds 44 = .ok (.invokevirtual 489, 3) := by decide +kernel
theorem d_Mo_odds_47 : decode bc_Mo_odds 47 = .ok (.aload_n 0, 1) := by decide +kernel
theorem d_Mo_odds_48 : decode bc_Mo_odds 48 = .ok (.iload_n 1, 1) := by decide +kernel
theorem d_Mo_odds_49 : decode bc_Mo_odds 49 = .ok (.iload_n 2, 1) := by decide +kernel
theorem d_Mo_odds_50 : decode bc_Mo_odds 50 = .ok (.invokevirtual 342, 3) := by decide +kernel
theorem d_Mo_odds_53 : decode bc_Mo_odds 53 = .ok (.ifCond .eq 6, 3) := by decide +kernel
theorem d_Mo_odds_56 : decode bc_Mo_odds 56 = .ok (.iinc 5 1, 3) := by decide +kernel
theorem d_Mo_odds_59 : decode bc_Mo_odds 59 = .ok (.iinc 6 1, 3) := by decide +kernel
theorem d_Mo_odds_62 : decode bc_Mo_odds 62 = .ok (.goto (-29), 3) := by decide +kernel
theorem d_Mo_odds_65 : decode bc_Mo_odds 65 = .ok (.iload 5, 2) := by decide +kernel
theorem d_Mo_odds_67 : decode bc_Mo_odds 67 = .ok (.ireturn, 1) := by decide +kernel
set_option maxRecDepth 20000 in
theorem w_Mo_odds_b33 {X : CX} {V : WV} (hV : IsM V) {z : Int32 × Mem} (hC : Ck X V bc_Mo_odds 7 "SecretWellsModel" (some .int) 12 265) (k33 : Int32 → Int32 → Int32 → Int32 → Int32 → Int32 → Mem → Option (Int32 × Mem)) (hk33 : ∀ (x1 : Int32) (x2 : Int32) (x3 : Int32) (x4 : Int32) (x5 : Int32) (x6 : Int32) (S : Mem), k33 x1 x2 x3 x4 x5 x6 S = some z → G X V 7 (QI X V z.1 z.2) 33 [some (.ref (V.2.2.1 0 0)), some (.int x1), some (.int x2), some (.int x3), some (.int x4), some (.int x5), some (.int x6)] [] S) (x1 : Int32) (x2 : Int32) (x3 : Int32) (x4 : Int32) (x5 : Int32) (x6 : Int32) (S : Mem) (h : f_Mo_odds_b33  k33 x1 x2 x3 x4 x5 x6 S = some z) : G X V 7 (QI X V z.1 z.2) 33 [some (.ref (V.2.2.1 0 0)), some (.int x1), some (.int x2), some (.int x3), some (.int x4), some (.int x5), some (.int x6)] [] S := by
  unfold f_Mo_odds_b33 at h
  refine g_iload (pc := 33) hC (i := 6) (x := x6) rfl d_Mo_odds_33 ?_
  refine g_iload (pc := 35) hC (i := 4) (x := x4) rfl d_Mo_odds_35 ?_
  refine g_icmp_ge (pc := 37) hC (tgt := 65) (by decide) d_Mo_odds_37 h (fun h => ?_) (fun h => ?_)
  · refine g_iload (pc := 65) hC (i := 5) (x := x5) rfl d_Mo_odds_65 ?_
    exact g_iW (pc := 67) hC rfl d_Mo_odds_67 h
  · refine g_aload_n (pc := 40) hC (i := 0) (x := (V.2.2.1 0 0)) rfl rfl d_Mo_odds_40 ?_
    refine g_iload (pc := 41) hC (i := 6) (x := x6) rfl d_Mo_odds_41 ?_
    refine g_iload_n (pc := 43) hC (i := 3) (x := x3) rfl rfl d_Mo_odds_43 ?_
    obtain ⟨q44, hq44, h⟩ := Option.bind_eq_some_iff.mp h
    refine g_vv (pc := 44) hC (As := [.int x6, .int x3]) (st := []) mt_Mo_goesBy lk_Mo_489 rfl (ob_Mo hV) (Nat.le_of_ble_eq_true rfl) ⟨Nat.le_of_ble_eq_true rfl, Nat.le_of_ble_eq_true rfl⟩ rfl d_Mo_odds_44 (c_Mo_goesBy hV hq44) ?_
    refine g_aload_n (pc := 47) hC (i := 0) (x := (V.2.2.1 0 0)) rfl rfl d_Mo_odds_47 ?_
    refine g_iload_n (pc := 48) hC (i := 1) (x := x1) rfl rfl d_Mo_odds_48 ?_
    refine g_iload_n (pc := 49) hC (i := 2) (x := x2) rfl rfl d_Mo_odds_49 ?_
    obtain ⟨q50, hq50, h⟩ := Option.bind_eq_some_iff.mp h
    refine g_vi (pc := 50) hC (As := [.int x1, .int x2]) (st := []) mt_Mo_knows lk_Mo_342 rfl (ob_Mo hV) (Nat.le_of_ble_eq_true rfl) ⟨Nat.le_of_ble_eq_true rfl, Nat.le_of_ble_eq_true rfl⟩ rfl d_Mo_odds_50 (c_Mo_knows hV hq50) ?_
    refine g_if_eq (pc := 53) hC (tgt := 59) (by decide) d_Mo_odds_53 h (fun h => ?_) (fun h => ?_)
    · refine s_iinc (pc := 59) hC (i := 6) (x := x6) (v := x6 + 1) rfl (by rw [kc_1]) (by decide) d_Mo_odds_59 (lv2 := [some (.ref (V.2.2.1 0 0)), some (.int x1), some (.int x2), some (.int x3), some (.int x4), some (.int x5), some (.int (x6 + 1))]) rfl ?_
      refine g_goto (pc := 62) hC (tgt := 33) (by decide) d_Mo_odds_62 ?_
      exact hk33 x1 x2 x3 x4 x5 (x6 + 1) q44 h
    · refine s_iinc (pc := 56) hC (i := 5) (x := x5) (v := x5 + 1) rfl (by rw [kc_1]) (by decide) d_Mo_odds_56 (lv2 := [some (.ref (V.2.2.1 0 0)), some (.int x1), some (.int x2), some (.int x3), some (.int x4), some (.int (x5 + 1)), some (.int x6)]) rfl ?_
      refine s_iinc (pc := 59) hC (i := 6) (x := x6) (v := x6 + 1) rfl (by rw [kc_1]) (by decide) d_Mo_odds_59 (lv2 := [some (.ref (V.2.2.1 0 0)), some (.int x1), some (.int x2), some (.int x3), some (.int x4), some (.int (x5 + 1)), some (.int (x6 + 1))]) rfl ?_
      refine g_goto (pc := 62) hC (tgt := 33) (by decide) d_Mo_odds_62 ?_
      exact hk33 x1 x2 x3 x4 (x5 + 1) (x6 + 1) q44 h
theorem w_Mo_odds_l33 {X : CX} {V : WV} (hV : IsM V) {z : Int32 × Mem} (hC : Ck X V bc_Mo_odds 7 "SecretWellsModel" (some .int) 12 265) : ∀ (n : Nat) (x1 : Int32) (x2 : Int32) (x3 : Int32) (x4 : Int32) (x5 : Int32) (x6 : Int32) (S : Mem), f_Mo_odds_l33  n x1 x2 x3 x4 x5 x6 S = some z → G X V 7 (QI X V z.1 z.2) 33 [some (.ref (V.2.2.1 0 0)), some (.int x1), some (.int x2), some (.int x3), some (.int x4), some (.int x5), some (.int x6)] [] S := by
  intro n
  induction n with
  | zero =>
    intro x1 x2 x3 x4 x5 x6 S h
    have h : (none : Option (Int32 × Mem)) = some z := h
    cases h
  | succ n ih =>
    intro x1 x2 x3 x4 x5 x6 S h
    exact w_Mo_odds_b33 hV hC (f_Mo_odds_l33  n) ih x1 x2 x3 x4 x5 x6 S h
set_option maxRecDepth 20000 in
theorem w_Mo_odds_b0 {X : CX} {V : WV} (hV : IsM V) {z : Int32 × Mem} (hC : Ck X V bc_Mo_odds 7 "SecretWellsModel" (some .int) 12 265) (x1 : Int32) (x2 : Int32) (x3 : Int32) (x4 : Int32) (S : Mem) (h : f_Mo_odds_b0  x1 x2 x3 x4 S = some z) : G X V 7 (QI X V z.1 z.2) 0 [some (.ref (V.2.2.1 0 0)), some (.int x1), some (.int x2), some (.int x3), some (.int x4), none, none] [] S := by
  unfold f_Mo_odds_b0 at h
  refine g_aload_n (pc := 0) hC (i := 0) (x := (V.2.2.1 0 0)) rfl rfl d_Mo_odds_0 ?_
  refine g_iload_n (pc := 1) hC (i := 1) (x := x1) rfl rfl d_Mo_odds_1 ?_
  obtain ⟨q2, hq2, h⟩ := Option.bind_eq_some_iff.mp h
  refine g_vi (pc := 2) hC (As := [.int x1]) (st := []) mt_Mo_isMan lk_Mo_425 rfl (ob_Mo hV) (Nat.le_of_ble_eq_true rfl) ⟨Nat.le_of_ble_eq_true rfl, Nat.le_of_ble_eq_true rfl⟩ rfl d_Mo_odds_2 (c_Mo_isMan hV hq2) ?_
  refine g_if_eq (pc := 5) hC (tgt := 25) (by decide) d_Mo_odds_5 h (fun h => ?_) (fun h => ?_)
  · refine g_iconst (pc := 25) hC kc_m1 d_Mo_odds_25 ?_
    exact g_iW (pc := 26) hC rfl d_Mo_odds_26 h
  · refine g_aload_n (pc := 8) hC (i := 0) (x := (V.2.2.1 0 0)) rfl rfl d_Mo_odds_8 ?_
    refine g_iload_n (pc := 9) hC (i := 2) (x := x2) rfl rfl d_Mo_odds_9 ?_
    obtain ⟨q10, hq10, h⟩ := Option.bind_eq_some_iff.mp h
    refine g_vi (pc := 10) hC (As := [.int x2]) (st := []) mt_Mo_isSecret lk_Mo_428 rfl (ob_Mo hV) (Nat.le_of_ble_eq_true rfl) ⟨Nat.le_of_ble_eq_true rfl, Nat.le_of_ble_eq_true rfl⟩ rfl d_Mo_odds_10 (c_Mo_isSecret hV hq10) ?_
    refine g_if_eq (pc := 13) hC (tgt := 25) (by decide) d_Mo_odds_13 h (fun h => ?_) (fun h => ?_)
    · refine g_iconst (pc := 25) hC kc_m1 d_Mo_odds_25 ?_
      exact g_iW (pc := 26) hC rfl d_Mo_odds_26 h
    · refine g_iload_n (pc := 16) hC (i := 3) (x := x3) rfl rfl d_Mo_odds_16 ?_
      refine g_iload (pc := 17) hC (i := 4) (x := x4) rfl d_Mo_odds_17 ?_
      obtain ⟨q19, hq19, h⟩ := Option.bind_eq_some_iff.mp h
      refine g_si (pc := 19) hC (As := [.int x3, .int x4]) (st := []) mt_Mo_areMany lk_Mo_486 (Nat.le_of_ble_eq_true rfl) ⟨Nat.le_of_ble_eq_true rfl, Nat.le_of_ble_eq_true rfl⟩ rfl d_Mo_odds_19 (c_Mo_areMany (IsM.ok hV) hq19) ?_
      refine g_if_ne (pc := 22) hC (tgt := 27) (by decide) d_Mo_odds_22 h (fun h => ?_) (fun h => ?_)
      · refine g_iconst (pc := 27) hC kc_0 d_Mo_odds_27 ?_
        refine s_istore (pc := 28) hC (i := 5) (by decide) d_Mo_odds_28 (lv2 := [some (.ref (V.2.2.1 0 0)), some (.int x1), some (.int x2), some (.int x3), some (.int x4), some (.int 0), none]) rfl ?_
        refine g_iconst (pc := 30) hC kc_0 d_Mo_odds_30 ?_
        refine s_istore (pc := 31) hC (i := 6) (by decide) d_Mo_odds_31 (lv2 := [some (.ref (V.2.2.1 0 0)), some (.int x1), some (.int x2), some (.int x3), some (.int x4), some (.int 0), some (.int 0)]) rfl ?_
        exact w_Mo_odds_l33 hV hC 5000 x1 x2 x3 x4 0 0 S h
      · refine g_iconst (pc := 25) hC kc_m1 d_Mo_odds_25 ?_
        exact g_iW (pc := 26) hC rfl d_Mo_odds_26 h
theorem c_Mo_odds {V : WV} {l : Launch} (hV : IsM V) {x1 : Int32} {x2 : Int32} {x3 : Int32} {x4 : Int32} {S : Mem} {z : Int32 × Mem} (h : f_Mo_odds x1 x2 x3 x4 S = some z) : CI V l y_Mo_odds bc_Mo_odds 7 (some .int) 12 265 [.ref (V.2.2.1 0 0), .int x1, .int x2, .int x3, .int x4] S z.1 z.2 :=
  ct_i rfl (IsM.ok hV) (Nat.le_of_ble_eq_true rfl) (fun _ _ hC => w_Mo_odds_b0 hV hC x1 x2 x3 x4 S h)
def f_Mo_deaths_b15 (k15 : Int32 → Int32 → Int32 → Int32 → Mem → Option (Int32 × Mem)) (x1 : Int32) (x2 : Int32) (x3 : Int32) (x4 : Int32) (S : Mem) : Option (Int32 × Mem) :=
  if x2 ≤ x4 then
    some (x3, S)
  else
    Option.bind (f_Mo_goesBy x4 x1 S) (fun q25 =>
    gIn (q25.1 0 18) 2 (
    gIn 33 40 (
    Option.bind (f_Mo_bits (q25.2.1 0 57 (33 : Int32).toNatClampNeg)) (fun q45 =>
    letS (x3 + ((q25.2.1 0 27 (q25.1 0 18).toNatClampNeg) - q45)) (fun y50 =>
    k15 x1 x2 y50 (x4 + 1) q25)))))
def f_Mo_deaths_l15 : Nat → Int32 → Int32 → Int32 → Int32 → Mem → Option (Int32 × Mem)
  | 0 => fun _ _ _ _ _ => none
  | n + 1 => f_Mo_deaths_b15  (f_Mo_deaths_l15  n)
def f_Mo_deaths_b0 (x1 : Int32) (x2 : Int32) (S : Mem) : Option (Int32 × Mem) :=
  Option.bind (f_Mo_areMany x1 x2) (fun q2 =>
  if q2 = 0 then
    some ((-1), S)
  else
    f_Mo_deaths_l15 5000 x1 x2 0 0 S)
def f_Mo_deaths (x1 : Int32) (x2 : Int32) (S : Mem) : Option (Int32 × Mem) := f_Mo_deaths_b0  x1 x2 S
theorem d_Mo_deaths_0 : decode bc_Mo_deaths 0 = .ok (.iload_n 1, 1) := by decide +kernel
theorem d_Mo_deaths_1 : decode bc_Mo_deaths 1 = .ok (.iload_n 2, 1) := by decide +kernel
theorem d_Mo_deaths_2 : decode bc_Mo_deaths 2 = .ok (.invokestatic 486, 3) := by decide +kernel
theorem d_Mo_deaths_5 : decode bc_Mo_deaths 5 = .ok (.ifCond .ne 5, 3) := by decide +kernel
theorem d_Mo_deaths_8 : decode bc_Mo_deaths 8 = .ok (.iconst (-1), 1) := by decide +kernel
theorem d_Mo_deaths_9 : decode bc_Mo_deaths 9 = .ok (.ireturn, 1) := by decide +kernel
theorem d_Mo_deaths_10 : decode bc_Mo_deaths 10 = .ok (.iconst 0, 1) := by decide +kernel
theorem d_Mo_deaths_11 : decode bc_Mo_deaths 11 = .ok (.istore_n 3, 1) := by decide +kernel
theorem d_Mo_deaths_12 : decode bc_Mo_deaths 12 = .ok (.iconst 0, 1) := by decide +kernel
theorem d_Mo_deaths_13 : decode bc_Mo_deaths 13 = .ok (.istore 4, 2) := by decide +kernel
theorem d_Mo_deaths_15 : decode bc_Mo_deaths 15 = .ok (.iload 4, 2) := by decide +kernel
theorem d_Mo_deaths_17 : decode bc_Mo_deaths 17 = .ok (.iload_n 2, 1) := by decide +kernel
theorem d_Mo_deaths_18 : decode bc_Mo_deaths 18 = .ok (.if_icmp .ge 39, 3) := by decide +kernel
theorem d_Mo_deaths_21 : decode bc_Mo_deaths 21 = .ok (.aload_n 0, 1) := by decide +kernel
theorem d_Mo_deaths_22 : decode bc_Mo_deaths 22 = .ok (.iload 4, 2) := by decide +kernel
theorem d_Mo_deaths_24 : decode bc_Mo_deaths 24 = .ok (.iload_n 1, 1) := by decide +kernel
theorem d_Mo_deaths_25 : decode bc_Mo_deaths 25 = .ok (.invokevirtual 489, 3) := by decide +kernel
theorem d_Mo_deaths_28 : decode bc_Mo_deaths 28 = .ok (.iload_n 3, 1) := by decide +kernel
theorem d_Mo_deaths_29 : decode bc_Mo_deaths 29 = .ok (.aload_n 0, 1) := by decide +kernel
theorem d_Mo_deaths_30 : decode bc_Mo_deaths 30 = .ok (.getfield 58, 3) := by decide +kernel
theorem d_Mo_deaths_33 : decode bc_Mo_deaths 33 = .ok (.aload_n 0, 1) := by decide +kernel
theorem d_Mo_deaths_34 : decode bc_Mo_deaths 34 = .ok (.getfield 245, 3) := by decide +kernel
theorem d_Mo_deaths_37 : decode bc_Mo_deaths 37 = .ok (.iaload, 1) := by decide +kernel
theorem d_Mo_deaths_38 : decode bc_Mo_deaths 38 = .ok (.aload_n 0, 1) := by decide +kernel
theorem d_Mo_deaths_39 : decode bc_Mo_deaths 39 = .ok (.getfield 137, 3) := by decide +kernel
theorem d_Mo_deaths_42 : decode bc_Mo_deaths 42 = .ok (.bipush 33, 2) := by decide +kernel
theorem d_Mo_deaths_44 : decode bc_Mo_deaths 44 = .ok (.iaload, 1) := by decide +kernel
theorem d_Mo_deaths_45 : decode bc_Mo_deaths 45 = .ok (.invokestatic 349, 3) := by decide +kernel
theorem d_Mo_deaths_48 : decode bc_Mo_deaths 48 = .ok (.isub, 1) := by decide +kernel
theorem d_Mo_deaths_49 : decode bc_Mo_deaths 49 = .ok (.iadd, 1) := by decide +kernel
theorem d_Mo_deaths_50 : decode bc_Mo_deaths 50 = .ok (.istore_n 3, 1) := by decide +kernel
theorem d_Mo_deaths_51 : decode bc_Mo_deaths 51 = .ok (.iinc 4 1, 3) := by decide +kernel
theorem d_Mo_deaths_54 : decode bc_Mo_deaths 54 = .ok (.goto (-39), 3) := by decide +kernel
theorem d_Mo_deaths_57 : decode bc_Mo_deaths 57 = .ok (.iload_n 3, 1) := by decide +kernel
theorem d_Mo_deaths_58 : decode bc_Mo_deaths 58 = .ok (.ireturn, 1) := by decide +kernel
set_option maxRecDepth 20000 in
theorem w_Mo_deaths_b15 {X : CX} {V : WV} (hV : IsM V) {z : Int32 × Mem} (hC : Ck X V bc_Mo_deaths 5 "SecretWellsModel" (some .int) 12 265) (k15 : Int32 → Int32 → Int32 → Int32 → Mem → Option (Int32 × Mem)) (hk15 : ∀ (x1 : Int32) (x2 : Int32) (x3 : Int32) (x4 : Int32) (S : Mem), k15 x1 x2 x3 x4 S = some z → G X V 5 (QI X V z.1 z.2) 15 [some (.ref (V.2.2.1 0 0)), some (.int x1), some (.int x2), some (.int x3), some (.int x4)] [] S) (x1 : Int32) (x2 : Int32) (x3 : Int32) (x4 : Int32) (S : Mem) (h : f_Mo_deaths_b15  k15 x1 x2 x3 x4 S = some z) : G X V 5 (QI X V z.1 z.2) 15 [some (.ref (V.2.2.1 0 0)), some (.int x1), some (.int x2), some (.int x3), some (.int x4)] [] S := by
  unfold f_Mo_deaths_b15 at h
  refine g_iload (pc := 15) hC (i := 4) (x := x4) rfl d_Mo_deaths_15 ?_
  refine g_iload_n (pc := 17) hC (i := 2) (x := x2) rfl rfl d_Mo_deaths_17 ?_
  refine g_icmp_ge (pc := 18) hC (tgt := 57) (by decide) d_Mo_deaths_18 h (fun h => ?_) (fun h => ?_)
  · refine g_iload_n (pc := 57) hC (i := 3) (x := x3) rfl rfl d_Mo_deaths_57 ?_
    exact g_iW (pc := 58) hC rfl d_Mo_deaths_58 h
  · refine g_aload_n (pc := 21) hC (i := 0) (x := (V.2.2.1 0 0)) rfl rfl d_Mo_deaths_21 ?_
    refine g_iload (pc := 22) hC (i := 4) (x := x4) rfl d_Mo_deaths_22 ?_
    refine g_iload_n (pc := 24) hC (i := 1) (x := x1) rfl rfl d_Mo_deaths_24 ?_
    obtain ⟨q25, hq25, h⟩ := Option.bind_eq_some_iff.mp h
    refine g_vv (pc := 25) hC (As := [.int x4, .int x1]) (st := []) mt_Mo_goesBy lk_Mo_489 rfl (ob_Mo hV) (Nat.le_of_ble_eq_true rfl) ⟨Nat.le_of_ble_eq_true rfl, Nat.le_of_ble_eq_true rfl⟩ rfl d_Mo_deaths_25 (c_Mo_goesBy hV hq25) ?_
    refine g_iload_n (pc := 28) hC (i := 3) (x := x3) rfl rfl d_Mo_deaths_28 ?_
    refine g_aload_n (pc := 29) hC (i := 0) (x := (V.2.2.1 0 0)) rfl rfl d_Mo_deaths_29 ?_
    refine g_getA (pc := 30) hC fo_Mo_58 (ob_Mo hV) rfl d_Mo_deaths_30 ?_
    refine g_aload_n (pc := 33) hC (i := 0) (x := (V.2.2.1 0 0)) rfl rfl d_Mo_deaths_33 ?_
    refine g_getI (pc := 34) hC fo_Mo_245 (ob_Mo hV) rfl d_Mo_deaths_34 ?_
    refine g_iald (pc := 37) hC (ar_Mo_27 hV) d_Mo_deaths_37 h (fun h => ?_)
    refine g_aload_n (pc := 38) hC (i := 0) (x := (V.2.2.1 0 0)) rfl rfl d_Mo_deaths_38 ?_
    refine g_getA (pc := 39) hC fo_Mo_137 (ob_Mo hV) rfl d_Mo_deaths_39 ?_
    refine g_bipush (pc := 42) hC kb_33 d_Mo_deaths_42 ?_
    refine g_iald (pc := 44) hC (ar_Mo_57 hV) d_Mo_deaths_44 h (fun h => ?_)
    obtain ⟨q45, hq45, h⟩ := Option.bind_eq_some_iff.mp h
    refine g_si (pc := 45) hC (As := [.int (q25.2.1 0 57 (33 : Int32).toNatClampNeg)]) (st := [.int (q25.2.1 0 27 (q25.1 0 18).toNatClampNeg), .int x3]) mt_Mo_bits lk_Mo_349 (Nat.le_of_ble_eq_true rfl) ⟨Nat.le_of_ble_eq_true rfl, Nat.le_of_ble_eq_true rfl⟩ rfl d_Mo_deaths_45 (c_Mo_bits (IsM.ok hV) hq45) ?_
    refine g_isub (pc := 48) hC d_Mo_deaths_48 ?_
    refine g_iadd (pc := 49) hC d_Mo_deaths_49 ?_
    refine g_leti h (fun y50 h => ?_)
    refine s_istore_n (pc := 50) hC (i := 3) rfl (by decide) d_Mo_deaths_50 (lv2 := [some (.ref (V.2.2.1 0 0)), some (.int x1), some (.int x2), some (.int y50), some (.int x4)]) rfl ?_
    refine s_iinc (pc := 51) hC (i := 4) (x := x4) (v := x4 + 1) rfl (by rw [kc_1]) (by decide) d_Mo_deaths_51 (lv2 := [some (.ref (V.2.2.1 0 0)), some (.int x1), some (.int x2), some (.int y50), some (.int (x4 + 1))]) rfl ?_
    refine g_goto (pc := 54) hC (tgt := 15) (by decide) d_Mo_deaths_54 ?_
    exact hk15 x1 x2 y50 (x4 + 1) q25 h
theorem w_Mo_deaths_l15 {X : CX} {V : WV} (hV : IsM V) {z : Int32 × Mem} (hC : Ck X V bc_Mo_deaths 5 "SecretWellsModel" (some .int) 12 265) : ∀ (n : Nat) (x1 : Int32) (x2 : Int32) (x3 : Int32) (x4 : Int32) (S : Mem), f_Mo_deaths_l15  n x1 x2 x3 x4 S = some z → G X V 5 (QI X V z.1 z.2) 15 [some (.ref (V.2.2.1 0 0)), some (.int x1), some (.int x2), some (.int x3), some (.int x4)] [] S := by
  intro n
  induction n with
  | zero =>
    intro x1 x2 x3 x4 S h
    have h : (none : Option (Int32 × Mem)) = some z := h
    cases h
  | succ n ih =>
    intro x1 x2 x3 x4 S h
    exact w_Mo_deaths_b15 hV hC (f_Mo_deaths_l15  n) ih x1 x2 x3 x4 S h
set_option maxRecDepth 20000 in
theorem w_Mo_deaths_b0 {X : CX} {V : WV} (hV : IsM V) {z : Int32 × Mem} (hC : Ck X V bc_Mo_deaths 5 "SecretWellsModel" (some .int) 12 265) (x1 : Int32) (x2 : Int32) (S : Mem) (h : f_Mo_deaths_b0  x1 x2 S = some z) : G X V 5 (QI X V z.1 z.2) 0 [some (.ref (V.2.2.1 0 0)), some (.int x1), some (.int x2), none, none] [] S := by
  unfold f_Mo_deaths_b0 at h
  refine g_iload_n (pc := 0) hC (i := 1) (x := x1) rfl rfl d_Mo_deaths_0 ?_
  refine g_iload_n (pc := 1) hC (i := 2) (x := x2) rfl rfl d_Mo_deaths_1 ?_
  obtain ⟨q2, hq2, h⟩ := Option.bind_eq_some_iff.mp h
  refine g_si (pc := 2) hC (As := [.int x1, .int x2]) (st := []) mt_Mo_areMany lk_Mo_486 (Nat.le_of_ble_eq_true rfl) ⟨Nat.le_of_ble_eq_true rfl, Nat.le_of_ble_eq_true rfl⟩ rfl d_Mo_deaths_2 (c_Mo_areMany (IsM.ok hV) hq2) ?_
  refine g_if_ne (pc := 5) hC (tgt := 10) (by decide) d_Mo_deaths_5 h (fun h => ?_) (fun h => ?_)
  · refine g_iconst (pc := 10) hC kc_0 d_Mo_deaths_10 ?_
    refine s_istore_n (pc := 11) hC (i := 3) rfl (by decide) d_Mo_deaths_11 (lv2 := [some (.ref (V.2.2.1 0 0)), some (.int x1), some (.int x2), some (.int 0), none]) rfl ?_
    refine g_iconst (pc := 12) hC kc_0 d_Mo_deaths_12 ?_
    refine s_istore (pc := 13) hC (i := 4) (by decide) d_Mo_deaths_13 (lv2 := [some (.ref (V.2.2.1 0 0)), some (.int x1), some (.int x2), some (.int 0), some (.int 0)]) rfl ?_
    exact w_Mo_deaths_l15 hV hC 5000 x1 x2 0 0 S h
  · refine g_iconst (pc := 8) hC kc_m1 d_Mo_deaths_8 ?_
    exact g_iW (pc := 9) hC rfl d_Mo_deaths_9 h
theorem c_Mo_deaths {V : WV} {l : Launch} (hV : IsM V) {x1 : Int32} {x2 : Int32} {S : Mem} {z : Int32 × Mem} (h : f_Mo_deaths x1 x2 S = some z) : CI V l y_Mo_deaths bc_Mo_deaths 5 (some .int) 12 265 [.ref (V.2.2.1 0 0), .int x1, .int x2] S z.1 z.2 :=
  ct_i rfl (IsM.ok hV) (Nat.le_of_ble_eq_true rfl) (fun _ _ hC => w_Mo_deaths_b0 hV hC x1 x2 S h)
def f_Mo_worth_b0 (x1 : Int32) (S : Mem) : Option (Int32 × Mem) :=
  Option.bind (f_Mo_isSecret x1 S) (fun q2 =>
  if q2 = 0 then
    some ((-1), S)
  else
    Option.bind (f_Mo_copies S) (fun q11 =>
    gIn (4 + x1) 40 (
    if (q11.2.1 0 57 (4 + x1).toNatClampNeg) < 0 then
      some (0, q11)
    else
      gIn ((8 * (q11.1 0 18)) + x1) 16 (
      if (q11.2.1 0 32 ((8 * (q11.1 0 18)) + x1).toNatClampNeg) = 0 then
        Option.bind (f_Mo_knownBy x1 q11) (fun q44 =>
        if q44 = 0 then
          some (0, q11)
        else
          gIn ((8 * (q11.1 0 18)) + x1) 16 (
          Option.bind (f_Mo_weightNow x1 q11) (fun q71 =>
          some (((q11.2.1 0 31 ((8 * (q11.1 0 18)) + x1).toNatClampNeg) * 10) - q71, q11))))
      else
        some (0, q11)))))
def f_Mo_worth (x1 : Int32) (S : Mem) : Option (Int32 × Mem) := f_Mo_worth_b0  x1 S
theorem d_Mo_worth_0 : decode bc_Mo_worth 0 = .ok (.aload_n 0, 1) := by decide +kernel
theorem d_Mo_worth_1 : decode bc_Mo_worth 1 = .ok (.iload_n 1, 1) := by decide +kernel
theorem d_Mo_worth_2 : decode bc_Mo_worth 2 = .ok (.invokevirtual 428, 3) := by decide +kernel
theorem d_Mo_worth_5 : decode bc_Mo_worth 5 = .ok (.ifCond .ne 5, 3) := by decide +kernel
theorem d_Mo_worth_8 : decode bc_Mo_worth 8 = .ok (.iconst (-1), 1) := by decide +kernel
theorem d_Mo_worth_9 : decode bc_Mo_worth 9 = .ok (.ireturn, 1) := by decide +kernel
theorem d_Mo_worth_10 : decode bc_Mo_worth 10 = .ok (.aload_n 0, 1) := by decide +kernel
theorem d_Mo_worth_11 : decode bc_Mo_worth 11 = .ok (.invokevirtual 422, 3) := by decide +kernel
theorem d_Mo_worth_14 : decode bc_Mo_worth 14 = .ok (.aload_n 0, 1) := by decide +kernel
theorem d_Mo_worth_15 : decode bc_Mo_worth 15 = .ok (.getfield 137, 3) := by decide +kernel
theorem d_Mo_worth_18 : decode bc_Mo_worth 18 = .ok (.iconst 4, 1) := by decide +kernel
theorem d_Mo_worth_19 : decode bc_Mo_worth 19 = .ok (.iload_n 1, 1) := by decide +kernel
theorem d_Mo_worth_20 : decode bc_Mo_worth 20 = .ok (.iadd, 1) := by decide +kernel
theorem d_Mo_worth_21 : decode bc_Mo_worth 21 = .ok (.iaload, 1) := by decide +kernel
theorem d_Mo_worth_22 : decode bc_Mo_worth 22 = .ok (.ifCond .lt 28, 3) := by decide +kernel
theorem d_Mo_worth_25 : decode bc_Mo_worth 25 = .ok (.aload_n 0, 1) := by decide +kernel
theorem d_Mo_worth_26 : decode bc_Mo_worth 26 = .ok (.getfield 73, 3) := by decide +kernel
theorem d_Mo_worth_29 : decode bc_Mo_worth 29 = .ok (.bipush 8, 2) := by decide +kernel
theorem d_Mo_worth_31 : decode bc_Mo_worth 31 = .ok (.aload_n 0, 1) := by decide +kernel
theorem d_Mo_worth_32 : decode bc_Mo_worth 32 = .ok (.getfield 245, 3) := by decide +kernel
theorem d_Mo_worth_35 : decode bc_Mo_worth 35 = .ok (.imul, 1) := by decide +kernel
theorem d_Mo_worth_36 : decode bc_Mo_worth 36 = .ok (.iload_n 1, 1) := by decide +kernel
theorem d_Mo_worth_37 : decode bc_Mo_worth 37 = .ok (.iadd, 1) := by decide +kernel
theorem d_Mo_worth_38 : decode bc_Mo_worth 38 = .ok (.baload, 1) := by decide +kernel
theorem d_Mo_worth_39 : decode bc_Mo_worth 39 = .ok (.ifCond .ne 11, 3) := by decide +kernel
theorem d_Mo_worth_42 : decode bc_Mo_worth 42 = .ok (.aload_n 0, 1) := by decide +kernel
theorem d_Mo_worth_43 : decode bc_Mo_worth 43 = .ok (.iload_n 1, 1) := by decide +kernel
theorem d_Mo_worth_44 : decode bc_Mo_worth 44 = .ok (.invokevirtual 352, 3) := by decide +kernel
theorem d_Mo_worth_47 : decode bc_Mo_worth 47 = .ok (.ifCond .ne 5, 3) := by decide +kernel
theorem d_Mo_worth_50 : decode bc_Mo_worth 50 = .ok (.iconst 0, 1) := by decide +kernel
theorem d_Mo_worth_51 : decode bc_Mo_worth 51 = .ok (.ireturn, 1) := by decide +kernel
theorem d_Mo_worth_52 : decode bc_Mo_worth 52 = .ok (.aload_n 0, 1) := by decide +kernel
theorem d_Mo_worth_53 : decode bc_Mo_worth 53 = .ok (.getfield 70, 3) := by decide +kernel
theorem d_Mo_worth_56 : decode bc_Mo_worth 56 = .ok (.bipush 8, 2) := by decide +kernel
theorem d_Mo_worth_58 : decode bc_Mo_worth 58 = .ok (.aload_n 0, 1) := by decide +kernel
theorem d_Mo_worth_59 : decode bc_Mo_worth 59 = .ok (.getfield 245, 3) := by decide +kernel
theorem d_Mo_worth_62 : decode bc_Mo_worth 62 = .ok (.imul, 1) := by decide +kernel
theorem d_Mo_worth_63 : decode bc_Mo_worth 63 = .ok (.iload_n 1, 1) := by decide +kernel
theorem d_Mo_worth_64 : decode bc_Mo_worth 64 = .ok (.iadd, 1) := by decide +kernel
theorem d_Mo_worth_65 : decode bc_Mo_worth 65 = .ok (.iaload, 1) := by decide +kernel
theorem d_Mo_worth_66 : decode bc_Mo_worth 66 = .ok (.bipush 10, 2) := by decide +kernel
theorem d_Mo_worth_68 : decode bc_Mo_worth 68 = .ok (.imul, 1) := by decide +kernel
theorem d_Mo_worth_69 : decode bc_Mo_worth 69 = .ok (.aload_n 0, 1) := by decide +kernel
theorem d_Mo_worth_70 : decode bc_Mo_worth 70 = .ok (.iload_n 1, 1) := by decide +kernel
theorem d_Mo_worth_71 : decode bc_Mo_worth 71 = .ok (.invokevirtual 361, 3) := by decide +kernel
theorem d_Mo_worth_74 : decode bc_Mo_worth 74 = .ok (.isub, 1) := by decide +kernel
theorem d_Mo_worth_75 : decode bc_Mo_worth 75 = .ok (.ireturn, 1) := by decide +kernel
set_option maxRecDepth 20000 in
theorem w_Mo_worth_b0 {X : CX} {V : WV} (hV : IsM V) {z : Int32 × Mem} (hC : Ck X V bc_Mo_worth 2 "SecretWellsModel" (some .int) 4 87) (x1 : Int32) (S : Mem) (h : f_Mo_worth_b0  x1 S = some z) : G X V 2 (QI X V z.1 z.2) 0 [some (.ref (V.2.2.1 0 0)), some (.int x1)] [] S := by
  unfold f_Mo_worth_b0 at h
  refine g_aload_n (pc := 0) hC (i := 0) (x := (V.2.2.1 0 0)) rfl rfl d_Mo_worth_0 ?_
  refine g_iload_n (pc := 1) hC (i := 1) (x := x1) rfl rfl d_Mo_worth_1 ?_
  obtain ⟨q2, hq2, h⟩ := Option.bind_eq_some_iff.mp h
  refine g_vi (pc := 2) hC (As := [.int x1]) (st := []) mt_Mo_isSecret lk_Mo_428 rfl (ob_Mo hV) (Nat.le_of_ble_eq_true rfl) ⟨Nat.le_of_ble_eq_true rfl, Nat.le_of_ble_eq_true rfl⟩ rfl d_Mo_worth_2 (c_Mo_isSecret hV hq2) ?_
  refine g_if_ne (pc := 5) hC (tgt := 10) (by decide) d_Mo_worth_5 h (fun h => ?_) (fun h => ?_)
  · refine g_aload_n (pc := 10) hC (i := 0) (x := (V.2.2.1 0 0)) rfl rfl d_Mo_worth_10 ?_
    obtain ⟨q11, hq11, h⟩ := Option.bind_eq_some_iff.mp h
    refine g_vv (pc := 11) hC (As := []) (st := []) mt_Mo_copies lk_Mo_422 rfl (ob_Mo hV) (Nat.le_of_ble_eq_true rfl) ⟨Nat.le_of_ble_eq_true rfl, Nat.le_of_ble_eq_true rfl⟩ rfl d_Mo_worth_11 (c_Mo_copies hV hq11) ?_
    refine g_aload_n (pc := 14) hC (i := 0) (x := (V.2.2.1 0 0)) rfl rfl d_Mo_worth_14 ?_
    refine g_getA (pc := 15) hC fo_Mo_137 (ob_Mo hV) rfl d_Mo_worth_15 ?_
    refine g_iconst (pc := 18) hC kc_4 d_Mo_worth_18 ?_
    refine g_iload_n (pc := 19) hC (i := 1) (x := x1) rfl rfl d_Mo_worth_19 ?_
    refine g_iadd (pc := 20) hC d_Mo_worth_20 ?_
    refine g_iald (pc := 21) hC (ar_Mo_57 hV) d_Mo_worth_21 h (fun h => ?_)
    refine g_if_lt (pc := 22) hC (tgt := 50) (by decide) d_Mo_worth_22 h (fun h => ?_) (fun h => ?_)
    · refine g_iconst (pc := 50) hC kc_0 d_Mo_worth_50 ?_
      exact g_iW (pc := 51) hC rfl d_Mo_worth_51 h
    · refine g_aload_n (pc := 25) hC (i := 0) (x := (V.2.2.1 0 0)) rfl rfl d_Mo_worth_25 ?_
      refine g_getA (pc := 26) hC fo_Mo_73 (ob_Mo hV) rfl d_Mo_worth_26 ?_
      refine g_bipush (pc := 29) hC kb_8 d_Mo_worth_29 ?_
      refine g_aload_n (pc := 31) hC (i := 0) (x := (V.2.2.1 0 0)) rfl rfl d_Mo_worth_31 ?_
      refine g_getI (pc := 32) hC fo_Mo_245 (ob_Mo hV) rfl d_Mo_worth_32 ?_
      refine g_imul (pc := 35) hC d_Mo_worth_35 ?_
      refine g_iload_n (pc := 36) hC (i := 1) (x := x1) rfl rfl d_Mo_worth_36 ?_
      refine g_iadd (pc := 37) hC d_Mo_worth_37 ?_
      refine g_zald (pc := 38) hC (ar_Mo_32 hV) d_Mo_worth_38 h (fun h => ?_)
      refine g_if_ne (pc := 39) hC (tgt := 50) (by decide) d_Mo_worth_39 h (fun h => ?_) (fun h => ?_)
      · refine g_iconst (pc := 50) hC kc_0 d_Mo_worth_50 ?_
        exact g_iW (pc := 51) hC rfl d_Mo_worth_51 h
      · refine g_aload_n (pc := 42) hC (i := 0) (x := (V.2.2.1 0 0)) rfl rfl d_Mo_worth_42 ?_
        refine g_iload_n (pc := 43) hC (i := 1) (x := x1) rfl rfl d_Mo_worth_43 ?_
        obtain ⟨q44, hq44, h⟩ := Option.bind_eq_some_iff.mp h
        refine g_vi (pc := 44) hC (As := [.int x1]) (st := []) mt_Mo_knownBy lk_Mo_352 rfl (ob_Mo hV) (Nat.le_of_ble_eq_true rfl) ⟨Nat.le_of_ble_eq_true rfl, Nat.le_of_ble_eq_true rfl⟩ rfl d_Mo_worth_44 (c_Mo_knownBy hV hq44) ?_
        refine g_if_ne (pc := 47) hC (tgt := 52) (by decide) d_Mo_worth_47 h (fun h => ?_) (fun h => ?_)
        · refine g_aload_n (pc := 52) hC (i := 0) (x := (V.2.2.1 0 0)) rfl rfl d_Mo_worth_52 ?_
          refine g_getA (pc := 53) hC fo_Mo_70 (ob_Mo hV) rfl d_Mo_worth_53 ?_
          refine g_bipush (pc := 56) hC kb_8 d_Mo_worth_56 ?_
          refine g_aload_n (pc := 58) hC (i := 0) (x := (V.2.2.1 0 0)) rfl rfl d_Mo_worth_58 ?_
          refine g_getI (pc := 59) hC fo_Mo_245 (ob_Mo hV) rfl d_Mo_worth_59 ?_
          refine g_imul (pc := 62) hC d_Mo_worth_62 ?_
          refine g_iload_n (pc := 63) hC (i := 1) (x := x1) rfl rfl d_Mo_worth_63 ?_
          refine g_iadd (pc := 64) hC d_Mo_worth_64 ?_
          refine g_iald (pc := 65) hC (ar_Mo_31 hV) d_Mo_worth_65 h (fun h => ?_)
          refine g_bipush (pc := 66) hC kb_10 d_Mo_worth_66 ?_
          refine g_imul (pc := 68) hC d_Mo_worth_68 ?_
          refine g_aload_n (pc := 69) hC (i := 0) (x := (V.2.2.1 0 0)) rfl rfl d_Mo_worth_69 ?_
          refine g_iload_n (pc := 70) hC (i := 1) (x := x1) rfl rfl d_Mo_worth_70 ?_
          obtain ⟨q71, hq71, h⟩ := Option.bind_eq_some_iff.mp h
          refine g_vi (pc := 71) hC (As := [.int x1]) (st := [.int ((q11.2.1 0 31 ((8 * (q11.1 0 18)) + x1).toNatClampNeg) * 10)]) mt_Mo_weightNow lk_Mo_361 rfl (ob_Mo hV) (Nat.le_of_ble_eq_true rfl) ⟨Nat.le_of_ble_eq_true rfl, Nat.le_of_ble_eq_true rfl⟩ rfl d_Mo_worth_71 (c_Mo_weightNow hV hq71) ?_
          refine g_isub (pc := 74) hC d_Mo_worth_74 ?_
          exact g_iW (pc := 75) hC rfl d_Mo_worth_75 h
        · refine g_iconst (pc := 50) hC kc_0 d_Mo_worth_50 ?_
          exact g_iW (pc := 51) hC rfl d_Mo_worth_51 h
  · refine g_iconst (pc := 8) hC kc_m1 d_Mo_worth_8 ?_
    exact g_iW (pc := 9) hC rfl d_Mo_worth_9 h
theorem c_Mo_worth {V : WV} {l : Launch} (hV : IsM V) {x1 : Int32} {S : Mem} {z : Int32 × Mem} (h : f_Mo_worth x1 S = some z) : CI V l y_Mo_worth bc_Mo_worth 2 (some .int) 4 87 [.ref (V.2.2.1 0 0), .int x1] S z.1 z.2 :=
  ct_i rfl (IsM.ok hV) (Nat.le_of_ble_eq_true rfl) (fun _ _ hC => w_Mo_worth_b0 hV hC x1 S h)
def f_Mo_note_b0 (x1 : Int32) (x2 : Int32) (x3 : Int32) (S : Mem) : Option (Int32 × Mem) :=
  if (S.1 0 68) = 20 then
    some ((-1), S)
  else
    Option.bind (f_Mo_isWell x1 S) (fun q11 =>
    if q11 = 0 then
      some ((-1), S)
    else
      gIn (S.1 0 18) 2 (
      Option.bind (f_Mo_in x2 0 (((1 : Int32) <<< ((S.2.1 0 30 (S.1 0 18).toNatClampNeg) &&& 31)) - 1)) (fun q32 =>
      if q32 = 0 then
        some ((-1), S)
      else
        Option.bind (f_Mo_in x3 0 9999) (fun q43 =>
        if q43 = 0 then
          some ((-1), S)
        else
          gIn (S.1 0 68) 20 (letS (sA S 0 69 (S.1 0 68) x1) (fun S60 =>
          gIn (S60.1 0 68) 20 (letS (sA S60 0 70 (S60.1 0 68) x2) (fun S70 =>
          gIn (S70.1 0 68) 20 (letS (sA S70 0 71 (S70.1 0 68) x3) (fun S80 =>
          letS (pI S80 0 68 ((S80.1 0 68) + 1)) (fun S88 =>
          some ((S88.1 0 68) - 1, S88))))))))))))
def f_Mo_note (x1 : Int32) (x2 : Int32) (x3 : Int32) (S : Mem) : Option (Int32 × Mem) := f_Mo_note_b0  x1 x2 x3 S
theorem d_Mo_note_0 : decode bc_Mo_note 0 = .ok (.aload_n 0, 1) := by decide +kernel
theorem d_Mo_note_1 : decode bc_Mo_note 1 = .ok (.getfield 266, 3) := by decide +kernel
theorem d_Mo_note_4 : decode bc_Mo_note 4 = .ok (.bipush 20, 2) := by decide +kernel
theorem d_Mo_note_6 : decode bc_Mo_note 6 = .ok (.if_icmp .eq 43, 3) := by decide +kernel
theorem d_Mo_note_9 : decode bc_Mo_note 9 = .ok (.aload_n 0, 1) := by decide +kernel
theorem d_Mo_note_10 : decode bc_Mo_note 10 = .ok (.iload_n 1, 1) := by decide +kernel
theorem d_Mo_note_11 : decode bc_Mo_note 11 = .ok (.invokevirtual 419, 3) := by decide +kernel
theorem d_Mo_note_14 : decode bc_Mo_note 14 = .ok (.ifCond .eq 35, 3) := by decide +kernel
theorem d_Mo_note_17 : decode bc_Mo_note 17 = .ok (.iload_n 2, 1) := by decide +kernel
theorem d_Mo_note_18 : decode bc_Mo_note 18 = .ok (.iconst 0, 1) := by decide +kernel
theorem d_Mo_note_19 : decode bc_Mo_note 19 = .ok (.iconst 1, 1) := by decide +kernel
theorem d_Mo_note_20 : decode bc_Mo_note 20 = .ok (.aload_n 0, 1) := by decide +kernel
theorem d_Mo_note_21 : decode bc_Mo_note 21 = .ok (.getfield 67, 3) := by decide +kernel
theorem d_Mo_note_24 : decode bc_Mo_note 24 = .ok (.aload_n 0, 1) := by decide +kernel
theorem d_Mo_note_25 : decode bc_Mo_note 25 = .ok (.getfield 245, 3) := by decide +kernel
theorem d_Mo_note_28 : decode bc_Mo_note 28 = .ok (.iaload, 1) := by decide +kernel
theorem d_Mo_note_29 : decode bc_Mo_note 29 = .ok (.ishl, 1) := by decide +kernel
theorem d_Mo_note_30 : decode bc_Mo_note 30 = .ok (.iconst 1, 1) := by decide +kernel
theorem d_Mo_note_31 : decode bc_Mo_note 31 = .ok (.isub, 1) := by decide +kernel
theorem d_Mo_note_32 : decode bc_Mo_note 32 = .ok (.invokestatic 332, 3) := by decide +kernel
theorem d_Mo_note_35 : decode bc_Mo_note 35 = .ok (.ifCond .eq 14, 3) := by decide +kernel
theorem d_Mo_note_38 : decode bc_Mo_note 38 = .ok (.iload_n 3, 1) := by decide +kernel
theorem d_Mo_note_39 : decode bc_Mo_note 39 = .ok (.iconst 0, 1) := by decide +kernel
theorem d_Mo_note_40 : decode bc_Mo_note 40 = .ok (.sipush 9999, 3) := by decide +kernel
theorem d_Mo_note_43 : decode bc_Mo_note 43 = .ok (.invokestatic 332, 3) := by decide +kernel
theorem d_Mo_note_46 : decode bc_Mo_note 46 = .ok (.ifCond .ne 5, 3) := by decide +kernel
theorem d_Mo_note_49 : decode bc_Mo_note 49 = .ok (.iconst (-1), 1) := by decide +kernel
theorem d_Mo_note_50 : decode bc_Mo_note 50 = .ok (.ireturn, 1) := by decide +kernel
theorem d_Mo_note_51 : decode bc_Mo_note 51 = .ok (.aload_n 0, 1) := by decide +kernel
theorem d_Mo_note_52 : decode bc_Mo_note 52 = .ok (.getfield 149, 3) := by decide +kernel
theorem d_Mo_note_55 : decode bc_Mo_note 55 = .ok (.aload_n 0, 1) := by decide +kernel
theorem d_Mo_note_56 : decode bc_Mo_note 56 = .ok (.getfield 266, 3) := by decide +kernel
theorem d_Mo_note_59 : decode bc_Mo_note 59 = .ok (.iload_n 1, 1) := by decide +kernel
theorem d_Mo_note_60 : decode bc_Mo_note 60 = .ok (.iastore, 1) := by decide +kernel
theorem d_Mo_note_61 : decode bc_Mo_note 61 = .ok (.aload_n 0, 1) := by decide +kernel
theorem d_Mo_note_62 : decode bc_Mo_note 62 = .ok (.getfield 152, 3) := by decide +kernel
theorem d_Mo_note_65 : decode bc_Mo_note 65 = .ok (.aload_n 0, 1) := by decide +kernel
theorem d_Mo_note_66 : decode bc_Mo_note 66 = .ok (.getfield 266, 3) := by decide +kernel
theorem d_Mo_note_69 : decode bc_Mo_note 69 = .ok (.iload_n 2, 1) := by decide +kernel
theorem d_Mo_note_70 : decode bc_Mo_note 70 = .ok (.iastore, 1) := by decide +kernel
theorem d_Mo_note_71 : decode bc_Mo_note 71 = .ok (.aload_n 0, 1) := by decide +kernel
theorem d_Mo_note_72 : decode bc_Mo_note 72 = .ok (.getfield 155, 3) := by decide +kernel
theorem d_Mo_note_75 : decode bc_Mo_note 75 = .ok (.aload_n 0, 1) := by decide +kernel
theorem d_Mo_note_76 : decode bc_Mo_note 76 = .ok (.getfield 266, 3) := by decide +kernel
theorem d_Mo_note_79 : decode bc_Mo_note 79 = .ok (.iload_n 3, 1) := by decide +kernel
theorem d_Mo_note_80 : decode bc_Mo_note 80 = .ok (.iastore, 1) := by decide +kernel
theorem d_Mo_note_81 : decode bc_Mo_note 81 = .ok (.aload_n 0, 1) := by decide +kernel
theorem d_Mo_note_82 : decode bc_Mo_note 82 = .ok (.dup, 1) := by decide +kernel
theorem d_Mo_note_83 : decode bc_Mo_note 83 = .ok (.getfield 266, 3) := by decide +kernel
theorem d_Mo_note_86 : decode bc_Mo_note 86 = .ok (.iconst 1, 1) := by decide +kernel
theorem d_Mo_note_87 : decode bc_Mo_note 87 = .ok (.iadd, 1) := by decide +kernel
theorem d_Mo_note_88 : decode bc_Mo_note 88 = .ok (.putfield 266, 3) := by decide +kernel
theorem d_Mo_note_91 : decode bc_Mo_note 91 = .ok (.aload_n 0, 1) := by decide +kernel
theorem d_Mo_note_92 : decode bc_Mo_note 92 = .ok (.getfield 266, 3) := by decide +kernel
theorem d_Mo_note_95 : decode bc_Mo_note 95 = .ok (.iconst 1, 1) := by decide +kernel
theorem d_Mo_note_96 : decode bc_Mo_note 96 = .ok (.isub, 1) := by decide +kernel
theorem d_Mo_note_97 : decode bc_Mo_note 97 = .ok (.ireturn, 1) := by decide +kernel
set_option maxRecDepth 20000 in
theorem w_Mo_note_b0 {X : CX} {V : WV} (hV : IsM V) {z : Int32 × Mem} (hC : Ck X V bc_Mo_note 4 "SecretWellsModel" (some .int) 2 43) (x1 : Int32) (x2 : Int32) (x3 : Int32) (S : Mem) (h : f_Mo_note_b0  x1 x2 x3 S = some z) : G X V 4 (QI X V z.1 z.2) 0 [some (.ref (V.2.2.1 0 0)), some (.int x1), some (.int x2), some (.int x3)] [] S := by
  unfold f_Mo_note_b0 at h
  refine g_aload_n (pc := 0) hC (i := 0) (x := (V.2.2.1 0 0)) rfl rfl d_Mo_note_0 ?_
  refine g_getI (pc := 1) hC fo_Mo_266 (ob_Mo hV) rfl d_Mo_note_1 ?_
  refine g_bipush (pc := 4) hC kb_20 d_Mo_note_4 ?_
  refine g_icmp_eq (pc := 6) hC (tgt := 49) (by decide) d_Mo_note_6 h (fun h => ?_) (fun h => ?_)
  · refine g_iconst (pc := 49) hC kc_m1 d_Mo_note_49 ?_
    exact g_iW (pc := 50) hC rfl d_Mo_note_50 h
  · refine g_aload_n (pc := 9) hC (i := 0) (x := (V.2.2.1 0 0)) rfl rfl d_Mo_note_9 ?_
    refine g_iload_n (pc := 10) hC (i := 1) (x := x1) rfl rfl d_Mo_note_10 ?_
    obtain ⟨q11, hq11, h⟩ := Option.bind_eq_some_iff.mp h
    refine g_vi (pc := 11) hC (As := [.int x1]) (st := []) mt_Mo_isWell lk_Mo_419 rfl (ob_Mo hV) (Nat.le_of_ble_eq_true rfl) ⟨Nat.le_of_ble_eq_true rfl, Nat.le_of_ble_eq_true rfl⟩ rfl d_Mo_note_11 (c_Mo_isWell hV hq11) ?_
    refine g_if_eq (pc := 14) hC (tgt := 49) (by decide) d_Mo_note_14 h (fun h => ?_) (fun h => ?_)
    · refine g_iconst (pc := 49) hC kc_m1 d_Mo_note_49 ?_
      exact g_iW (pc := 50) hC rfl d_Mo_note_50 h
    · refine g_iload_n (pc := 17) hC (i := 2) (x := x2) rfl rfl d_Mo_note_17 ?_
      refine g_iconst (pc := 18) hC kc_0 d_Mo_note_18 ?_
      refine g_iconst (pc := 19) hC kc_1 d_Mo_note_19 ?_
      refine g_aload_n (pc := 20) hC (i := 0) (x := (V.2.2.1 0 0)) rfl rfl d_Mo_note_20 ?_
      refine g_getA (pc := 21) hC fo_Mo_67 (ob_Mo hV) rfl d_Mo_note_21 ?_
      refine g_aload_n (pc := 24) hC (i := 0) (x := (V.2.2.1 0 0)) rfl rfl d_Mo_note_24 ?_
      refine g_getI (pc := 25) hC fo_Mo_245 (ob_Mo hV) rfl d_Mo_note_25 ?_
      refine g_iald (pc := 28) hC (ar_Mo_30 hV) d_Mo_note_28 h (fun h => ?_)
      refine g_ishl (pc := 29) hC d_Mo_note_29 ?_
      refine g_iconst (pc := 30) hC kc_1 d_Mo_note_30 ?_
      refine g_isub (pc := 31) hC d_Mo_note_31 ?_
      obtain ⟨q32, hq32, h⟩ := Option.bind_eq_some_iff.mp h
      refine g_si (pc := 32) hC (As := [.int x2, .int 0, .int (((1 : Int32) <<< ((S.2.1 0 30 (S.1 0 18).toNatClampNeg) &&& 31)) - 1)]) (st := []) mt_Mo_in lk_Mo_332 (Nat.le_of_ble_eq_true rfl) ⟨Nat.le_of_ble_eq_true rfl, Nat.le_of_ble_eq_true rfl⟩ rfl d_Mo_note_32 (c_Mo_in (IsM.ok hV) hq32) ?_
      refine g_if_eq (pc := 35) hC (tgt := 49) (by decide) d_Mo_note_35 h (fun h => ?_) (fun h => ?_)
      · refine g_iconst (pc := 49) hC kc_m1 d_Mo_note_49 ?_
        exact g_iW (pc := 50) hC rfl d_Mo_note_50 h
      · refine g_iload_n (pc := 38) hC (i := 3) (x := x3) rfl rfl d_Mo_note_38 ?_
        refine g_iconst (pc := 39) hC kc_0 d_Mo_note_39 ?_
        refine g_sipush (pc := 40) hC ks_9999 d_Mo_note_40 ?_
        obtain ⟨q43, hq43, h⟩ := Option.bind_eq_some_iff.mp h
        refine g_si (pc := 43) hC (As := [.int x3, .int 0, .int 9999]) (st := []) mt_Mo_in lk_Mo_332 (Nat.le_of_ble_eq_true rfl) ⟨Nat.le_of_ble_eq_true rfl, Nat.le_of_ble_eq_true rfl⟩ rfl d_Mo_note_43 (c_Mo_in (IsM.ok hV) hq43) ?_
        refine g_if_ne (pc := 46) hC (tgt := 51) (by decide) d_Mo_note_46 h (fun h => ?_) (fun h => ?_)
        · refine g_aload_n (pc := 51) hC (i := 0) (x := (V.2.2.1 0 0)) rfl rfl d_Mo_note_51 ?_
          refine g_getA (pc := 52) hC fo_Mo_149 (ob_Mo hV) rfl d_Mo_note_52 ?_
          refine g_aload_n (pc := 55) hC (i := 0) (x := (V.2.2.1 0 0)) rfl rfl d_Mo_note_55 ?_
          refine g_getI (pc := 56) hC fo_Mo_266 (ob_Mo hV) rfl d_Mo_note_56 ?_
          refine g_iload_n (pc := 59) hC (i := 1) (x := x1) rfl rfl d_Mo_note_59 ?_
          refine g_iast (pc := 60) hC (ar_Mo_69 hV) d_Mo_note_60 h (fun h => ?_)
          refine g_letS h (fun S60 h => ?_)
          refine g_aload_n (pc := 61) hC (i := 0) (x := (V.2.2.1 0 0)) rfl rfl d_Mo_note_61 ?_
          refine g_getA (pc := 62) hC fo_Mo_152 (ob_Mo hV) rfl d_Mo_note_62 ?_
          refine g_aload_n (pc := 65) hC (i := 0) (x := (V.2.2.1 0 0)) rfl rfl d_Mo_note_65 ?_
          refine g_getI (pc := 66) hC fo_Mo_266 (ob_Mo hV) rfl d_Mo_note_66 ?_
          refine g_iload_n (pc := 69) hC (i := 2) (x := x2) rfl rfl d_Mo_note_69 ?_
          refine g_iast (pc := 70) hC (ar_Mo_70 hV) d_Mo_note_70 h (fun h => ?_)
          refine g_letS h (fun S70 h => ?_)
          refine g_aload_n (pc := 71) hC (i := 0) (x := (V.2.2.1 0 0)) rfl rfl d_Mo_note_71 ?_
          refine g_getA (pc := 72) hC fo_Mo_155 (ob_Mo hV) rfl d_Mo_note_72 ?_
          refine g_aload_n (pc := 75) hC (i := 0) (x := (V.2.2.1 0 0)) rfl rfl d_Mo_note_75 ?_
          refine g_getI (pc := 76) hC fo_Mo_266 (ob_Mo hV) rfl d_Mo_note_76 ?_
          refine g_iload_n (pc := 79) hC (i := 3) (x := x3) rfl rfl d_Mo_note_79 ?_
          refine g_iast (pc := 80) hC (ar_Mo_71 hV) d_Mo_note_80 h (fun h => ?_)
          refine g_letS h (fun S80 h => ?_)
          refine g_aload_n (pc := 81) hC (i := 0) (x := (V.2.2.1 0 0)) rfl rfl d_Mo_note_81 ?_
          refine g_dup (pc := 82) hC rfl d_Mo_note_82 ?_
          refine g_getI (pc := 83) hC fo_Mo_266 (ob_Mo hV) rfl d_Mo_note_83 ?_
          refine g_iconst (pc := 86) hC kc_1 d_Mo_note_86 ?_
          refine g_iadd (pc := 87) hC d_Mo_note_87 ?_
          refine g_putI (pc := 88) hC po_Mo_266 (ob_Mo hV) rfl rfl rfl d_Mo_note_88 ?_
          refine g_letS h (fun S88 h => ?_)
          refine g_aload_n (pc := 91) hC (i := 0) (x := (V.2.2.1 0 0)) rfl rfl d_Mo_note_91 ?_
          refine g_getI (pc := 92) hC fo_Mo_266 (ob_Mo hV) rfl d_Mo_note_92 ?_
          refine g_iconst (pc := 95) hC kc_1 d_Mo_note_95 ?_
          refine g_isub (pc := 96) hC d_Mo_note_96 ?_
          exact g_iW (pc := 97) hC rfl d_Mo_note_97 h
        · refine g_iconst (pc := 49) hC kc_m1 d_Mo_note_49 ?_
          exact g_iW (pc := 50) hC rfl d_Mo_note_50 h
theorem c_Mo_note {V : WV} {l : Launch} (hV : IsM V) {x1 : Int32} {x2 : Int32} {x3 : Int32} {S : Mem} {z : Int32 × Mem} (h : f_Mo_note x1 x2 x3 S = some z) : CI V l y_Mo_note bc_Mo_note 4 (some .int) 2 43 [.ref (V.2.2.1 0 0), .int x1, .int x2, .int x3] S z.1 z.2 :=
  ct_i rfl (IsM.ok hV) (Nat.le_of_ble_eq_true rfl) (fun _ _ hC => w_Mo_note_b0 hV hC x1 x2 x3 S h)
def f_Mo_forget_b0 (S : Mem) : Option (Int32 × Mem) :=
  letS (S.1 0 68) (fun y4 =>
  letS (pI S 0 68 0) (fun S7 =>
  some (y4, S7)))
def f_Mo_forget (S : Mem) : Option (Int32 × Mem) := f_Mo_forget_b0  S
theorem d_Mo_forget_0 : decode bc_Mo_forget 0 = .ok (.aload_n 0, 1) := by decide +kernel
theorem d_Mo_forget_1 : decode bc_Mo_forget 1 = .ok (.getfield 266, 3) := by decide +kernel
theorem d_Mo_forget_4 : decode bc_Mo_forget 4 = .ok (.istore_n 1, 1) := by decide +kernel
theorem d_Mo_forget_5 : decode bc_Mo_forget 5 = .ok (.aload_n 0, 1) := by decide +kernel
theorem d_Mo_forget_6 : decode bc_Mo_forget 6 = .ok (.iconst 0, 1) := by decide +kernel
theorem d_Mo_forget_7 : decode bc_Mo_forget 7 = .ok (.putfield 266, 3) := by decide +kernel
theorem d_Mo_forget_10 : decode bc_Mo_forget 10 = .ok (.iload_n 1, 1) := by decide +kernel
theorem d_Mo_forget_11 : decode bc_Mo_forget 11 = .ok (.ireturn, 1) := by decide +kernel
set_option maxRecDepth 20000 in
theorem w_Mo_forget_b0 {X : CX} {V : WV} (hV : IsM V) {z : Int32 × Mem} (hC : Ck X V bc_Mo_forget 2 "SecretWellsModel" (some .int) 0 0) (S : Mem) (h : f_Mo_forget_b0  S = some z) : G X V 2 (QI X V z.1 z.2) 0 [some (.ref (V.2.2.1 0 0)), none] [] S := by
  unfold f_Mo_forget_b0 at h
  refine g_aload_n (pc := 0) hC (i := 0) (x := (V.2.2.1 0 0)) rfl rfl d_Mo_forget_0 ?_
  refine g_getI (pc := 1) hC fo_Mo_266 (ob_Mo hV) rfl d_Mo_forget_1 ?_
  refine g_leti h (fun y4 h => ?_)
  refine s_istore_n (pc := 4) hC (i := 1) rfl (by decide) d_Mo_forget_4 (lv2 := [some (.ref (V.2.2.1 0 0)), some (.int y4)]) rfl ?_
  refine g_aload_n (pc := 5) hC (i := 0) (x := (V.2.2.1 0 0)) rfl rfl d_Mo_forget_5 ?_
  refine g_iconst (pc := 6) hC kc_0 d_Mo_forget_6 ?_
  refine g_putI (pc := 7) hC po_Mo_266 (ob_Mo hV) rfl rfl rfl d_Mo_forget_7 ?_
  refine g_letS h (fun S7 h => ?_)
  refine g_iload_n (pc := 10) hC (i := 1) (x := y4) rfl rfl d_Mo_forget_10 ?_
  exact g_iW (pc := 11) hC rfl d_Mo_forget_11 h
theorem c_Mo_forget {V : WV} {l : Launch} (hV : IsM V) {S : Mem} {z : Int32 × Mem} (h : f_Mo_forget S = some z) : CI V l y_Mo_forget bc_Mo_forget 2 (some .int) 0 0 [.ref (V.2.2.1 0 0)] S z.1 z.2 :=
  ct_i rfl (IsM.ok hV) (Nat.le_of_ble_eq_true rfl) (fun _ _ hC => w_Mo_forget_b0 hV hC S h)
def f_Mo_deeperTold_b0 (S : Mem) (x1 : Int32) : Option (Int32) :=
  gIn ((8 * (S.1 0 18)) + x1) 16 (
  Option.bind (f_Mo_bits (S.2.1 0 33 ((8 * (S.1 0 18)) + x1).toNatClampNeg)) (fun q16 =>
  gIn (S.1 0 18) 2 (
  Option.bind (f_Mo_deeperBy x1 q16 (S.2.1 0 27 (S.1 0 18).toNatClampNeg) S) (fun q28 =>
  some q28))))
def f_Mo_deeperTold (x1 : Int32) (S : Mem) : Option (Int32) := f_Mo_deeperTold_b0 S x1
theorem d_Mo_deeperTold_0 : decode bc_Mo_deeperTold 0 = .ok (.aload_n 0, 1) := by decide +kernel
theorem d_Mo_deeperTold_1 : decode bc_Mo_deeperTold 1 = .ok (.iload_n 1, 1) := by decide +kernel
theorem d_Mo_deeperTold_2 : decode bc_Mo_deeperTold 2 = .ok (.aload_n 0, 1) := by decide +kernel
theorem d_Mo_deeperTold_3 : decode bc_Mo_deeperTold 3 = .ok (.getfield 77, 3) := by decide +kernel
theorem d_Mo_deeperTold_6 : decode bc_Mo_deeperTold 6 = .ok (.bipush 8, 2) := by decide +kernel
theorem d_Mo_deeperTold_8 : decode bc_Mo_deeperTold 8 = .ok (.aload_n 0, 1) := by decide +kernel
theorem d_Mo_deeperTold_9 : decode bc_Mo_deeperTold 9 = .ok (.getfield 245, 3) := by decide +kernel
theorem d_Mo_deeperTold_12 : decode bc_Mo_deeperTold 12 = .ok (.imul, 1) := by decide +kernel
theorem d_Mo_deeperTold_13 : decode bc_Mo_deeperTold 13 = .ok (.iload_n 1, 1) := by decide +kernel
theorem d_Mo_deeperTold_14 : decode bc_Mo_deeperTold 14 = .ok (.iadd, 1) := by decide +kernel
theorem d_Mo_deeperTold_15 : decode bc_Mo_deeperTold 15 = .ok (.iaload, 1) := by decide +kernel
theorem d_Mo_deeperTold_16 : decode bc_Mo_deeperTold 16 = .ok (.invokestatic 349, 3) := by decide +kernel
theorem d_Mo_deeperTold_19 : decode bc_Mo_deeperTold 19 = .ok (.aload_n 0, 1) := by decide +kernel
theorem d_Mo_deeperTold_20 : decode bc_Mo_deeperTold 20 = .ok (.getfield 58, 3) := by decide +kernel
theorem d_Mo_deeperTold_23 : decode bc_Mo_deeperTold 23 = .ok (.aload_n 0, 1) := by decide +kernel
theorem d_Mo_deeperTold_24 : decode bc_Mo_deeperTold 24 = .ok (.getfield 245, 3) := by decide +kernel
theorem d_Mo_deeperTold_27 : decode bc_Mo_deeperTold 27 = .ok (.iaload, 1) := by decide +kernel
theorem d_Mo_deeperTold_28 : decode bc_Mo_deeperTold 28 = .ok (.invokevirtual 355, 3) := by decide +kernel
theorem d_Mo_deeperTold_31 : decode bc_Mo_deeperTold 31 = .ok (.ireturn, 1) := by decide +kernel
set_option maxRecDepth 20000 in
theorem w_Mo_deeperTold_b0 {X : CX} {V : WV} (hV : IsM V) {S : Mem} {z : Int32} (hC : Ck X V bc_Mo_deeperTold 2 "SecretWellsModel" (some .int) 1 23) (x1 : Int32) (h : f_Mo_deeperTold_b0 S x1 = some z) : G X V 2 (QI X V z S) 0 [some (.ref (V.2.2.1 0 0)), some (.int x1)] [] S := by
  unfold f_Mo_deeperTold_b0 at h
  refine g_aload_n (pc := 0) hC (i := 0) (x := (V.2.2.1 0 0)) rfl rfl d_Mo_deeperTold_0 ?_
  refine g_iload_n (pc := 1) hC (i := 1) (x := x1) rfl rfl d_Mo_deeperTold_1 ?_
  refine g_aload_n (pc := 2) hC (i := 0) (x := (V.2.2.1 0 0)) rfl rfl d_Mo_deeperTold_2 ?_
  refine g_getA (pc := 3) hC fo_Mo_77 (ob_Mo hV) rfl d_Mo_deeperTold_3 ?_
  refine g_bipush (pc := 6) hC kb_8 d_Mo_deeperTold_6 ?_
  refine g_aload_n (pc := 8) hC (i := 0) (x := (V.2.2.1 0 0)) rfl rfl d_Mo_deeperTold_8 ?_
  refine g_getI (pc := 9) hC fo_Mo_245 (ob_Mo hV) rfl d_Mo_deeperTold_9 ?_
  refine g_imul (pc := 12) hC d_Mo_deeperTold_12 ?_
  refine g_iload_n (pc := 13) hC (i := 1) (x := x1) rfl rfl d_Mo_deeperTold_13 ?_
  refine g_iadd (pc := 14) hC d_Mo_deeperTold_14 ?_
  refine g_iald (pc := 15) hC (ar_Mo_33 hV) d_Mo_deeperTold_15 h (fun h => ?_)
  obtain ⟨q16, hq16, h⟩ := Option.bind_eq_some_iff.mp h
  refine g_si (pc := 16) hC (As := [.int (S.2.1 0 33 ((8 * (S.1 0 18)) + x1).toNatClampNeg)]) (st := [.int x1, .ref (V.2.2.1 0 0)]) mt_Mo_bits lk_Mo_349 (Nat.le_of_ble_eq_true rfl) ⟨Nat.le_of_ble_eq_true rfl, Nat.le_of_ble_eq_true rfl⟩ rfl d_Mo_deeperTold_16 (c_Mo_bits (IsM.ok hV) hq16) ?_
  refine g_aload_n (pc := 19) hC (i := 0) (x := (V.2.2.1 0 0)) rfl rfl d_Mo_deeperTold_19 ?_
  refine g_getA (pc := 20) hC fo_Mo_58 (ob_Mo hV) rfl d_Mo_deeperTold_20 ?_
  refine g_aload_n (pc := 23) hC (i := 0) (x := (V.2.2.1 0 0)) rfl rfl d_Mo_deeperTold_23 ?_
  refine g_getI (pc := 24) hC fo_Mo_245 (ob_Mo hV) rfl d_Mo_deeperTold_24 ?_
  refine g_iald (pc := 27) hC (ar_Mo_27 hV) d_Mo_deeperTold_27 h (fun h => ?_)
  obtain ⟨q28, hq28, h⟩ := Option.bind_eq_some_iff.mp h
  refine g_vi (pc := 28) hC (As := [.int x1, .int q16, .int (S.2.1 0 27 (S.1 0 18).toNatClampNeg)]) (st := []) mt_Mo_deeperBy lk_Mo_355 rfl (ob_Mo hV) (Nat.le_of_ble_eq_true rfl) ⟨Nat.le_of_ble_eq_true rfl, Nat.le_of_ble_eq_true rfl⟩ rfl d_Mo_deeperTold_28 (c_Mo_deeperBy hV hq28) ?_
  exact g_iN (pc := 31) hC rfl d_Mo_deeperTold_31 h
theorem c_Mo_deeperTold {V : WV} {l : Launch} (hV : IsM V) {x1 : Int32} {S : Mem} {z : Int32} (h : f_Mo_deeperTold x1 S = some z) : CI V l y_Mo_deeperTold bc_Mo_deeperTold 2 (some .int) 1 23 [.ref (V.2.2.1 0 0), .int x1] S z S :=
  ct_i rfl (IsM.ok hV) (Nat.le_of_ble_eq_true rfl) (fun _ _ hC => w_Mo_deeperTold_b0 hV hC x1 h)
def f_Mo_isSo_b30 (S : Mem) (k2 : Int32 → Int32 → Int32 → Option (Int32)) (k30 : Int32 → Int32 → Int32 → Int32 → Int32 → Option (Int32)) (x1 : Int32) (x2 : Int32) (x3 : Int32) (x4 : Int32) (x5 : Int32) : Option (Int32) :=
  gIn (S.1 0 18) 2 (
  if (S.2.1 0 30 (S.1 0 18).toNatClampNeg) ≤ x5 then
    gIn x3 20 (
    if x4 = (S.2.1 0 71 x3.toNatClampNeg) then
      k2 x1 x2 (x3 + 1)
    else
      some 0)
  else
    gIn x3 20 (
    if ((((S.2.1 0 70 x3.toNatClampNeg) &&& x1) >>> (x5 &&& 31)) &&& 1) = 1 then
      Option.bind (f_Mo_deeperTold x5 S) (fun q66 =>
      letS (x4 + q66) (fun y70 =>
      k30 x1 x2 x3 y70 (x5 + 1)))
    else
      k30 x1 x2 x3 x4 (x5 + 1)))
def f_Mo_isSo_l30 (S : Mem) (k2 : Int32 → Int32 → Int32 → Option (Int32)) : Nat → Int32 → Int32 → Int32 → Int32 → Int32 → Option (Int32)
  | 0 => fun _ _ _ _ _ => none
  | n + 1 => f_Mo_isSo_b30 S k2 (f_Mo_isSo_l30 S k2 n)
def f_Mo_isSo_b2 (S : Mem) (k2 : Int32 → Int32 → Int32 → Option (Int32)) (x1 : Int32) (x2 : Int32) (x3 : Int32) : Option (Int32) :=
  if x2 ≤ x3 then
    some 1
  else
    gIn x3 20 (
    gIn ((4 * (S.1 0 18)) + (S.2.1 0 69 x3.toNatClampNeg)) 8 (
    letS (S.2.1 0 25 ((4 * (S.1 0 18)) + (S.2.1 0 69 x3.toNatClampNeg)).toNatClampNeg) (fun y25 =>
    f_Mo_isSo_l30 S k2 5000 x1 x2 x3 y25 0)))
def f_Mo_isSo_l2 (S : Mem) : Nat → Int32 → Int32 → Int32 → Option (Int32)
  | 0 => fun _ _ _ => none
  | n + 1 => f_Mo_isSo_b2 S (f_Mo_isSo_l2 S n)
def f_Mo_isSo_b0 (S : Mem) (x1 : Int32) (x2 : Int32) : Option (Int32) :=
  f_Mo_isSo_l2 S 5000 x1 x2 0
def f_Mo_isSo (x1 : Int32) (x2 : Int32) (S : Mem) : Option (Int32) := f_Mo_isSo_b0 S x1 x2
theorem d_Mo_isSo_0 : decode bc_Mo_isSo 0 = .ok (.iconst 0, 1) := by decide +kernel
theorem d_Mo_isSo_1 : decode bc_Mo_isSo 1 = .ok (.istore_n 3, 1) := by decide +kernel
theorem d_Mo_isSo_2 : decode bc_Mo_isSo 2 = .ok (.iload_n 3, 1) := by decide +kernel
theorem d_Mo_isSo_3 : decode bc_Mo_isSo 3 = .ok (.iload_n 2, 1) := by decide +kernel
theorem d_Mo_isSo_4 : decode bc_Mo_isSo 4 = .ok (.if_icmp .ge 93, 3) := by decide +kernel
theorem d_Mo_isSo_7 : decode bc_Mo_isSo 7 = .ok (.aload_n 0, 1) := by decide +kernel
theorem d_Mo_isSo_8 : decode bc_Mo_isSo 8 = .ok (.getfield 52, 3) := by decide +kernel
theorem d_Mo_isSo_11 : decode bc_Mo_isSo 11 = .ok (.iconst 4, 1) := by decide +kernel
theorem d_Mo_isSo_12 : decode bc_Mo_isSo 12 = .ok (.aload_n 0, 1) := by decide +kernel
theorem d_Mo_isSo_13 : decode bc_Mo_isSo 13 = .ok (.getfield 245, 3) := by decide +kernel
theorem d_Mo_isSo_16 : decode bc_Mo_isSo 16 = .ok (.imul, 1) := by decide +kernel
theorem d_Mo_isSo_17 : decode bc_Mo_isSo 17 = .ok (.aload_n 0, 1) := by decide +kernel
theorem d_Mo_isSo_18 : decode bc_Mo_isSo 18 = .ok (.getfield 149, 3) := by decide +kernel
theorem d_Mo_isSo_21 : decode bc_Mo_isSo 21 = .ok (.iload_n 3, 1) := by decide +kernel
theorem d_Mo_isSo_22 : decode bc_Mo_isSo 22 = .ok (.iaload, 1) := by decide +kernel
theorem d_Mo_isSo_23 : decode bc_Mo_isSo 23 = .ok (.iadd, 1) := by decide +kernel
theorem d_Mo_isSo_24 : decode bc_Mo_isSo 24 = .ok (.iaload, 1) := by decide +kernel
theorem d_Mo_isSo_25 : decode bc_Mo_isSo 25 = .ok (.istore 4, 2) := by decide +kernel
theorem d_Mo_isSo_27 : decode bc_Mo_isSo 27 = .ok (.iconst 0, 1) := by decide +kernel
theorem d_Mo_isSo_28 : decode bc_Mo_isSo 28 = .ok (.istore 5, 2) := by decide +kernel
theorem d_Mo_isSo_30 : decode bc_Mo_isSo 30 = .ok (.iload 5, 2) := by decide +kernel
theorem d_Mo_isSo_32 : decode bc_Mo_isSo 32 = .ok (.aload_n 0, 1) := by decide +kernel
theorem d_Mo_isSo_33 : decode bc_Mo_isSo 33 = .ok (.getfield 67, 3) := by decide +kernel
theorem d_Mo_isSo_36 : decode bc_Mo_isSo 36 = .ok (.aload_n 0, 1) := by decide +kernel
theorem d_Mo_isSo_37 : decode bc_Mo_isSo 37 = .ok (.getfield 245, 3) := by decide +kernel
theorem d_Mo_isSo_40 : decode bc_Mo_isSo 40 = .ok (.iaload, 1) := by decide +kernel
theorem d_Mo_isSo_41 : decode bc_Mo_isSo 41 = .ok (.if_icmp .ge 37, 3) := by decide +kernel
theorem d_Mo_isSo_44 : decode bc_Mo_isSo 44 = .ok (.aload_n 0, 1) := by decide +kernel
theorem d_Mo_isSo_45 : decode bc_Mo_isSo 45 = .ok (.getfield 152, 3) := by decide +kernel
theorem d_Mo_isSo_48 : decode bc_Mo_isSo 48 = .ok (.iload_n 3, 1) := by decide +kernel
theorem d_Mo_isSo_49 : decode bc_Mo_isSo 49 = .ok (.iaload, 1) := by decide +kernel
theorem d_Mo_isSo_50 : decode bc_Mo_isSo 50 = .ok (.iload_n 1, 1) := by decide +kernel
theorem d_Mo_isSo_51 : decode bc_Mo_isSo 51 = .ok (.iand, 1) := by decide +kernel
theorem d_Mo_isSo_52 : decode bc_Mo_isSo 52 = .ok (.iload 5, 2) := by decide +kernel
theorem d_Mo_isSo_54 : decode bc_Mo_isSo 54 = .ok (.ishr, 1) := by decide +kernel
theorem d_Mo_isSo_55 : decode bc_Mo_isSo 55 = .ok (.iconst 1, 1) := by decide +kernel
theorem d_Mo_isSo_56 : decode bc_Mo_isSo 56 = .ok (.iand, 1) := by decide +kernel
theorem d_Mo_isSo_57 : decode bc_Mo_isSo 57 = .ok (.iconst 1, 1) := by decide +kernel
theorem d_Mo_isSo_58 : decode bc_Mo_isSo 58 = .ok (.if_icmp .ne 14, 3) := by decide +kernel
theorem d_Mo_isSo_61 : decode bc_Mo_isSo 61 = .ok (.iload 4, 2) := by decide +kernel
theorem d_Mo_isSo_63 : decode bc_Mo_isSo 63 = .ok (.aload_n 0, 1) := by decide +kernel
theorem d_Mo_isSo_64 : decode bc_Mo_isSo 64 = .ok (.iload 5, 2) := by decide +kernel
theorem d_Mo_isSo_66 : decode bc_Mo_isSo 66 = .ok (.invokevirtual 492, 3) := by decide +kernel
theorem d_Mo_isSo_69 : decode bc_Mo_isSo 69 = .ok (.iadd, 1) := by decide +kernel
theorem d_Mo_isSo_70 : decode bc_Mo_isSo 70 = .ok (.istore 4, 2) := by decide +kernel
theorem d_Mo_isSo_72 : decode bc_Mo_isSo 72 = .ok (.iinc 5 1, 3) := by decide +kernel
theorem d_Mo_isSo_75 : decode bc_Mo_isSo 75 = .ok (.goto (-45), 3) := by decide +kernel
theorem d_Mo_isSo_78 : decode bc_Mo_isSo 78 = .ok (.iload 4, 2) := by decide +kernel
theorem d_Mo_isSo_80 : decode bc_Mo_isSo 80 = .ok (.aload_n 0, 1) := by decide +kernel
theorem d_Mo_isSo_81 : decode bc_Mo_isSo 81 = .ok (.getfield 155, 3) := by decide +kernel
theorem d_Mo_isSo_84 : decode bc_Mo_isSo 84 = .ok (.iload_n 3, 1) := by decide +kernel
theorem d_Mo_isSo_85 : decode bc_Mo_isSo 85 = .ok (.iaload, 1) := by decide +kernel
theorem d_Mo_isSo_86 : decode bc_Mo_isSo 86 = .ok (.if_icmp .eq 5, 3) := by decide +kernel
theorem d_Mo_isSo_89 : decode bc_Mo_isSo 89 = .ok (.iconst 0, 1) := by decide +kernel
theorem d_Mo_isSo_90 : decode bc_Mo_isSo 90 = .ok (.ireturn, 1) := by decide +kernel
theorem d_Mo_isSo_91 : decode bc_Mo_isSo 91 = .ok (.iinc 3 1, 3) := by decide +kernel
theorem d_Mo_isSo_94 : decode bc_Mo_isSo 94 = .ok (.goto (-92), 3) := by decide +kernel
theorem d_Mo_isSo_97 : decode bc_Mo_isSo 97 = .ok (.iconst 1, 1) := by decide +kernel
theorem d_Mo_isSo_98 : decode bc_Mo_isSo 98 = .ok (.ireturn, 1) := by decide +kernel
set_option maxRecDepth 20000 in
theorem w_Mo_isSo_b30 {X : CX} {V : WV} (hV : IsM V) {S : Mem} {z : Int32} (hC : Ck X V bc_Mo_isSo 6 "SecretWellsModel" (some .boolean) 2 44) (k2 : Int32 → Int32 → Int32 → Option (Int32)) (hk2 : ∀ (x1 : Int32) (x2 : Int32) (x3 : Int32), k2 x1 x2 x3 = some z → G X V 6 (QI X V z S) 2 [some (.ref (V.2.2.1 0 0)), some (.int x1), some (.int x2), some (.int x3), none, none] [] S) (k30 : Int32 → Int32 → Int32 → Int32 → Int32 → Option (Int32)) (hk30 : ∀ (x1 : Int32) (x2 : Int32) (x3 : Int32) (x4 : Int32) (x5 : Int32), k30 x1 x2 x3 x4 x5 = some z → G X V 6 (QI X V z S) 30 [some (.ref (V.2.2.1 0 0)), some (.int x1), some (.int x2), some (.int x3), some (.int x4), some (.int x5)] [] S) (x1 : Int32) (x2 : Int32) (x3 : Int32) (x4 : Int32) (x5 : Int32) (h : f_Mo_isSo_b30 S k2 k30 x1 x2 x3 x4 x5 = some z) : G X V 6 (QI X V z S) 30 [some (.ref (V.2.2.1 0 0)), some (.int x1), some (.int x2), some (.int x3), some (.int x4), some (.int x5)] [] S := by
  unfold f_Mo_isSo_b30 at h
  refine g_iload (pc := 30) hC (i := 5) (x := x5) rfl d_Mo_isSo_30 ?_
  refine g_aload_n (pc := 32) hC (i := 0) (x := (V.2.2.1 0 0)) rfl rfl d_Mo_isSo_32 ?_
  refine g_getA (pc := 33) hC fo_Mo_67 (ob_Mo hV) rfl d_Mo_isSo_33 ?_
  refine g_aload_n (pc := 36) hC (i := 0) (x := (V.2.2.1 0 0)) rfl rfl d_Mo_isSo_36 ?_
  refine g_getI (pc := 37) hC fo_Mo_245 (ob_Mo hV) rfl d_Mo_isSo_37 ?_
  refine g_iald (pc := 40) hC (ar_Mo_30 hV) d_Mo_isSo_40 h (fun h => ?_)
  refine g_icmp_ge (pc := 41) hC (tgt := 78) (by decide) d_Mo_isSo_41 h (fun h => ?_) (fun h => ?_)
  · refine g_iload (pc := 78) hC (i := 4) (x := x4) rfl d_Mo_isSo_78 ?_
    refine g_aload_n (pc := 80) hC (i := 0) (x := (V.2.2.1 0 0)) rfl rfl d_Mo_isSo_80 ?_
    refine g_getA (pc := 81) hC fo_Mo_155 (ob_Mo hV) rfl d_Mo_isSo_81 ?_
    refine g_iload_n (pc := 84) hC (i := 3) (x := x3) rfl rfl d_Mo_isSo_84 ?_
    refine g_iald (pc := 85) hC (ar_Mo_71 hV) d_Mo_isSo_85 h (fun h => ?_)
    refine g_icmp_eq (pc := 86) hC (tgt := 91) (by decide) d_Mo_isSo_86 h (fun h => ?_) (fun h => ?_)
    · refine s_iinc (pc := 91) hC (i := 3) (x := x3) (v := x3 + 1) rfl (by rw [kc_1]) (by decide) d_Mo_isSo_91 (lv2 := [some (.ref (V.2.2.1 0 0)), some (.int x1), some (.int x2), some (.int (x3 + 1)), some (.int x4), some (.int x5)]) rfl ?_
      refine g_goto (pc := 94) hC (tgt := 2) (by decide) d_Mo_isSo_94 ?_
      refine g_le (lv2 := [some (.ref (V.2.2.1 0 0)), some (.int x1), some (.int x2), some (.int (x3 + 1)), none, none]) (⟨rfl, ⟨rfl, ⟨rfl, ⟨rfl, trivial⟩⟩⟩⟩) ?_
      exact hk2 x1 x2 (x3 + 1) h
    · refine g_iconst (pc := 89) hC kc_0 d_Mo_isSo_89 ?_
      exact g_iN (pc := 90) hC rfl d_Mo_isSo_90 h
  · refine g_aload_n (pc := 44) hC (i := 0) (x := (V.2.2.1 0 0)) rfl rfl d_Mo_isSo_44 ?_
    refine g_getA (pc := 45) hC fo_Mo_152 (ob_Mo hV) rfl d_Mo_isSo_45 ?_
    refine g_iload_n (pc := 48) hC (i := 3) (x := x3) rfl rfl d_Mo_isSo_48 ?_
    refine g_iald (pc := 49) hC (ar_Mo_70 hV) d_Mo_isSo_49 h (fun h => ?_)
    refine g_iload_n (pc := 50) hC (i := 1) (x := x1) rfl rfl d_Mo_isSo_50 ?_
    refine g_iand (pc := 51) hC d_Mo_isSo_51 ?_
    refine g_iload (pc := 52) hC (i := 5) (x := x5) rfl d_Mo_isSo_52 ?_
    refine g_ishr (pc := 54) hC d_Mo_isSo_54 ?_
    refine g_iconst (pc := 55) hC kc_1 d_Mo_isSo_55 ?_
    refine g_iand (pc := 56) hC d_Mo_isSo_56 ?_
    refine g_iconst (pc := 57) hC kc_1 d_Mo_isSo_57 ?_
    refine g_icmp_ne (pc := 58) hC (tgt := 72) (by decide) d_Mo_isSo_58 h (fun h => ?_) (fun h => ?_)
    · refine s_iinc (pc := 72) hC (i := 5) (x := x5) (v := x5 + 1) rfl (by rw [kc_1]) (by decide) d_Mo_isSo_72 (lv2 := [some (.ref (V.2.2.1 0 0)), some (.int x1), some (.int x2), some (.int x3), some (.int x4), some (.int (x5 + 1))]) rfl ?_
      refine g_goto (pc := 75) hC (tgt := 30) (by decide) d_Mo_isSo_75 ?_
      exact hk30 x1 x2 x3 x4 (x5 + 1) h
    · refine g_iload (pc := 61) hC (i := 4) (x := x4) rfl d_Mo_isSo_61 ?_
      refine g_aload_n (pc := 63) hC (i := 0) (x := (V.2.2.1 0 0)) rfl rfl d_Mo_isSo_63 ?_
      refine g_iload (pc := 64) hC (i := 5) (x := x5) rfl d_Mo_isSo_64 ?_
      obtain ⟨q66, hq66, h⟩ := Option.bind_eq_some_iff.mp h
      refine g_vi (pc := 66) hC (As := [.int x5]) (st := [.int x4]) mt_Mo_deeperTold lk_Mo_492 rfl (ob_Mo hV) (Nat.le_of_ble_eq_true rfl) ⟨Nat.le_of_ble_eq_true rfl, Nat.le_of_ble_eq_true rfl⟩ rfl d_Mo_isSo_66 (c_Mo_deeperTold hV hq66) ?_
      refine g_iadd (pc := 69) hC d_Mo_isSo_69 ?_
      refine g_leti h (fun y70 h => ?_)
      refine s_istore (pc := 70) hC (i := 4) (by decide) d_Mo_isSo_70 (lv2 := [some (.ref (V.2.2.1 0 0)), some (.int x1), some (.int x2), some (.int x3), some (.int y70), some (.int x5)]) rfl ?_
      refine s_iinc (pc := 72) hC (i := 5) (x := x5) (v := x5 + 1) rfl (by rw [kc_1]) (by decide) d_Mo_isSo_72 (lv2 := [some (.ref (V.2.2.1 0 0)), some (.int x1), some (.int x2), some (.int x3), some (.int y70), some (.int (x5 + 1))]) rfl ?_
      refine g_goto (pc := 75) hC (tgt := 30) (by decide) d_Mo_isSo_75 ?_
      exact hk30 x1 x2 x3 y70 (x5 + 1) h
theorem w_Mo_isSo_l30 {X : CX} {V : WV} (hV : IsM V) {S : Mem} {z : Int32} (hC : Ck X V bc_Mo_isSo 6 "SecretWellsModel" (some .boolean) 2 44) (k2 : Int32 → Int32 → Int32 → Option (Int32)) (hk2 : ∀ (x1 : Int32) (x2 : Int32) (x3 : Int32), k2 x1 x2 x3 = some z → G X V 6 (QI X V z S) 2 [some (.ref (V.2.2.1 0 0)), some (.int x1), some (.int x2), some (.int x3), none, none] [] S) : ∀ (n : Nat) (x1 : Int32) (x2 : Int32) (x3 : Int32) (x4 : Int32) (x5 : Int32), f_Mo_isSo_l30 S k2 n x1 x2 x3 x4 x5 = some z → G X V 6 (QI X V z S) 30 [some (.ref (V.2.2.1 0 0)), some (.int x1), some (.int x2), some (.int x3), some (.int x4), some (.int x5)] [] S := by
  intro n
  induction n with
  | zero =>
    intro x1 x2 x3 x4 x5 h
    have h : (none : Option (Int32)) = some z := h
    cases h
  | succ n ih =>
    intro x1 x2 x3 x4 x5 h
    exact w_Mo_isSo_b30 hV hC k2 hk2 (f_Mo_isSo_l30 S k2 n) ih x1 x2 x3 x4 x5 h
set_option maxRecDepth 20000 in
theorem w_Mo_isSo_b2 {X : CX} {V : WV} (hV : IsM V) {S : Mem} {z : Int32} (hC : Ck X V bc_Mo_isSo 6 "SecretWellsModel" (some .boolean) 2 44) (k2 : Int32 → Int32 → Int32 → Option (Int32)) (hk2 : ∀ (x1 : Int32) (x2 : Int32) (x3 : Int32), k2 x1 x2 x3 = some z → G X V 6 (QI X V z S) 2 [some (.ref (V.2.2.1 0 0)), some (.int x1), some (.int x2), some (.int x3), none, none] [] S) (x1 : Int32) (x2 : Int32) (x3 : Int32) (h : f_Mo_isSo_b2 S k2 x1 x2 x3 = some z) : G X V 6 (QI X V z S) 2 [some (.ref (V.2.2.1 0 0)), some (.int x1), some (.int x2), some (.int x3), none, none] [] S := by
  unfold f_Mo_isSo_b2 at h
  refine g_iload_n (pc := 2) hC (i := 3) (x := x3) rfl rfl d_Mo_isSo_2 ?_
  refine g_iload_n (pc := 3) hC (i := 2) (x := x2) rfl rfl d_Mo_isSo_3 ?_
  refine g_icmp_ge (pc := 4) hC (tgt := 97) (by decide) d_Mo_isSo_4 h (fun h => ?_) (fun h => ?_)
  · refine g_iconst (pc := 97) hC kc_1 d_Mo_isSo_97 ?_
    exact g_iN (pc := 98) hC rfl d_Mo_isSo_98 h
  · refine g_aload_n (pc := 7) hC (i := 0) (x := (V.2.2.1 0 0)) rfl rfl d_Mo_isSo_7 ?_
    refine g_getA (pc := 8) hC fo_Mo_52 (ob_Mo hV) rfl d_Mo_isSo_8 ?_
    refine g_iconst (pc := 11) hC kc_4 d_Mo_isSo_11 ?_
    refine g_aload_n (pc := 12) hC (i := 0) (x := (V.2.2.1 0 0)) rfl rfl d_Mo_isSo_12 ?_
    refine g_getI (pc := 13) hC fo_Mo_245 (ob_Mo hV) rfl d_Mo_isSo_13 ?_
    refine g_imul (pc := 16) hC d_Mo_isSo_16 ?_
    refine g_aload_n (pc := 17) hC (i := 0) (x := (V.2.2.1 0 0)) rfl rfl d_Mo_isSo_17 ?_
    refine g_getA (pc := 18) hC fo_Mo_149 (ob_Mo hV) rfl d_Mo_isSo_18 ?_
    refine g_iload_n (pc := 21) hC (i := 3) (x := x3) rfl rfl d_Mo_isSo_21 ?_
    refine g_iald (pc := 22) hC (ar_Mo_69 hV) d_Mo_isSo_22 h (fun h => ?_)
    refine g_iadd (pc := 23) hC d_Mo_isSo_23 ?_
    refine g_iald (pc := 24) hC (ar_Mo_25 hV) d_Mo_isSo_24 h (fun h => ?_)
    refine g_leti h (fun y25 h => ?_)
    refine s_istore (pc := 25) hC (i := 4) (by decide) d_Mo_isSo_25 (lv2 := [some (.ref (V.2.2.1 0 0)), some (.int x1), some (.int x2), some (.int x3), some (.int y25), none]) rfl ?_
    refine g_iconst (pc := 27) hC kc_0 d_Mo_isSo_27 ?_
    refine s_istore (pc := 28) hC (i := 5) (by decide) d_Mo_isSo_28 (lv2 := [some (.ref (V.2.2.1 0 0)), some (.int x1), some (.int x2), some (.int x3), some (.int y25), some (.int 0)]) rfl ?_
    exact w_Mo_isSo_l30 hV hC k2 hk2 5000 x1 x2 x3 y25 0 h
theorem w_Mo_isSo_l2 {X : CX} {V : WV} (hV : IsM V) {S : Mem} {z : Int32} (hC : Ck X V bc_Mo_isSo 6 "SecretWellsModel" (some .boolean) 2 44) : ∀ (n : Nat) (x1 : Int32) (x2 : Int32) (x3 : Int32), f_Mo_isSo_l2 S n x1 x2 x3 = some z → G X V 6 (QI X V z S) 2 [some (.ref (V.2.2.1 0 0)), some (.int x1), some (.int x2), some (.int x3), none, none] [] S := by
  intro n
  induction n with
  | zero =>
    intro x1 x2 x3 h
    have h : (none : Option (Int32)) = some z := h
    cases h
  | succ n ih =>
    intro x1 x2 x3 h
    exact w_Mo_isSo_b2 hV hC (f_Mo_isSo_l2 S n) ih x1 x2 x3 h
set_option maxRecDepth 20000 in
theorem w_Mo_isSo_b0 {X : CX} {V : WV} (hV : IsM V) {S : Mem} {z : Int32} (hC : Ck X V bc_Mo_isSo 6 "SecretWellsModel" (some .boolean) 2 44) (x1 : Int32) (x2 : Int32) (h : f_Mo_isSo_b0 S x1 x2 = some z) : G X V 6 (QI X V z S) 0 [some (.ref (V.2.2.1 0 0)), some (.int x1), some (.int x2), none, none, none] [] S := by
  unfold f_Mo_isSo_b0 at h
  refine g_iconst (pc := 0) hC kc_0 d_Mo_isSo_0 ?_
  refine s_istore_n (pc := 1) hC (i := 3) rfl (by decide) d_Mo_isSo_1 (lv2 := [some (.ref (V.2.2.1 0 0)), some (.int x1), some (.int x2), some (.int 0), none, none]) rfl ?_
  exact w_Mo_isSo_l2 hV hC 5000 x1 x2 0 h
theorem c_Mo_isSo {V : WV} {l : Launch} (hV : IsM V) {x1 : Int32} {x2 : Int32} {S : Mem} {z : Int32} (h : f_Mo_isSo x1 x2 S = some z) : CI V l y_Mo_isSo bc_Mo_isSo 6 (some .boolean) 2 44 [.ref (V.2.2.1 0 0), .int x1, .int x2] S z S :=
  ct_i rfl (IsM.ok hV) (Nat.le_of_ble_eq_true rfl) (fun _ _ hC => w_Mo_isSo_b0 hV hC x1 x2 h)
def f_Mo_truth_b24 (S : Mem) (k24 : Int32 → Int32 → Int32 → Int32 → Option (Int32)) (x1 : Int32) (x2 : Int32) (x3 : Int32) (x4 : Int32) : Option (Int32) :=
  gIn (S.1 0 18) 2 (
  if ((1 : Int32) <<< ((S.2.1 0 30 (S.1 0 18).toNatClampNeg) &&& 31)) ≤ x4 then
    if x2 = (-1) then
      some x3
    else
      some (-1)
  else
    Option.bind (f_Mo_isSo x4 x1 S) (fun q44 =>
    if q44 = 0 then
      k24 x1 x2 x3 (x4 + 1)
    else
      if x3 = x2 then
        some x4
      else
        k24 x1 x2 (x3 + 1) (x4 + 1)))
def f_Mo_truth_l24 (S : Mem) : Nat → Int32 → Int32 → Int32 → Int32 → Option (Int32)
  | 0 => fun _ _ _ _ => none
  | n + 1 => f_Mo_truth_b24 S (f_Mo_truth_l24 S n)
def f_Mo_truth_b0 (S : Mem) (x1 : Int32) (x2 : Int32) : Option (Int32) :=
  Option.bind (f_Mo_in x1 0 (S.1 0 68)) (fun q6 =>
  if q6 = 0 then
    some (-1)
  else
    if (-1) ≤ x2 then
      f_Mo_truth_l24 S 5000 x1 x2 0 0
    else
      some (-1))
def f_Mo_truth (x1 : Int32) (x2 : Int32) (S : Mem) : Option (Int32) := f_Mo_truth_b0 S x1 x2
theorem d_Mo_truth_0 : decode bc_Mo_truth 0 = .ok (.iload_n 1, 1) := by decide +kernel
theorem d_Mo_truth_1 : decode bc_Mo_truth 1 = .ok (.iconst 0, 1) := by decide +kernel
theorem d_Mo_truth_2 : decode bc_Mo_truth 2 = .ok (.aload_n 0, 1) := by decide +kernel
theorem d_Mo_truth_3 : decode bc_Mo_truth 3 = .ok (.getfield 266, 3) := by decide +kernel
theorem d_Mo_truth_6 : decode bc_Mo_truth 6 = .ok (.invokestatic 332, 3) := by decide +kernel
theorem d_Mo_truth_9 : decode bc_Mo_truth 9 = .ok (.ifCond .eq 8, 3) := by decide +kernel
theorem d_Mo_truth_12 : decode bc_Mo_truth 12 = .ok (.iload_n 2, 1) := by decide +kernel
theorem d_Mo_truth_13 : decode bc_Mo_truth 13 = .ok (.iconst (-1), 1) := by decide +kernel
theorem d_Mo_truth_14 : decode bc_Mo_truth 14 = .ok (.if_icmp .ge 5, 3) := by decide +kernel
theorem d_Mo_truth_17 : decode bc_Mo_truth 17 = .ok (.iconst (-1), 1) := by decide +kernel
theorem d_Mo_truth_18 : decode bc_Mo_truth 18 = .ok (.ireturn, 1) := by decide +kernel
theorem d_Mo_truth_19 : decode bc_Mo_truth 19 = .ok (.iconst 0, 1) := by decide +kernel
theorem d_Mo_truth_20 : decode bc_Mo_truth 20 = .ok (.istore_n 3, 1) := by decide +kernel
theorem d_Mo_truth_21 : decode bc_Mo_truth 21 = .ok (.iconst 0, 1) := by decide +kernel
theorem d_Mo_truth_22 : decode bc_Mo_truth 22 = .ok (.istore 4, 2) := by decide +kernel
theorem d_Mo_truth_24 : decode bc_Mo_truth 24 = .ok (.iload 4, 2) := by decide +kernel
theorem d_Mo_truth_26 : decode bc_Mo_truth 26 = .ok (.iconst 1, 1) := by decide +kernel
theorem d_Mo_truth_27 : decode bc_Mo_truth 27 = .ok (.aload_n 0, 1) := by decide +kernel
theorem d_Mo_truth_28 : decode bc_Mo_truth 28 = .ok (.getfield 67, 3) := by decide +kernel
theorem d_Mo_truth_31 : decode bc_Mo_truth 31 = .ok (.aload_n 0, 1) := by decide +kernel
theorem d_Mo_truth_32 : decode bc_Mo_truth 32 = .ok (.getfield 245, 3) := by decide +kernel
theorem d_Mo_truth_35 : decode bc_Mo_truth 35 = .ok (.iaload, 1) := by decide +kernel
theorem d_Mo_truth_36 : decode bc_Mo_truth 36 = .ok (.ishl, 1) := by decide +kernel
theorem d_Mo_truth_37 : decode bc_Mo_truth 37 = .ok (.if_icmp .ge 33, 3) := by decide +kernel
theorem d_Mo_truth_40 : decode bc_Mo_truth 40 = .ok (.aload_n 0, 1) := by decide +kernel
theorem d_Mo_truth_41 : decode bc_Mo_truth 41 = .ok (.iload 4, 2) := by decide +kernel
theorem d_Mo_truth_43 : decode bc_Mo_truth 43 = .ok (.iload_n 1, 1) := by decide +kernel
theorem d_Mo_truth_44 : decode bc_Mo_truth 44 = .ok (.invokevirtual 495, 3) := by decide +kernel
theorem d_Mo_truth_47 : decode bc_Mo_truth 47 = .ok (.ifCond .ne 6, 3) := by decide +kernel
theorem d_Mo_truth_50 : decode bc_Mo_truth 50 = .ok (.goto 14, 3) := by decide +kernel
theorem d_Mo_truth_53 : decode bc_Mo_truth 53 = .ok (.iload_n 3, 1) := by decide +kernel
theorem d_Mo_truth_54 : decode bc_Mo_truth 54 = .ok (.iload_n 2, 1) := by decide +kernel
theorem d_Mo_truth_55 : decode bc_Mo_truth 55 = .ok (.if_icmp .ne 6, 3) := by decide +kernel
theorem d_Mo_truth_58 : decode bc_Mo_truth 58 = .ok (.iload 4, 2) := by decide +kernel
theorem d_Mo_truth_60 : decode bc_Mo_truth 60 = .ok (.ireturn, 1) := by decide +kernel
theorem d_Mo_truth_61 : decode bc_Mo_truth 61 = .ok (.iinc 3 1, 3) := by decide +kernel
theorem d_Mo_truth_64 : decode bc_Mo_truth 64 = .ok (.iinc 4 1, 3) := by decide +kernel
theorem d_Mo_truth_67 : decode bc_Mo_truth 67 = .ok (.goto (-43), 3) := by decide +kernel
theorem d_Mo_truth_70 : decode bc_Mo_truth 70 = .ok (.iload_n 2, 1) := by decide +kernel
theorem d_Mo_truth_71 : decode bc_Mo_truth 71 = .ok (.iconst (-1), 1) := by decide +kernel
theorem d_Mo_truth_72 : decode bc_Mo_truth 72 = .ok (.if_icmp .ne 7, 3) := by decide +kernel
theorem d_Mo_truth_75 : decode bc_Mo_truth 75 = .ok (.iload_n 3, 1) := by decide +kernel
theorem d_Mo_truth_76 : decode bc_Mo_truth 76 = .ok (.goto 4, 3) := by decide +kernel
theorem d_Mo_truth_79 : decode bc_Mo_truth 79 = .ok (.iconst (-1), 1) := by decide +kernel
theorem d_Mo_truth_80 : decode bc_Mo_truth 80 = .ok (.ireturn, 1) := by decide +kernel
set_option maxRecDepth 20000 in
theorem w_Mo_truth_b24 {X : CX} {V : WV} (hV : IsM V) {S : Mem} {z : Int32} (hC : Ck X V bc_Mo_truth 5 "SecretWellsModel" (some .int) 3 69) (k24 : Int32 → Int32 → Int32 → Int32 → Option (Int32)) (hk24 : ∀ (x1 : Int32) (x2 : Int32) (x3 : Int32) (x4 : Int32), k24 x1 x2 x3 x4 = some z → G X V 5 (QI X V z S) 24 [some (.ref (V.2.2.1 0 0)), some (.int x1), some (.int x2), some (.int x3), some (.int x4)] [] S) (x1 : Int32) (x2 : Int32) (x3 : Int32) (x4 : Int32) (h : f_Mo_truth_b24 S k24 x1 x2 x3 x4 = some z) : G X V 5 (QI X V z S) 24 [some (.ref (V.2.2.1 0 0)), some (.int x1), some (.int x2), some (.int x3), some (.int x4)] [] S := by
  unfold f_Mo_truth_b24 at h
  refine g_iload (pc := 24) hC (i := 4) (x := x4) rfl d_Mo_truth_24 ?_
  refine g_iconst (pc := 26) hC kc_1 d_Mo_truth_26 ?_
  refine g_aload_n (pc := 27) hC (i := 0) (x := (V.2.2.1 0 0)) rfl rfl d_Mo_truth_27 ?_
  refine g_getA (pc := 28) hC fo_Mo_67 (ob_Mo hV) rfl d_Mo_truth_28 ?_
  refine g_aload_n (pc := 31) hC (i := 0) (x := (V.2.2.1 0 0)) rfl rfl d_Mo_truth_31 ?_
  refine g_getI (pc := 32) hC fo_Mo_245 (ob_Mo hV) rfl d_Mo_truth_32 ?_
  refine g_iald (pc := 35) hC (ar_Mo_30 hV) d_Mo_truth_35 h (fun h => ?_)
  refine g_ishl (pc := 36) hC d_Mo_truth_36 ?_
  refine g_icmp_ge (pc := 37) hC (tgt := 70) (by decide) d_Mo_truth_37 h (fun h => ?_) (fun h => ?_)
  · refine g_iload_n (pc := 70) hC (i := 2) (x := x2) rfl rfl d_Mo_truth_70 ?_
    refine g_iconst (pc := 71) hC kc_m1 d_Mo_truth_71 ?_
    refine g_icmp_ne (pc := 72) hC (tgt := 79) (by decide) d_Mo_truth_72 h (fun h => ?_) (fun h => ?_)
    · refine g_iconst (pc := 79) hC kc_m1 d_Mo_truth_79 ?_
      exact g_iN (pc := 80) hC rfl d_Mo_truth_80 h
    · refine g_iload_n (pc := 75) hC (i := 3) (x := x3) rfl rfl d_Mo_truth_75 ?_
      refine g_goto (pc := 76) hC (tgt := 80) (by decide) d_Mo_truth_76 ?_
      exact g_iN (pc := 80) hC rfl d_Mo_truth_80 h
  · refine g_aload_n (pc := 40) hC (i := 0) (x := (V.2.2.1 0 0)) rfl rfl d_Mo_truth_40 ?_
    refine g_iload (pc := 41) hC (i := 4) (x := x4) rfl d_Mo_truth_41 ?_
    refine g_iload_n (pc := 43) hC (i := 1) (x := x1) rfl rfl d_Mo_truth_43 ?_
    obtain ⟨q44, hq44, h⟩ := Option.bind_eq_some_iff.mp h
    refine g_vi (pc := 44) hC (As := [.int x4, .int x1]) (st := []) mt_Mo_isSo lk_Mo_495 rfl (ob_Mo hV) (Nat.le_of_ble_eq_true rfl) ⟨Nat.le_of_ble_eq_true rfl, Nat.le_of_ble_eq_true rfl⟩ rfl d_Mo_truth_44 (c_Mo_isSo hV hq44) ?_
    refine g_if_ne (pc := 47) hC (tgt := 53) (by decide) d_Mo_truth_47 h (fun h => ?_) (fun h => ?_)
    · refine g_iload_n (pc := 53) hC (i := 3) (x := x3) rfl rfl d_Mo_truth_53 ?_
      refine g_iload_n (pc := 54) hC (i := 2) (x := x2) rfl rfl d_Mo_truth_54 ?_
      refine g_icmp_ne (pc := 55) hC (tgt := 61) (by decide) d_Mo_truth_55 h (fun h => ?_) (fun h => ?_)
      · refine s_iinc (pc := 61) hC (i := 3) (x := x3) (v := x3 + 1) rfl (by rw [kc_1]) (by decide) d_Mo_truth_61 (lv2 := [some (.ref (V.2.2.1 0 0)), some (.int x1), some (.int x2), some (.int (x3 + 1)), some (.int x4)]) rfl ?_
        refine s_iinc (pc := 64) hC (i := 4) (x := x4) (v := x4 + 1) rfl (by rw [kc_1]) (by decide) d_Mo_truth_64 (lv2 := [some (.ref (V.2.2.1 0 0)), some (.int x1), some (.int x2), some (.int (x3 + 1)), some (.int (x4 + 1))]) rfl ?_
        refine g_goto (pc := 67) hC (tgt := 24) (by decide) d_Mo_truth_67 ?_
        exact hk24 x1 x2 (x3 + 1) (x4 + 1) h
      · refine g_iload (pc := 58) hC (i := 4) (x := x4) rfl d_Mo_truth_58 ?_
        exact g_iN (pc := 60) hC rfl d_Mo_truth_60 h
    · refine g_goto (pc := 50) hC (tgt := 64) (by decide) d_Mo_truth_50 ?_
      refine s_iinc (pc := 64) hC (i := 4) (x := x4) (v := x4 + 1) rfl (by rw [kc_1]) (by decide) d_Mo_truth_64 (lv2 := [some (.ref (V.2.2.1 0 0)), some (.int x1), some (.int x2), some (.int x3), some (.int (x4 + 1))]) rfl ?_
      refine g_goto (pc := 67) hC (tgt := 24) (by decide) d_Mo_truth_67 ?_
      exact hk24 x1 x2 x3 (x4 + 1) h
theorem w_Mo_truth_l24 {X : CX} {V : WV} (hV : IsM V) {S : Mem} {z : Int32} (hC : Ck X V bc_Mo_truth 5 "SecretWellsModel" (some .int) 3 69) : ∀ (n : Nat) (x1 : Int32) (x2 : Int32) (x3 : Int32) (x4 : Int32), f_Mo_truth_l24 S n x1 x2 x3 x4 = some z → G X V 5 (QI X V z S) 24 [some (.ref (V.2.2.1 0 0)), some (.int x1), some (.int x2), some (.int x3), some (.int x4)] [] S := by
  intro n
  induction n with
  | zero =>
    intro x1 x2 x3 x4 h
    have h : (none : Option (Int32)) = some z := h
    cases h
  | succ n ih =>
    intro x1 x2 x3 x4 h
    exact w_Mo_truth_b24 hV hC (f_Mo_truth_l24 S n) ih x1 x2 x3 x4 h
set_option maxRecDepth 20000 in
theorem w_Mo_truth_b0 {X : CX} {V : WV} (hV : IsM V) {S : Mem} {z : Int32} (hC : Ck X V bc_Mo_truth 5 "SecretWellsModel" (some .int) 3 69) (x1 : Int32) (x2 : Int32) (h : f_Mo_truth_b0 S x1 x2 = some z) : G X V 5 (QI X V z S) 0 [some (.ref (V.2.2.1 0 0)), some (.int x1), some (.int x2), none, none] [] S := by
  unfold f_Mo_truth_b0 at h
  refine g_iload_n (pc := 0) hC (i := 1) (x := x1) rfl rfl d_Mo_truth_0 ?_
  refine g_iconst (pc := 1) hC kc_0 d_Mo_truth_1 ?_
  refine g_aload_n (pc := 2) hC (i := 0) (x := (V.2.2.1 0 0)) rfl rfl d_Mo_truth_2 ?_
  refine g_getI (pc := 3) hC fo_Mo_266 (ob_Mo hV) rfl d_Mo_truth_3 ?_
  obtain ⟨q6, hq6, h⟩ := Option.bind_eq_some_iff.mp h
  refine g_si (pc := 6) hC (As := [.int x1, .int 0, .int (S.1 0 68)]) (st := []) mt_Mo_in lk_Mo_332 (Nat.le_of_ble_eq_true rfl) ⟨Nat.le_of_ble_eq_true rfl, Nat.le_of_ble_eq_true rfl⟩ rfl d_Mo_truth_6 (c_Mo_in (IsM.ok hV) hq6) ?_
  refine g_if_eq (pc := 9) hC (tgt := 17) (by decide) d_Mo_truth_9 h (fun h => ?_) (fun h => ?_)
  · refine g_iconst (pc := 17) hC kc_m1 d_Mo_truth_17 ?_
    exact g_iN (pc := 18) hC rfl d_Mo_truth_18 h
  · refine g_iload_n (pc := 12) hC (i := 2) (x := x2) rfl rfl d_Mo_truth_12 ?_
    refine g_iconst (pc := 13) hC kc_m1 d_Mo_truth_13 ?_
    refine g_icmp_ge (pc := 14) hC (tgt := 19) (by decide) d_Mo_truth_14 h (fun h => ?_) (fun h => ?_)
    · refine g_iconst (pc := 19) hC kc_0 d_Mo_truth_19 ?_
      refine s_istore_n (pc := 20) hC (i := 3) rfl (by decide) d_Mo_truth_20 (lv2 := [some (.ref (V.2.2.1 0 0)), some (.int x1), some (.int x2), some (.int 0), none]) rfl ?_
      refine g_iconst (pc := 21) hC kc_0 d_Mo_truth_21 ?_
      refine s_istore (pc := 22) hC (i := 4) (by decide) d_Mo_truth_22 (lv2 := [some (.ref (V.2.2.1 0 0)), some (.int x1), some (.int x2), some (.int 0), some (.int 0)]) rfl ?_
      exact w_Mo_truth_l24 hV hC 5000 x1 x2 0 0 h
    · refine g_iconst (pc := 17) hC kc_m1 d_Mo_truth_17 ?_
      exact g_iN (pc := 18) hC rfl d_Mo_truth_18 h
theorem c_Mo_truth {V : WV} {l : Launch} (hV : IsM V) {x1 : Int32} {x2 : Int32} {S : Mem} {z : Int32} (h : f_Mo_truth x1 x2 S = some z) : CI V l y_Mo_truth bc_Mo_truth 5 (some .int) 3 69 [.ref (V.2.2.1 0 0), .int x1, .int x2] S z S :=
  ct_i rfl (IsM.ok hV) (Nat.le_of_ble_eq_true rfl) (fun _ _ hC => w_Mo_truth_b0 hV hC x1 x2 h)
def f_Mo_sure_b71 (S : Mem) (k37 : Int32 → Int32 → Int32 → Int32 → Int32 → Int32 → Option (Int32)) (x1 : Int32) (x2 : Int32) (x3 : Int32) (x6 : Int32) (s0 : Int32) (s1 : Int32) : Option (Int32) :=
  letS (s1 &&& s0) (fun y72 =>
  k37 x1 x2 x3 y72 1 (x6 + 1))
def f_Mo_sure_b37 (S : Mem) (k37 : Int32 → Int32 → Int32 → Int32 → Int32 → Int32 → Option (Int32)) (x1 : Int32) (x2 : Int32) (x3 : Int32) (x4 : Int32) (x5 : Int32) (x6 : Int32) : Option (Int32) :=
  if x3 < x6 then
    if x5 = 0 then
      some 0
    else
      some x4
  else
    Option.bind (f_Mo_isSo x6 x1 S) (fun q47 =>
    if q47 = 0 then
      k37 x1 x2 x3 x4 x5 (x6 + 1)
    else
      if x2 = 0 then
        f_Mo_sure_b71 S k37 x1 x2 x3 x6 x6 x4
      else
        f_Mo_sure_b71 S k37 x1 x2 x3 x6 (x6 ^^^ (-1)) x4)
def f_Mo_sure_l37 (S : Mem) : Nat → Int32 → Int32 → Int32 → Int32 → Int32 → Int32 → Option (Int32)
  | 0 => fun _ _ _ _ _ _ => none
  | n + 1 => f_Mo_sure_b37 S (f_Mo_sure_l37 S n)
def f_Mo_sure_b0 (S : Mem) (x1 : Int32) (x2 : Int32) : Option (Int32) :=
  Option.bind (f_Mo_in x1 0 (S.1 0 68)) (fun q6 =>
  if q6 = 0 then
    some (-1)
  else
    gIn (S.1 0 18) 2 (
    letS (((1 : Int32) <<< ((S.2.1 0 30 (S.1 0 18).toNatClampNeg) &&& 31)) - 1) (fun y27 =>
    f_Mo_sure_l37 S 5000 x1 x2 y27 y27 0 0)))
def f_Mo_sure (x1 : Int32) (x2 : Int32) (S : Mem) : Option (Int32) := f_Mo_sure_b0 S x1 x2
theorem d_Mo_sure_0 : decode bc_Mo_sure 0 = .ok (.iload_n 1, 1) := by decide +kernel
theorem d_Mo_sure_1 : decode bc_Mo_sure 1 = .ok (.iconst 0, 1) := by decide +kernel
theorem d_Mo_sure_2 : decode bc_Mo_sure 2 = .ok (.aload_n 0, 1) := by decide +kernel
theorem d_Mo_sure_3 : decode bc_Mo_sure 3 = .ok (.getfield 266, 3) := by decide +kernel
theorem d_Mo_sure_6 : decode bc_Mo_sure 6 = .ok (.invokestatic 332, 3) := by decide +kernel
theorem d_Mo_sure_9 : decode bc_Mo_sure 9 = .ok (.ifCond .ne 5, 3) := by decide +kernel
theorem d_Mo_sure_12 : decode bc_Mo_sure 12 = .ok (.iconst (-1), 1) := by decide +kernel
theorem d_Mo_sure_13 : decode bc_Mo_sure 13 = .ok (.ireturn, 1) := by decide +kernel
theorem d_Mo_sure_14 : decode bc_Mo_sure 14 = .ok (.iconst 1, 1) := by decide +kernel
theorem d_Mo_sure_15 : decode bc_Mo_sure 15 = .ok (.aload_n 0, 1) := by decide +kernel
theorem d_Mo_sure_16 : decode bc_Mo_sure 16 = .ok (.getfield 67, 3) := by decide +kernel
theorem d_Mo_sure_19 : decode bc_Mo_sure 19 = .ok (.aload_n 0, 1) := by decide +kernel
theorem d_Mo_sure_20 : decode bc_Mo_sure 20 = .ok (.getfield 245, 3) := by decide +kernel
theorem d_Mo_sure_23 : decode bc_Mo_sure 23 = .ok (.iaload, 1) := by decide +kernel
theorem d_Mo_sure_24 : decode bc_Mo_sure 24 = .ok (.ishl, 1) := by decide +kernel
theorem d_Mo_sure_25 : decode bc_Mo_sure 25 = .ok (.iconst 1, 1) := by decide +kernel
theorem d_Mo_sure_26 : decode bc_Mo_sure 26 = .ok (.isub, 1) := by decide +kernel
theorem d_Mo_sure_27 : decode bc_Mo_sure 27 = .ok (.istore_n 3, 1) := by decide +kernel
theorem d_Mo_sure_28 : decode bc_Mo_sure 28 = .ok (.iload_n 3, 1) := by decide +kernel
theorem d_Mo_sure_29 : decode bc_Mo_sure 29 = .ok (.istore 4, 2) := by decide +kernel
theorem d_Mo_sure_31 : decode bc_Mo_sure 31 = .ok (.iconst 0, 1) := by decide +kernel
theorem d_Mo_sure_32 : decode bc_Mo_sure 32 = .ok (.istore 5, 2) := by decide +kernel
theorem d_Mo_sure_34 : decode bc_Mo_sure 34 = .ok (.iconst 0, 1) := by decide +kernel
theorem d_Mo_sure_35 : decode bc_Mo_sure 35 = .ok (.istore 6, 2) := by decide +kernel
theorem d_Mo_sure_37 : decode bc_Mo_sure 37 = .ok (.iload 6, 2) := by decide +kernel
theorem d_Mo_sure_39 : decode bc_Mo_sure 39 = .ok (.iload_n 3, 1) := by decide +kernel
theorem d_Mo_sure_40 : decode bc_Mo_sure 40 = .ok (.if_icmp .gt 43, 3) := by decide +kernel
theorem d_Mo_sure_43 : decode bc_Mo_sure 43 = .ok (.aload_n 0, 1) := by decide +kernel
theorem d_Mo_sure_44 : decode bc_Mo_sure 44 = .ok (.iload 6, 2) := by decide +kernel
theorem d_Mo_sure_46 : decode bc_Mo_sure 46 = .ok (.iload_n 1, 1) := by decide +kernel
theorem d_Mo_sure_47 : decode bc_Mo_sure 47 = .ok (.invokevirtual 495, 3) := by decide +kernel
theorem d_Mo_sure_50 : decode bc_Mo_sure 50 = .ok (.ifCond .ne 6, 3) := by decide +kernel
theorem d_Mo_sure_53 : decode bc_Mo_sure 53 = .ok (.goto 24, 3) := by decide +kernel
theorem d_Mo_sure_56 : decode bc_Mo_sure 56 = .ok (.iload 4, 2) := by decide +kernel
theorem d_Mo_sure_58 : decode bc_Mo_sure 58 = .ok (.iload_n 2, 1) := by decide +kernel
theorem d_Mo_sure_59 : decode bc_Mo_sure 59 = .ok (.ifCond .eq 10, 3) := by decide +kernel
theorem d_Mo_sure_62 : decode bc_Mo_sure 62 = .ok (.iload 6, 2) := by decide +kernel
theorem d_Mo_sure_64 : decode bc_Mo_sure 64 = .ok (.iconst (-1), 1) := by decide +kernel
theorem d_Mo_sure_65 : decode bc_Mo_sure 65 = .ok (.ixor, 1) := by decide +kernel
theorem d_Mo_sure_66 : decode bc_Mo_sure 66 = .ok (.goto 5, 3) := by decide +kernel
theorem d_Mo_sure_69 : decode bc_Mo_sure 69 = .ok (.iload 6, 2) := by decide +kernel
theorem d_Mo_sure_71 : decode bc_Mo_sure 71 = .ok (.iand, 1) := by decide +kernel
theorem d_Mo_sure_72 : decode bc_Mo_sure 72 = .ok (.istore 4, 2) := by decide +kernel
theorem d_Mo_sure_74 : decode bc_Mo_sure 74 = .ok (.iconst 1, 1) := by decide +kernel
theorem d_Mo_sure_75 : decode bc_Mo_sure 75 = .ok (.istore 5, 2) := by decide +kernel
theorem d_Mo_sure_77 : decode bc_Mo_sure 77 = .ok (.iinc 6 1, 3) := by decide +kernel
theorem d_Mo_sure_80 : decode bc_Mo_sure 80 = .ok (.goto (-43), 3) := by decide +kernel
theorem d_Mo_sure_83 : decode bc_Mo_sure 83 = .ok (.iload 5, 2) := by decide +kernel
theorem d_Mo_sure_85 : decode bc_Mo_sure 85 = .ok (.ifCond .eq 8, 3) := by decide +kernel
theorem d_Mo_sure_88 : decode bc_Mo_sure 88 = .ok (.iload 4, 2) := by decide +kernel
theorem d_Mo_sure_90 : decode bc_Mo_sure 90 = .ok (.goto 4, 3) := by decide +kernel
theorem d_Mo_sure_93 : decode bc_Mo_sure 93 = .ok (.iconst 0, 1) := by decide +kernel
theorem d_Mo_sure_94 : decode bc_Mo_sure 94 = .ok (.ireturn, 1) := by decide +kernel
set_option maxRecDepth 20000 in
theorem w_Mo_sure_b71 {X : CX} {V : WV} (hV : IsM V) {S : Mem} {z : Int32} (hC : Ck X V bc_Mo_sure 7 "SecretWellsModel" (some .int) 3 69) (k37 : Int32 → Int32 → Int32 → Int32 → Int32 → Int32 → Option (Int32)) (hk37 : ∀ (x1 : Int32) (x2 : Int32) (x3 : Int32) (x4 : Int32) (x5 : Int32) (x6 : Int32), k37 x1 x2 x3 x4 x5 x6 = some z → G X V 7 (QI X V z S) 37 [some (.ref (V.2.2.1 0 0)), some (.int x1), some (.int x2), some (.int x3), some (.int x4), some (.int x5), some (.int x6)] [] S) (x1 : Int32) (x2 : Int32) (x3 : Int32) (x6 : Int32) (s0 : Int32) (s1 : Int32) (h : f_Mo_sure_b71 S k37 x1 x2 x3 x6 s0 s1 = some z) : G X V 7 (QI X V z S) 71 [some (.ref (V.2.2.1 0 0)), some (.int x1), some (.int x2), some (.int x3), none, none, some (.int x6)] [.int s0, .int s1] S := by
  unfold f_Mo_sure_b71 at h
  refine g_iand (pc := 71) hC d_Mo_sure_71 ?_
  refine g_leti h (fun y72 h => ?_)
  refine s_istore (pc := 72) hC (i := 4) (by decide) d_Mo_sure_72 (lv2 := [some (.ref (V.2.2.1 0 0)), some (.int x1), some (.int x2), some (.int x3), some (.int y72), none, some (.int x6)]) rfl ?_
  refine g_iconst (pc := 74) hC kc_1 d_Mo_sure_74 ?_
  refine s_istore (pc := 75) hC (i := 5) (by decide) d_Mo_sure_75 (lv2 := [some (.ref (V.2.2.1 0 0)), some (.int x1), some (.int x2), some (.int x3), some (.int y72), some (.int 1), some (.int x6)]) rfl ?_
  refine s_iinc (pc := 77) hC (i := 6) (x := x6) (v := x6 + 1) rfl (by rw [kc_1]) (by decide) d_Mo_sure_77 (lv2 := [some (.ref (V.2.2.1 0 0)), some (.int x1), some (.int x2), some (.int x3), some (.int y72), some (.int 1), some (.int (x6 + 1))]) rfl ?_
  refine g_goto (pc := 80) hC (tgt := 37) (by decide) d_Mo_sure_80 ?_
  exact hk37 x1 x2 x3 y72 1 (x6 + 1) h
set_option maxRecDepth 20000 in
theorem w_Mo_sure_b37 {X : CX} {V : WV} (hV : IsM V) {S : Mem} {z : Int32} (hC : Ck X V bc_Mo_sure 7 "SecretWellsModel" (some .int) 3 69) (k37 : Int32 → Int32 → Int32 → Int32 → Int32 → Int32 → Option (Int32)) (hk37 : ∀ (x1 : Int32) (x2 : Int32) (x3 : Int32) (x4 : Int32) (x5 : Int32) (x6 : Int32), k37 x1 x2 x3 x4 x5 x6 = some z → G X V 7 (QI X V z S) 37 [some (.ref (V.2.2.1 0 0)), some (.int x1), some (.int x2), some (.int x3), some (.int x4), some (.int x5), some (.int x6)] [] S) (x1 : Int32) (x2 : Int32) (x3 : Int32) (x4 : Int32) (x5 : Int32) (x6 : Int32) (h : f_Mo_sure_b37 S k37 x1 x2 x3 x4 x5 x6 = some z) : G X V 7 (QI X V z S) 37 [some (.ref (V.2.2.1 0 0)), some (.int x1), some (.int x2), some (.int x3), some (.int x4), some (.int x5), some (.int x6)] [] S := by
  unfold f_Mo_sure_b37 at h
  refine g_iload (pc := 37) hC (i := 6) (x := x6) rfl d_Mo_sure_37 ?_
  refine g_iload_n (pc := 39) hC (i := 3) (x := x3) rfl rfl d_Mo_sure_39 ?_
  refine g_icmp_gt (pc := 40) hC (tgt := 83) (by decide) d_Mo_sure_40 h (fun h => ?_) (fun h => ?_)
  · refine g_iload (pc := 83) hC (i := 5) (x := x5) rfl d_Mo_sure_83 ?_
    refine g_if_eq (pc := 85) hC (tgt := 93) (by decide) d_Mo_sure_85 h (fun h => ?_) (fun h => ?_)
    · refine g_iconst (pc := 93) hC kc_0 d_Mo_sure_93 ?_
      exact g_iN (pc := 94) hC rfl d_Mo_sure_94 h
    · refine g_iload (pc := 88) hC (i := 4) (x := x4) rfl d_Mo_sure_88 ?_
      refine g_goto (pc := 90) hC (tgt := 94) (by decide) d_Mo_sure_90 ?_
      exact g_iN (pc := 94) hC rfl d_Mo_sure_94 h
  · refine g_aload_n (pc := 43) hC (i := 0) (x := (V.2.2.1 0 0)) rfl rfl d_Mo_sure_43 ?_
    refine g_iload (pc := 44) hC (i := 6) (x := x6) rfl d_Mo_sure_44 ?_
    refine g_iload_n (pc := 46) hC (i := 1) (x := x1) rfl rfl d_Mo_sure_46 ?_
    obtain ⟨q47, hq47, h⟩ := Option.bind_eq_some_iff.mp h
    refine g_vi (pc := 47) hC (As := [.int x6, .int x1]) (st := []) mt_Mo_isSo lk_Mo_495 rfl (ob_Mo hV) (Nat.le_of_ble_eq_true rfl) ⟨Nat.le_of_ble_eq_true rfl, Nat.le_of_ble_eq_true rfl⟩ rfl d_Mo_sure_47 (c_Mo_isSo hV hq47) ?_
    refine g_if_ne (pc := 50) hC (tgt := 56) (by decide) d_Mo_sure_50 h (fun h => ?_) (fun h => ?_)
    · refine g_iload (pc := 56) hC (i := 4) (x := x4) rfl d_Mo_sure_56 ?_
      refine g_iload_n (pc := 58) hC (i := 2) (x := x2) rfl rfl d_Mo_sure_58 ?_
      refine g_if_eq (pc := 59) hC (tgt := 69) (by decide) d_Mo_sure_59 h (fun h => ?_) (fun h => ?_)
      · refine g_iload (pc := 69) hC (i := 6) (x := x6) rfl d_Mo_sure_69 ?_
        refine g_le (lv2 := [some (.ref (V.2.2.1 0 0)), some (.int x1), some (.int x2), some (.int x3), none, none, some (.int x6)]) (⟨rfl, ⟨rfl, ⟨rfl, ⟨rfl, ⟨rfl, trivial⟩⟩⟩⟩⟩) ?_
        exact w_Mo_sure_b71 hV hC k37 hk37 x1 x2 x3 x6 x6 x4 h
      · refine g_iload (pc := 62) hC (i := 6) (x := x6) rfl d_Mo_sure_62 ?_
        refine g_iconst (pc := 64) hC kc_m1 d_Mo_sure_64 ?_
        refine g_ixor (pc := 65) hC d_Mo_sure_65 ?_
        refine g_goto (pc := 66) hC (tgt := 71) (by decide) d_Mo_sure_66 ?_
        refine g_le (lv2 := [some (.ref (V.2.2.1 0 0)), some (.int x1), some (.int x2), some (.int x3), none, none, some (.int x6)]) (⟨rfl, ⟨rfl, ⟨rfl, ⟨rfl, ⟨rfl, trivial⟩⟩⟩⟩⟩) ?_
        exact w_Mo_sure_b71 hV hC k37 hk37 x1 x2 x3 x6 (x6 ^^^ (-1)) x4 h
    · refine g_goto (pc := 53) hC (tgt := 77) (by decide) d_Mo_sure_53 ?_
      refine s_iinc (pc := 77) hC (i := 6) (x := x6) (v := x6 + 1) rfl (by rw [kc_1]) (by decide) d_Mo_sure_77 (lv2 := [some (.ref (V.2.2.1 0 0)), some (.int x1), some (.int x2), some (.int x3), some (.int x4), some (.int x5), some (.int (x6 + 1))]) rfl ?_
      refine g_goto (pc := 80) hC (tgt := 37) (by decide) d_Mo_sure_80 ?_
      exact hk37 x1 x2 x3 x4 x5 (x6 + 1) h
theorem w_Mo_sure_l37 {X : CX} {V : WV} (hV : IsM V) {S : Mem} {z : Int32} (hC : Ck X V bc_Mo_sure 7 "SecretWellsModel" (some .int) 3 69) : ∀ (n : Nat) (x1 : Int32) (x2 : Int32) (x3 : Int32) (x4 : Int32) (x5 : Int32) (x6 : Int32), f_Mo_sure_l37 S n x1 x2 x3 x4 x5 x6 = some z → G X V 7 (QI X V z S) 37 [some (.ref (V.2.2.1 0 0)), some (.int x1), some (.int x2), some (.int x3), some (.int x4), some (.int x5), some (.int x6)] [] S := by
  intro n
  induction n with
  | zero =>
    intro x1 x2 x3 x4 x5 x6 h
    have h : (none : Option (Int32)) = some z := h
    cases h
  | succ n ih =>
    intro x1 x2 x3 x4 x5 x6 h
    exact w_Mo_sure_b37 hV hC (f_Mo_sure_l37 S n) ih x1 x2 x3 x4 x5 x6 h
set_option maxRecDepth 20000 in
theorem w_Mo_sure_b0 {X : CX} {V : WV} (hV : IsM V) {S : Mem} {z : Int32} (hC : Ck X V bc_Mo_sure 7 "SecretWellsModel" (some .int) 3 69) (x1 : Int32) (x2 : Int32) (h : f_Mo_sure_b0 S x1 x2 = some z) : G X V 7 (QI X V z S) 0 [some (.ref (V.2.2.1 0 0)), some (.int x1), some (.int x2), none, none, none, none] [] S := by
  unfold f_Mo_sure_b0 at h
  refine g_iload_n (pc := 0) hC (i := 1) (x := x1) rfl rfl d_Mo_sure_0 ?_
  refine g_iconst (pc := 1) hC kc_0 d_Mo_sure_1 ?_
  refine g_aload_n (pc := 2) hC (i := 0) (x := (V.2.2.1 0 0)) rfl rfl d_Mo_sure_2 ?_
  refine g_getI (pc := 3) hC fo_Mo_266 (ob_Mo hV) rfl d_Mo_sure_3 ?_
  obtain ⟨q6, hq6, h⟩ := Option.bind_eq_some_iff.mp h
  refine g_si (pc := 6) hC (As := [.int x1, .int 0, .int (S.1 0 68)]) (st := []) mt_Mo_in lk_Mo_332 (Nat.le_of_ble_eq_true rfl) ⟨Nat.le_of_ble_eq_true rfl, Nat.le_of_ble_eq_true rfl⟩ rfl d_Mo_sure_6 (c_Mo_in (IsM.ok hV) hq6) ?_
  refine g_if_ne (pc := 9) hC (tgt := 14) (by decide) d_Mo_sure_9 h (fun h => ?_) (fun h => ?_)
  · refine g_iconst (pc := 14) hC kc_1 d_Mo_sure_14 ?_
    refine g_aload_n (pc := 15) hC (i := 0) (x := (V.2.2.1 0 0)) rfl rfl d_Mo_sure_15 ?_
    refine g_getA (pc := 16) hC fo_Mo_67 (ob_Mo hV) rfl d_Mo_sure_16 ?_
    refine g_aload_n (pc := 19) hC (i := 0) (x := (V.2.2.1 0 0)) rfl rfl d_Mo_sure_19 ?_
    refine g_getI (pc := 20) hC fo_Mo_245 (ob_Mo hV) rfl d_Mo_sure_20 ?_
    refine g_iald (pc := 23) hC (ar_Mo_30 hV) d_Mo_sure_23 h (fun h => ?_)
    refine g_ishl (pc := 24) hC d_Mo_sure_24 ?_
    refine g_iconst (pc := 25) hC kc_1 d_Mo_sure_25 ?_
    refine g_isub (pc := 26) hC d_Mo_sure_26 ?_
    refine g_leti h (fun y27 h => ?_)
    refine s_istore_n (pc := 27) hC (i := 3) rfl (by decide) d_Mo_sure_27 (lv2 := [some (.ref (V.2.2.1 0 0)), some (.int x1), some (.int x2), some (.int y27), none, none, none]) rfl ?_
    refine g_iload_n (pc := 28) hC (i := 3) (x := y27) rfl rfl d_Mo_sure_28 ?_
    refine s_istore (pc := 29) hC (i := 4) (by decide) d_Mo_sure_29 (lv2 := [some (.ref (V.2.2.1 0 0)), some (.int x1), some (.int x2), some (.int y27), some (.int y27), none, none]) rfl ?_
    refine g_iconst (pc := 31) hC kc_0 d_Mo_sure_31 ?_
    refine s_istore (pc := 32) hC (i := 5) (by decide) d_Mo_sure_32 (lv2 := [some (.ref (V.2.2.1 0 0)), some (.int x1), some (.int x2), some (.int y27), some (.int y27), some (.int 0), none]) rfl ?_
    refine g_iconst (pc := 34) hC kc_0 d_Mo_sure_34 ?_
    refine s_istore (pc := 35) hC (i := 6) (by decide) d_Mo_sure_35 (lv2 := [some (.ref (V.2.2.1 0 0)), some (.int x1), some (.int x2), some (.int y27), some (.int y27), some (.int 0), some (.int 0)]) rfl ?_
    exact w_Mo_sure_l37 hV hC 5000 x1 x2 y27 y27 0 0 h
  · refine g_iconst (pc := 12) hC kc_m1 d_Mo_sure_12 ?_
    exact g_iN (pc := 13) hC rfl d_Mo_sure_13 h
theorem c_Mo_sure {V : WV} {l : Launch} (hV : IsM V) {x1 : Int32} {x2 : Int32} {S : Mem} {z : Int32} (h : f_Mo_sure x1 x2 S = some z) : CI V l y_Mo_sure bc_Mo_sure 7 (some .int) 3 69 [.ref (V.2.2.1 0 0), .int x1, .int x2] S z S :=
  ct_i rfl (IsM.ok hV) (Nat.le_of_ble_eq_true rfl) (fun _ _ hC => w_Mo_sure_b0 hV hC x1 x2 h)
def f_Mo_next_b152 (S : Mem) (k48 : Int32 → Int32 → Int32 → Int32 → Int32 → Option (Int32)) (x1 : Int32) (x2 : Int32) (x3 : Int32) (x4 : Int32) (x5 : Int32) (x6 : Int32) (s0 : Int32) : Option (Int32) :=
  if x6 = 0 then
    k48 x1 x2 x3 x4 (x5 + 1)
  else
    if x3 < 0 then
      k48 x1 x2 x5 s0 (x5 + 1)
    else
      if s0 < x4 then
        k48 x1 x2 x5 s0 (x5 + 1)
      else
        k48 x1 x2 x3 x4 (x5 + 1)
def f_Mo_next_b71 (S : Mem) (k48 : Int32 → Int32 → Int32 → Int32 → Int32 → Option (Int32)) (k71 : Int32 → Int32 → Int32 → Int32 → Int32 → Int32 → Int32 → Int32 → Option (Int32)) (x1 : Int32) (x2 : Int32) (x3 : Int32) (x4 : Int32) (x5 : Int32) (x6 : Int32) (x7 : Int32) (x8 : Int32) : Option (Int32) :=
  gIn (S.1 0 18) 2 (
  if ((1 : Int32) <<< ((S.2.1 0 30 (S.1 0 18).toNatClampNeg) &&& 31)) ≤ x8 then
    if x7 ≤ (x6 - x7) then
      f_Mo_next_b152 S k48 x1 x2 x3 x4 x5 x6 (x6 - x7)
    else
      f_Mo_next_b152 S k48 x1 x2 x3 x4 x5 x6 x7
  else
    Option.bind (f_Mo_isSo x8 x1 S) (fun q91 =>
    if q91 = 0 then
      k71 x1 x2 x3 x4 x5 x6 x7 (x8 + 1)
    else
      if ((x8 >>> (x5 &&& 31)) &&& 1) = 1 then
        Option.bind (f_Mo_deeperTold x5 S) (fun q117 =>
        if q117 ≤ 0 then
          k71 x1 x2 x3 x4 x5 (x6 + 1) x7 (x8 + 1)
        else
          k71 x1 x2 x3 x4 x5 (x6 + 1) (x7 + 1) (x8 + 1))
      else
        k71 x1 x2 x3 x4 x5 (x6 + 1) x7 (x8 + 1)))
def f_Mo_next_l71 (S : Mem) (k48 : Int32 → Int32 → Int32 → Int32 → Int32 → Option (Int32)) : Nat → Int32 → Int32 → Int32 → Int32 → Int32 → Int32 → Int32 → Int32 → Option (Int32)
  | 0 => fun _ _ _ _ _ _ _ _ => none
  | n + 1 => f_Mo_next_b71 S k48 (f_Mo_next_l71 S k48 n)
def f_Mo_next_b48 (S : Mem) (k48 : Int32 → Int32 → Int32 → Int32 → Int32 → Option (Int32)) (x1 : Int32) (x2 : Int32) (x3 : Int32) (x4 : Int32) (x5 : Int32) : Option (Int32) :=
  gIn (S.1 0 18) 2 (
  if (S.2.1 0 30 (S.1 0 18).toNatClampNeg) ≤ x5 then
    if x2 = 0 then
      some x3
    else
      some x4
  else
    f_Mo_next_l71 S k48 5000 x1 x2 x3 x4 x5 0 0 0)
def f_Mo_next_l48 (S : Mem) : Nat → Int32 → Int32 → Int32 → Int32 → Int32 → Option (Int32)
  | 0 => fun _ _ _ _ _ => none
  | n + 1 => f_Mo_next_b48 S (f_Mo_next_l48 S n)
def f_Mo_next_b0 (S : Mem) (x1 : Int32) (x2 : Int32) : Option (Int32) :=
  Option.bind (f_Mo_in x1 0 (S.1 0 68)) (fun q6 =>
  if q6 = 0 then
    some (-1)
  else
    Option.bind (f_Mo_in x2 0 1) (fun q15 =>
    if q15 = 0 then
      some (-1)
    else
      gIn (S.1 0 18) 2 (
      if (S.2.1 0 24 (S.1 0 18).toNatClampNeg) = 0 then
        some (-2)
      else
        f_Mo_next_l48 S 5000 x1 x2 (-2) (-2) 0)))
def f_Mo_next (x1 : Int32) (x2 : Int32) (S : Mem) : Option (Int32) := f_Mo_next_b0 S x1 x2
theorem d_Mo_next_0 : decode bc_Mo_next 0 = .ok (.iload_n 1, 1) := by decide +kernel
theorem d_Mo_next_1 : decode bc_Mo_next 1 = .ok (.iconst 0, 1) := by decide +kernel
theorem d_Mo_next_2 : decode bc_Mo_next 2 = .ok (.aload_n 0, 1) := by decide +kernel
theorem d_Mo_next_3 : decode bc_Mo_next 3 = .ok (.getfield 266, 3) := by decide +kernel
theorem d_Mo_next_6 : decode bc_Mo_next 6 = .ok (.invokestatic 332, 3) := by decide +kernel
theorem d_Mo_next_9 : decode bc_Mo_next 9 = .ok (.ifCond .eq 12, 3) := by decide +kernel
theorem d_Mo_next_12 : decode bc_Mo_next 12 = .ok (.iload_n 2, 1) := by decide +kernel
theorem d_Mo_next_13 : decode bc_Mo_next 13 = .ok (.iconst 0, 1) := by decide +kernel
theorem d_Mo_next_14 : decode bc_Mo_next 14 = .ok (.iconst 1, 1) := by decide +kernel
theorem d_Mo_next_15 : decode bc_Mo_next 15 = .ok (.invokestatic 332, 3) := by decide +kernel
theorem d_Mo_next_18 : decode bc_Mo_next 18 = .ok (.ifCond .ne 5, 3) := by decide +kernel
theorem d_Mo_next_21 : decode bc_Mo_next 21 = .ok (.iconst (-1), 1) := by decide +kernel
theorem d_Mo_next_22 : decode bc_Mo_next 22 = .ok (.ireturn, 1) := by decide +kernel
theorem d_Mo_next_23 : decode bc_Mo_next 23 = .ok (.aload_n 0, 1) := by decide +kernel
theorem d_Mo_next_24 : decode bc_Mo_next 24 = .ok (.getfield 49, 3) := by decide +kernel
theorem d_Mo_next_27 : decode bc_Mo_next 27 = .ok (.aload_n 0, 1) := by decide +kernel
theorem d_Mo_next_28 : decode bc_Mo_next 28 = .ok (.getfield 245, 3) := by decide +kernel
theorem d_Mo_next_31 : decode bc_Mo_next 31 = .ok (.iaload, 1) := by decide +kernel
theorem d_Mo_next_32 : decode bc_Mo_next 32 = .ok (.ifCond .ne 6, 3) := by decide +kernel
theorem d_Mo_next_35 : decode bc_Mo_next 35 = .ok (.bipush (-2), 2) := by decide +kernel
theorem d_Mo_next_37 : decode bc_Mo_next 37 = .ok (.ireturn, 1) := by decide +kernel
theorem d_Mo_next_38 : decode bc_Mo_next 38 = .ok (.bipush (-2), 2) := by decide +kernel
theorem d_Mo_next_40 : decode bc_Mo_next 40 = .ok (.istore_n 3, 1) := by decide +kernel
theorem d_Mo_next_41 : decode bc_Mo_next 41 = .ok (.bipush (-2), 2) := by decide +kernel
theorem d_Mo_next_43 : decode bc_Mo_next 43 = .ok (.istore 4, 2) := by decide +kernel
theorem d_Mo_next_45 : decode bc_Mo_next 45 = .ok (.iconst 0, 1) := by decide +kernel
theorem d_Mo_next_46 : decode bc_Mo_next 46 = .ok (.istore 5, 2) := by decide +kernel
theorem d_Mo_next_48 : decode bc_Mo_next 48 = .ok (.iload 5, 2) := by decide +kernel
theorem d_Mo_next_50 : decode bc_Mo_next 50 = .ok (.aload_n 0, 1) := by decide +kernel
theorem d_Mo_next_51 : decode bc_Mo_next 51 = .ok (.getfield 67, 3) := by decide +kernel
theorem d_Mo_next_54 : decode bc_Mo_next 54 = .ok (.aload_n 0, 1) := by decide +kernel
theorem d_Mo_next_55 : decode bc_Mo_next 55 = .ok (.getfield 245, 3) := by decide +kernel
theorem d_Mo_next_58 : decode bc_Mo_next 58 = .ok (.iaload, 1) := by decide +kernel
theorem d_Mo_next_59 : decode bc_Mo_next 59 = .ok (.if_icmp .ge 127, 3) := by decide +kernel
theorem d_Mo_next_62 : decode bc_Mo_next 62 = .ok (.iconst 0, 1) := by decide +kernel
theorem d_Mo_next_63 : decode bc_Mo_next 63 = .ok (.istore 6, 2) := by decide +kernel
theorem d_Mo_next_65 : decode bc_Mo_next 65 = .ok (.iconst 0, 1) := by decide +kernel
theorem d_Mo_next_66 : decode bc_Mo_next 66 = .ok (.istore 7, 2) := by decide +kernel
theorem d_Mo_next_68 : decode bc_Mo_next 68 = .ok (.iconst 0, 1) := by decide +kernel
theorem d_Mo_next_69 : decode bc_Mo_next 69 = .ok (.istore 8, 2) := by decide +kernel
theorem d_Mo_next_71 : decode bc_Mo_next 71 = .ok (.iload 8, 2) := by decide +kernel
theorem d_Mo_next_73 : decode bc_Mo_next 73 = .ok (.iconst 1, 1) := by decide +kernel
theorem d_Mo_next_74 : decode bc_Mo_next 74 = .ok (.aload_n 0, 1) := by decide +kernel
theorem d_Mo_next_75 : decode bc_Mo_next 75 = .ok (.getfield 67, 3) := by decide +kernel
theorem d_Mo_next_78 : decode bc_Mo_next 78 = .ok (.aload_n 0, 1) := by decide +kernel
theorem d_Mo_next_79 : decode bc_Mo_next 79 = .ok (.getfield 245, 3) := by decide +kernel
theorem d_Mo_next_82 : decode bc_Mo_next 82 = .ok (.iaload, 1) := by decide +kernel
theorem d_Mo_next_83 : decode bc_Mo_next 83 = .ok (.ishl, 1) := by decide +kernel
theorem d_Mo_next_84 : decode bc_Mo_next 84 = .ok (.if_icmp .ge 48, 3) := by decide +kernel
theorem d_Mo_next_87 : decode bc_Mo_next 87 = .ok (.aload_n 0, 1) := by decide +kernel
theorem d_Mo_next_88 : decode bc_Mo_next 88 = .ok (.iload 8, 2) := by decide +kernel
theorem d_Mo_next_90 : decode bc_Mo_next 90 = .ok (.iload_n 1, 1) := by decide +kernel
theorem d_Mo_next_91 : decode bc_Mo_next 91 = .ok (.invokevirtual 495, 3) := by decide +kernel
theorem d_Mo_next_94 : decode bc_Mo_next 94 = .ok (.ifCond .ne 6, 3) := by decide +kernel
theorem d_Mo_next_97 : decode bc_Mo_next 97 = .ok (.goto 29, 3) := by decide +kernel
theorem d_Mo_next_100 : decode bc_Mo_next 100 = .ok (.iinc 6 1, 3) := by decide +kernel
theorem d_Mo_next_103 : decode bc_Mo_next 103 = .ok (.iload 8, 2) := by decide +kernel
theorem d_Mo_next_105 : decode bc_Mo_next 105 = .ok (.iload 5, 2) := by decide +kernel
theorem d_Mo_next_107 : decode bc_Mo_next 107 = .ok (.ishr, 1) := by decide +kernel
theorem d_Mo_next_108 : decode bc_Mo_next 108 = .ok (.iconst 1, 1) := by decide +kernel
theorem d_Mo_next_109 : decode bc_Mo_next 109 = .ok (.iand, 1) := by decide +kernel
theorem d_Mo_next_110 : decode bc_Mo_next 110 = .ok (.iconst 1, 1) := by decide +kernel
theorem d_Mo_next_111 : decode bc_Mo_next 111 = .ok (.if_icmp .ne 15, 3) := by decide +kernel
theorem d_Mo_next_114 : decode bc_Mo_next 114 = .ok (.aload_n 0, 1) := by decide +kernel
theorem d_Mo_next_115 : decode bc_Mo_next 115 = .ok (.iload 5, 2) := by decide +kernel
theorem d_Mo_next_117 : decode bc_Mo_next 117 = .ok (.invokevirtual 492, 3) := by decide +kernel
theorem d_Mo_next_120 : decode bc_Mo_next 120 = .ok (.ifCond .le 6, 3) := by decide +kernel
theorem d_Mo_next_123 : decode bc_Mo_next 123 = .ok (.iinc 7 1, 3) := by decide +kernel
theorem d_Mo_next_126 : decode bc_Mo_next 126 = .ok (.iinc 8 1, 3) := by decide +kernel
theorem d_Mo_next_129 : decode bc_Mo_next 129 = .ok (.goto (-58), 3) := by decide +kernel
theorem d_Mo_next_132 : decode bc_Mo_next 132 = .ok (.iload 7, 2) := by decide +kernel
theorem d_Mo_next_134 : decode bc_Mo_next 134 = .ok (.iload 6, 2) := by decide +kernel
theorem d_Mo_next_136 : decode bc_Mo_next 136 = .ok (.iload 7, 2) := by decide +kernel
theorem d_Mo_next_138 : decode bc_Mo_next 138 = .ok (.isub, 1) := by decide +kernel
theorem d_Mo_next_139 : decode bc_Mo_next 139 = .ok (.if_icmp .le 8, 3) := by decide +kernel
theorem d_Mo_next_142 : decode bc_Mo_next 142 = .ok (.iload 7, 2) := by decide +kernel
theorem d_Mo_next_144 : decode bc_Mo_next 144 = .ok (.goto 8, 3) := by decide +kernel
theorem d_Mo_next_147 : decode bc_Mo_next 147 = .ok (.iload 6, 2) := by decide +kernel
theorem d_Mo_next_149 : decode bc_Mo_next 149 = .ok (.iload 7, 2) := by decide +kernel
theorem d_Mo_next_151 : decode bc_Mo_next 151 = .ok (.isub, 1) := by decide +kernel
theorem d_Mo_next_152 : decode bc_Mo_next 152 = .ok (.istore 8, 2) := by decide +kernel
theorem d_Mo_next_154 : decode bc_Mo_next 154 = .ok (.iload 6, 2) := by decide +kernel
theorem d_Mo_next_156 : decode bc_Mo_next 156 = .ok (.ifCond .eq 24, 3) := by decide +kernel
theorem d_Mo_next_159 : decode bc_Mo_next 159 = .ok (.iload_n 3, 1) := by decide +kernel
theorem d_Mo_next_160 : decode bc_Mo_next 160 = .ok (.ifCond .lt 13, 3) := by decide +kernel
theorem d_Mo_next_163 : decode bc_Mo_next 163 = .ok (.iload 8, 2) := by decide +kernel
theorem d_Mo_next_165 : decode bc_Mo_next 165 = .ok (.iload 4, 2) := by decide +kernel
theorem d_Mo_next_167 : decode bc_Mo_next 167 = .ok (.if_icmp .lt 6, 3) := by decide +kernel
theorem d_Mo_next_170 : decode bc_Mo_next 170 = .ok (.goto 10, 3) := by decide +kernel
theorem d_Mo_next_173 : decode bc_Mo_next 173 = .ok (.iload 5, 2) := by decide +kernel
theorem d_Mo_next_175 : decode bc_Mo_next 175 = .ok (.istore_n 3, 1) := by decide +kernel
theorem d_Mo_next_176 : decode bc_Mo_next 176 = .ok (.iload 8, 2) := by decide +kernel
theorem d_Mo_next_178 : decode bc_Mo_next 178 = .ok (.istore 4, 2) := by decide +kernel
theorem d_Mo_next_180 : decode bc_Mo_next 180 = .ok (.iinc 5 1, 3) := by decide +kernel
theorem d_Mo_next_183 : decode bc_Mo_next 183 = .ok (.goto (-135), 3) := by decide +kernel
theorem d_Mo_next_186 : decode bc_Mo_next 186 = .ok (.iload_n 2, 1) := by decide +kernel
theorem d_Mo_next_187 : decode bc_Mo_next 187 = .ok (.ifCond .ne 7, 3) := by decide +kernel
theorem d_Mo_next_190 : decode bc_Mo_next 190 = .ok (.iload_n 3, 1) := by decide +kernel
theorem d_Mo_next_191 : decode bc_Mo_next 191 = .ok (.goto 5, 3) := by decide +kernel
theorem d_Mo_next_194 : decode bc_Mo_next 194 = .ok (.iload 4, 2) := by decide +kernel
theorem d_Mo_next_196 : decode bc_Mo_next 196 = .ok (.ireturn, 1) := by decide +kernel
set_option maxRecDepth 20000 in
theorem w_Mo_next_b152 {X : CX} {V : WV} (hV : IsM V) {S : Mem} {z : Int32} (hC : Ck X V bc_Mo_next 9 "SecretWellsModel" (some .int) 3 69) (k48 : Int32 → Int32 → Int32 → Int32 → Int32 → Option (Int32)) (hk48 : ∀ (x1 : Int32) (x2 : Int32) (x3 : Int32) (x4 : Int32) (x5 : Int32), k48 x1 x2 x3 x4 x5 = some z → G X V 9 (QI X V z S) 48 [some (.ref (V.2.2.1 0 0)), some (.int x1), some (.int x2), some (.int x3), some (.int x4), some (.int x5), none, none, none] [] S) (x1 : Int32) (x2 : Int32) (x3 : Int32) (x4 : Int32) (x5 : Int32) (x6 : Int32) (s0 : Int32) (h : f_Mo_next_b152 S k48 x1 x2 x3 x4 x5 x6 s0 = some z) : G X V 9 (QI X V z S) 152 [some (.ref (V.2.2.1 0 0)), some (.int x1), some (.int x2), some (.int x3), some (.int x4), some (.int x5), some (.int x6), none, none] [.int s0] S := by
  unfold f_Mo_next_b152 at h
  refine s_istore (pc := 152) hC (i := 8) (by decide) d_Mo_next_152 (lv2 := [some (.ref (V.2.2.1 0 0)), some (.int x1), some (.int x2), some (.int x3), some (.int x4), some (.int x5), some (.int x6), none, some (.int s0)]) rfl ?_
  refine g_iload (pc := 154) hC (i := 6) (x := x6) rfl d_Mo_next_154 ?_
  refine g_if_eq (pc := 156) hC (tgt := 180) (by decide) d_Mo_next_156 h (fun h => ?_) (fun h => ?_)
  · refine s_iinc (pc := 180) hC (i := 5) (x := x5) (v := x5 + 1) rfl (by rw [kc_1]) (by decide) d_Mo_next_180 (lv2 := [some (.ref (V.2.2.1 0 0)), some (.int x1), some (.int x2), some (.int x3), some (.int x4), some (.int (x5 + 1)), some (.int x6), none, some (.int s0)]) rfl ?_
    refine g_goto (pc := 183) hC (tgt := 48) (by decide) d_Mo_next_183 ?_
    refine g_le (lv2 := [some (.ref (V.2.2.1 0 0)), some (.int x1), some (.int x2), some (.int x3), some (.int x4), some (.int (x5 + 1)), none, none, none]) (⟨rfl, ⟨rfl, ⟨rfl, ⟨rfl, ⟨rfl, ⟨rfl, trivial⟩⟩⟩⟩⟩⟩) ?_
    exact hk48 x1 x2 x3 x4 (x5 + 1) h
  · refine g_iload_n (pc := 159) hC (i := 3) (x := x3) rfl rfl d_Mo_next_159 ?_
    refine g_if_lt (pc := 160) hC (tgt := 173) (by decide) d_Mo_next_160 h (fun h => ?_) (fun h => ?_)
    · refine g_iload (pc := 173) hC (i := 5) (x := x5) rfl d_Mo_next_173 ?_
      refine s_istore_n (pc := 175) hC (i := 3) rfl (by decide) d_Mo_next_175 (lv2 := [some (.ref (V.2.2.1 0 0)), some (.int x1), some (.int x2), some (.int x5), some (.int x4), some (.int x5), some (.int x6), none, some (.int s0)]) rfl ?_
      refine g_iload (pc := 176) hC (i := 8) (x := s0) rfl d_Mo_next_176 ?_
      refine s_istore (pc := 178) hC (i := 4) (by decide) d_Mo_next_178 (lv2 := [some (.ref (V.2.2.1 0 0)), some (.int x1), some (.int x2), some (.int x5), some (.int s0), some (.int x5), some (.int x6), none, some (.int s0)]) rfl ?_
      refine s_iinc (pc := 180) hC (i := 5) (x := x5) (v := x5 + 1) rfl (by rw [kc_1]) (by decide) d_Mo_next_180 (lv2 := [some (.ref (V.2.2.1 0 0)), some (.int x1), some (.int x2), some (.int x5), some (.int s0), some (.int (x5 + 1)), some (.int x6), none, some (.int s0)]) rfl ?_
      refine g_goto (pc := 183) hC (tgt := 48) (by decide) d_Mo_next_183 ?_
      refine g_le (lv2 := [some (.ref (V.2.2.1 0 0)), some (.int x1), some (.int x2), some (.int x5), some (.int s0), some (.int (x5 + 1)), none, none, none]) (⟨rfl, ⟨rfl, ⟨rfl, ⟨rfl, ⟨rfl, ⟨rfl, trivial⟩⟩⟩⟩⟩⟩) ?_
      exact hk48 x1 x2 x5 s0 (x5 + 1) h
    · refine g_iload (pc := 163) hC (i := 8) (x := s0) rfl d_Mo_next_163 ?_
      refine g_iload (pc := 165) hC (i := 4) (x := x4) rfl d_Mo_next_165 ?_
      refine g_icmp_lt (pc := 167) hC (tgt := 173) (by decide) d_Mo_next_167 h (fun h => ?_) (fun h => ?_)
      · refine g_iload (pc := 173) hC (i := 5) (x := x5) rfl d_Mo_next_173 ?_
        refine s_istore_n (pc := 175) hC (i := 3) rfl (by decide) d_Mo_next_175 (lv2 := [some (.ref (V.2.2.1 0 0)), some (.int x1), some (.int x2), some (.int x5), some (.int x4), some (.int x5), some (.int x6), none, some (.int s0)]) rfl ?_
        refine g_iload (pc := 176) hC (i := 8) (x := s0) rfl d_Mo_next_176 ?_
        refine s_istore (pc := 178) hC (i := 4) (by decide) d_Mo_next_178 (lv2 := [some (.ref (V.2.2.1 0 0)), some (.int x1), some (.int x2), some (.int x5), some (.int s0), some (.int x5), some (.int x6), none, some (.int s0)]) rfl ?_
        refine s_iinc (pc := 180) hC (i := 5) (x := x5) (v := x5 + 1) rfl (by rw [kc_1]) (by decide) d_Mo_next_180 (lv2 := [some (.ref (V.2.2.1 0 0)), some (.int x1), some (.int x2), some (.int x5), some (.int s0), some (.int (x5 + 1)), some (.int x6), none, some (.int s0)]) rfl ?_
        refine g_goto (pc := 183) hC (tgt := 48) (by decide) d_Mo_next_183 ?_
        refine g_le (lv2 := [some (.ref (V.2.2.1 0 0)), some (.int x1), some (.int x2), some (.int x5), some (.int s0), some (.int (x5 + 1)), none, none, none]) (⟨rfl, ⟨rfl, ⟨rfl, ⟨rfl, ⟨rfl, ⟨rfl, trivial⟩⟩⟩⟩⟩⟩) ?_
        exact hk48 x1 x2 x5 s0 (x5 + 1) h
      · refine g_goto (pc := 170) hC (tgt := 180) (by decide) d_Mo_next_170 ?_
        refine s_iinc (pc := 180) hC (i := 5) (x := x5) (v := x5 + 1) rfl (by rw [kc_1]) (by decide) d_Mo_next_180 (lv2 := [some (.ref (V.2.2.1 0 0)), some (.int x1), some (.int x2), some (.int x3), some (.int x4), some (.int (x5 + 1)), some (.int x6), none, some (.int s0)]) rfl ?_
        refine g_goto (pc := 183) hC (tgt := 48) (by decide) d_Mo_next_183 ?_
        refine g_le (lv2 := [some (.ref (V.2.2.1 0 0)), some (.int x1), some (.int x2), some (.int x3), some (.int x4), some (.int (x5 + 1)), none, none, none]) (⟨rfl, ⟨rfl, ⟨rfl, ⟨rfl, ⟨rfl, ⟨rfl, trivial⟩⟩⟩⟩⟩⟩) ?_
        exact hk48 x1 x2 x3 x4 (x5 + 1) h
set_option maxRecDepth 20000 in
theorem w_Mo_next_b71 {X : CX} {V : WV} (hV : IsM V) {S : Mem} {z : Int32} (hC : Ck X V bc_Mo_next 9 "SecretWellsModel" (some .int) 3 69) (k48 : Int32 → Int32 → Int32 → Int32 → Int32 → Option (Int32)) (hk48 : ∀ (x1 : Int32) (x2 : Int32) (x3 : Int32) (x4 : Int32) (x5 : Int32), k48 x1 x2 x3 x4 x5 = some z → G X V 9 (QI X V z S) 48 [some (.ref (V.2.2.1 0 0)), some (.int x1), some (.int x2), some (.int x3), some (.int x4), some (.int x5), none, none, none] [] S) (k71 : Int32 → Int32 → Int32 → Int32 → Int32 → Int32 → Int32 → Int32 → Option (Int32)) (hk71 : ∀ (x1 : Int32) (x2 : Int32) (x3 : Int32) (x4 : Int32) (x5 : Int32) (x6 : Int32) (x7 : Int32) (x8 : Int32), k71 x1 x2 x3 x4 x5 x6 x7 x8 = some z → G X V 9 (QI X V z S) 71 [some (.ref (V.2.2.1 0 0)), some (.int x1), some (.int x2), some (.int x3), some (.int x4), some (.int x5), some (.int x6), some (.int x7), some (.int x8)] [] S) (x1 : Int32) (x2 : Int32) (x3 : Int32) (x4 : Int32) (x5 : Int32) (x6 : Int32) (x7 : Int32) (x8 : Int32) (h : f_Mo_next_b71 S k48 k71 x1 x2 x3 x4 x5 x6 x7 x8 = some z) : G X V 9 (QI X V z S) 71 [some (.ref (V.2.2.1 0 0)), some (.int x1), some (.int x2), some (.int x3), some (.int x4), some (.int x5), some (.int x6), some (.int x7), some (.int x8)] [] S := by
  unfold f_Mo_next_b71 at h
  refine g_iload (pc := 71) hC (i := 8) (x := x8) rfl d_Mo_next_71 ?_
  refine g_iconst (pc := 73) hC kc_1 d_Mo_next_73 ?_
  refine g_aload_n (pc := 74) hC (i := 0) (x := (V.2.2.1 0 0)) rfl rfl d_Mo_next_74 ?_
  refine g_getA (pc := 75) hC fo_Mo_67 (ob_Mo hV) rfl d_Mo_next_75 ?_
  refine g_aload_n (pc := 78) hC (i := 0) (x := (V.2.2.1 0 0)) rfl rfl d_Mo_next_78 ?_
  refine g_getI (pc := 79) hC fo_Mo_245 (ob_Mo hV) rfl d_Mo_next_79 ?_
  refine g_iald (pc := 82) hC (ar_Mo_30 hV) d_Mo_next_82 h (fun h => ?_)
  refine g_ishl (pc := 83) hC d_Mo_next_83 ?_
  refine g_icmp_ge (pc := 84) hC (tgt := 132) (by decide) d_Mo_next_84 h (fun h => ?_) (fun h => ?_)
  · refine g_iload (pc := 132) hC (i := 7) (x := x7) rfl d_Mo_next_132 ?_
    refine g_iload (pc := 134) hC (i := 6) (x := x6) rfl d_Mo_next_134 ?_
    refine g_iload (pc := 136) hC (i := 7) (x := x7) rfl d_Mo_next_136 ?_
    refine g_isub (pc := 138) hC d_Mo_next_138 ?_
    refine g_icmp_le (pc := 139) hC (tgt := 147) (by decide) d_Mo_next_139 h (fun h => ?_) (fun h => ?_)
    · refine g_iload (pc := 147) hC (i := 6) (x := x6) rfl d_Mo_next_147 ?_
      refine g_iload (pc := 149) hC (i := 7) (x := x7) rfl d_Mo_next_149 ?_
      refine g_isub (pc := 151) hC d_Mo_next_151 ?_
      refine g_le (lv2 := [some (.ref (V.2.2.1 0 0)), some (.int x1), some (.int x2), some (.int x3), some (.int x4), some (.int x5), some (.int x6), none, none]) (⟨rfl, ⟨rfl, ⟨rfl, ⟨rfl, ⟨rfl, ⟨rfl, ⟨rfl, trivial⟩⟩⟩⟩⟩⟩⟩) ?_
      exact w_Mo_next_b152 hV hC k48 hk48 x1 x2 x3 x4 x5 x6 (x6 - x7) h
    · refine g_iload (pc := 142) hC (i := 7) (x := x7) rfl d_Mo_next_142 ?_
      refine g_goto (pc := 144) hC (tgt := 152) (by decide) d_Mo_next_144 ?_
      refine g_le (lv2 := [some (.ref (V.2.2.1 0 0)), some (.int x1), some (.int x2), some (.int x3), some (.int x4), some (.int x5), some (.int x6), none, none]) (⟨rfl, ⟨rfl, ⟨rfl, ⟨rfl, ⟨rfl, ⟨rfl, ⟨rfl, trivial⟩⟩⟩⟩⟩⟩⟩) ?_
      exact w_Mo_next_b152 hV hC k48 hk48 x1 x2 x3 x4 x5 x6 x7 h
  · refine g_aload_n (pc := 87) hC (i := 0) (x := (V.2.2.1 0 0)) rfl rfl d_Mo_next_87 ?_
    refine g_iload (pc := 88) hC (i := 8) (x := x8) rfl d_Mo_next_88 ?_
    refine g_iload_n (pc := 90) hC (i := 1) (x := x1) rfl rfl d_Mo_next_90 ?_
    obtain ⟨q91, hq91, h⟩ := Option.bind_eq_some_iff.mp h
    refine g_vi (pc := 91) hC (As := [.int x8, .int x1]) (st := []) mt_Mo_isSo lk_Mo_495 rfl (ob_Mo hV) (Nat.le_of_ble_eq_true rfl) ⟨Nat.le_of_ble_eq_true rfl, Nat.le_of_ble_eq_true rfl⟩ rfl d_Mo_next_91 (c_Mo_isSo hV hq91) ?_
    refine g_if_ne (pc := 94) hC (tgt := 100) (by decide) d_Mo_next_94 h (fun h => ?_) (fun h => ?_)
    · refine s_iinc (pc := 100) hC (i := 6) (x := x6) (v := x6 + 1) rfl (by rw [kc_1]) (by decide) d_Mo_next_100 (lv2 := [some (.ref (V.2.2.1 0 0)), some (.int x1), some (.int x2), some (.int x3), some (.int x4), some (.int x5), some (.int (x6 + 1)), some (.int x7), some (.int x8)]) rfl ?_
      refine g_iload (pc := 103) hC (i := 8) (x := x8) rfl d_Mo_next_103 ?_
      refine g_iload (pc := 105) hC (i := 5) (x := x5) rfl d_Mo_next_105 ?_
      refine g_ishr (pc := 107) hC d_Mo_next_107 ?_
      refine g_iconst (pc := 108) hC kc_1 d_Mo_next_108 ?_
      refine g_iand (pc := 109) hC d_Mo_next_109 ?_
      refine g_iconst (pc := 110) hC kc_1 d_Mo_next_110 ?_
      refine g_icmp_ne (pc := 111) hC (tgt := 126) (by decide) d_Mo_next_111 h (fun h => ?_) (fun h => ?_)
      · refine s_iinc (pc := 126) hC (i := 8) (x := x8) (v := x8 + 1) rfl (by rw [kc_1]) (by decide) d_Mo_next_126 (lv2 := [some (.ref (V.2.2.1 0 0)), some (.int x1), some (.int x2), some (.int x3), some (.int x4), some (.int x5), some (.int (x6 + 1)), some (.int x7), some (.int (x8 + 1))]) rfl ?_
        refine g_goto (pc := 129) hC (tgt := 71) (by decide) d_Mo_next_129 ?_
        exact hk71 x1 x2 x3 x4 x5 (x6 + 1) x7 (x8 + 1) h
      · refine g_aload_n (pc := 114) hC (i := 0) (x := (V.2.2.1 0 0)) rfl rfl d_Mo_next_114 ?_
        refine g_iload (pc := 115) hC (i := 5) (x := x5) rfl d_Mo_next_115 ?_
        obtain ⟨q117, hq117, h⟩ := Option.bind_eq_some_iff.mp h
        refine g_vi (pc := 117) hC (As := [.int x5]) (st := []) mt_Mo_deeperTold lk_Mo_492 rfl (ob_Mo hV) (Nat.le_of_ble_eq_true rfl) ⟨Nat.le_of_ble_eq_true rfl, Nat.le_of_ble_eq_true rfl⟩ rfl d_Mo_next_117 (c_Mo_deeperTold hV hq117) ?_
        refine g_if_le (pc := 120) hC (tgt := 126) (by decide) d_Mo_next_120 h (fun h => ?_) (fun h => ?_)
        · refine s_iinc (pc := 126) hC (i := 8) (x := x8) (v := x8 + 1) rfl (by rw [kc_1]) (by decide) d_Mo_next_126 (lv2 := [some (.ref (V.2.2.1 0 0)), some (.int x1), some (.int x2), some (.int x3), some (.int x4), some (.int x5), some (.int (x6 + 1)), some (.int x7), some (.int (x8 + 1))]) rfl ?_
          refine g_goto (pc := 129) hC (tgt := 71) (by decide) d_Mo_next_129 ?_
          exact hk71 x1 x2 x3 x4 x5 (x6 + 1) x7 (x8 + 1) h
        · refine s_iinc (pc := 123) hC (i := 7) (x := x7) (v := x7 + 1) rfl (by rw [kc_1]) (by decide) d_Mo_next_123 (lv2 := [some (.ref (V.2.2.1 0 0)), some (.int x1), some (.int x2), some (.int x3), some (.int x4), some (.int x5), some (.int (x6 + 1)), some (.int (x7 + 1)), some (.int x8)]) rfl ?_
          refine s_iinc (pc := 126) hC (i := 8) (x := x8) (v := x8 + 1) rfl (by rw [kc_1]) (by decide) d_Mo_next_126 (lv2 := [some (.ref (V.2.2.1 0 0)), some (.int x1), some (.int x2), some (.int x3), some (.int x4), some (.int x5), some (.int (x6 + 1)), some (.int (x7 + 1)), some (.int (x8 + 1))]) rfl ?_
          refine g_goto (pc := 129) hC (tgt := 71) (by decide) d_Mo_next_129 ?_
          exact hk71 x1 x2 x3 x4 x5 (x6 + 1) (x7 + 1) (x8 + 1) h
    · refine g_goto (pc := 97) hC (tgt := 126) (by decide) d_Mo_next_97 ?_
      refine s_iinc (pc := 126) hC (i := 8) (x := x8) (v := x8 + 1) rfl (by rw [kc_1]) (by decide) d_Mo_next_126 (lv2 := [some (.ref (V.2.2.1 0 0)), some (.int x1), some (.int x2), some (.int x3), some (.int x4), some (.int x5), some (.int x6), some (.int x7), some (.int (x8 + 1))]) rfl ?_
      refine g_goto (pc := 129) hC (tgt := 71) (by decide) d_Mo_next_129 ?_
      exact hk71 x1 x2 x3 x4 x5 x6 x7 (x8 + 1) h
theorem w_Mo_next_l71 {X : CX} {V : WV} (hV : IsM V) {S : Mem} {z : Int32} (hC : Ck X V bc_Mo_next 9 "SecretWellsModel" (some .int) 3 69) (k48 : Int32 → Int32 → Int32 → Int32 → Int32 → Option (Int32)) (hk48 : ∀ (x1 : Int32) (x2 : Int32) (x3 : Int32) (x4 : Int32) (x5 : Int32), k48 x1 x2 x3 x4 x5 = some z → G X V 9 (QI X V z S) 48 [some (.ref (V.2.2.1 0 0)), some (.int x1), some (.int x2), some (.int x3), some (.int x4), some (.int x5), none, none, none] [] S) : ∀ (n : Nat) (x1 : Int32) (x2 : Int32) (x3 : Int32) (x4 : Int32) (x5 : Int32) (x6 : Int32) (x7 : Int32) (x8 : Int32), f_Mo_next_l71 S k48 n x1 x2 x3 x4 x5 x6 x7 x8 = some z → G X V 9 (QI X V z S) 71 [some (.ref (V.2.2.1 0 0)), some (.int x1), some (.int x2), some (.int x3), some (.int x4), some (.int x5), some (.int x6), some (.int x7), some (.int x8)] [] S := by
  intro n
  induction n with
  | zero =>
    intro x1 x2 x3 x4 x5 x6 x7 x8 h
    have h : (none : Option (Int32)) = some z := h
    cases h
  | succ n ih =>
    intro x1 x2 x3 x4 x5 x6 x7 x8 h
    exact w_Mo_next_b71 hV hC k48 hk48 (f_Mo_next_l71 S k48 n) ih x1 x2 x3 x4 x5 x6 x7 x8 h
set_option maxRecDepth 20000 in
theorem w_Mo_next_b48 {X : CX} {V : WV} (hV : IsM V) {S : Mem} {z : Int32} (hC : Ck X V bc_Mo_next 9 "SecretWellsModel" (some .int) 3 69) (k48 : Int32 → Int32 → Int32 → Int32 → Int32 → Option (Int32)) (hk48 : ∀ (x1 : Int32) (x2 : Int32) (x3 : Int32) (x4 : Int32) (x5 : Int32), k48 x1 x2 x3 x4 x5 = some z → G X V 9 (QI X V z S) 48 [some (.ref (V.2.2.1 0 0)), some (.int x1), some (.int x2), some (.int x3), some (.int x4), some (.int x5), none, none, none] [] S) (x1 : Int32) (x2 : Int32) (x3 : Int32) (x4 : Int32) (x5 : Int32) (h : f_Mo_next_b48 S k48 x1 x2 x3 x4 x5 = some z) : G X V 9 (QI X V z S) 48 [some (.ref (V.2.2.1 0 0)), some (.int x1), some (.int x2), some (.int x3), some (.int x4), some (.int x5), none, none, none] [] S := by
  unfold f_Mo_next_b48 at h
  refine g_iload (pc := 48) hC (i := 5) (x := x5) rfl d_Mo_next_48 ?_
  refine g_aload_n (pc := 50) hC (i := 0) (x := (V.2.2.1 0 0)) rfl rfl d_Mo_next_50 ?_
  refine g_getA (pc := 51) hC fo_Mo_67 (ob_Mo hV) rfl d_Mo_next_51 ?_
  refine g_aload_n (pc := 54) hC (i := 0) (x := (V.2.2.1 0 0)) rfl rfl d_Mo_next_54 ?_
  refine g_getI (pc := 55) hC fo_Mo_245 (ob_Mo hV) rfl d_Mo_next_55 ?_
  refine g_iald (pc := 58) hC (ar_Mo_30 hV) d_Mo_next_58 h (fun h => ?_)
  refine g_icmp_ge (pc := 59) hC (tgt := 186) (by decide) d_Mo_next_59 h (fun h => ?_) (fun h => ?_)
  · refine g_iload_n (pc := 186) hC (i := 2) (x := x2) rfl rfl d_Mo_next_186 ?_
    refine g_if_ne (pc := 187) hC (tgt := 194) (by decide) d_Mo_next_187 h (fun h => ?_) (fun h => ?_)
    · refine g_iload (pc := 194) hC (i := 4) (x := x4) rfl d_Mo_next_194 ?_
      exact g_iN (pc := 196) hC rfl d_Mo_next_196 h
    · refine g_iload_n (pc := 190) hC (i := 3) (x := x3) rfl rfl d_Mo_next_190 ?_
      refine g_goto (pc := 191) hC (tgt := 196) (by decide) d_Mo_next_191 ?_
      exact g_iN (pc := 196) hC rfl d_Mo_next_196 h
  · refine g_iconst (pc := 62) hC kc_0 d_Mo_next_62 ?_
    refine s_istore (pc := 63) hC (i := 6) (by decide) d_Mo_next_63 (lv2 := [some (.ref (V.2.2.1 0 0)), some (.int x1), some (.int x2), some (.int x3), some (.int x4), some (.int x5), some (.int 0), none, none]) rfl ?_
    refine g_iconst (pc := 65) hC kc_0 d_Mo_next_65 ?_
    refine s_istore (pc := 66) hC (i := 7) (by decide) d_Mo_next_66 (lv2 := [some (.ref (V.2.2.1 0 0)), some (.int x1), some (.int x2), some (.int x3), some (.int x4), some (.int x5), some (.int 0), some (.int 0), none]) rfl ?_
    refine g_iconst (pc := 68) hC kc_0 d_Mo_next_68 ?_
    refine s_istore (pc := 69) hC (i := 8) (by decide) d_Mo_next_69 (lv2 := [some (.ref (V.2.2.1 0 0)), some (.int x1), some (.int x2), some (.int x3), some (.int x4), some (.int x5), some (.int 0), some (.int 0), some (.int 0)]) rfl ?_
    exact w_Mo_next_l71 hV hC k48 hk48 5000 x1 x2 x3 x4 x5 0 0 0 h
theorem w_Mo_next_l48 {X : CX} {V : WV} (hV : IsM V) {S : Mem} {z : Int32} (hC : Ck X V bc_Mo_next 9 "SecretWellsModel" (some .int) 3 69) : ∀ (n : Nat) (x1 : Int32) (x2 : Int32) (x3 : Int32) (x4 : Int32) (x5 : Int32), f_Mo_next_l48 S n x1 x2 x3 x4 x5 = some z → G X V 9 (QI X V z S) 48 [some (.ref (V.2.2.1 0 0)), some (.int x1), some (.int x2), some (.int x3), some (.int x4), some (.int x5), none, none, none] [] S := by
  intro n
  induction n with
  | zero =>
    intro x1 x2 x3 x4 x5 h
    have h : (none : Option (Int32)) = some z := h
    cases h
  | succ n ih =>
    intro x1 x2 x3 x4 x5 h
    exact w_Mo_next_b48 hV hC (f_Mo_next_l48 S n) ih x1 x2 x3 x4 x5 h
set_option maxRecDepth 20000 in
theorem w_Mo_next_b0 {X : CX} {V : WV} (hV : IsM V) {S : Mem} {z : Int32} (hC : Ck X V bc_Mo_next 9 "SecretWellsModel" (some .int) 3 69) (x1 : Int32) (x2 : Int32) (h : f_Mo_next_b0 S x1 x2 = some z) : G X V 9 (QI X V z S) 0 [some (.ref (V.2.2.1 0 0)), some (.int x1), some (.int x2), none, none, none, none, none, none] [] S := by
  unfold f_Mo_next_b0 at h
  refine g_iload_n (pc := 0) hC (i := 1) (x := x1) rfl rfl d_Mo_next_0 ?_
  refine g_iconst (pc := 1) hC kc_0 d_Mo_next_1 ?_
  refine g_aload_n (pc := 2) hC (i := 0) (x := (V.2.2.1 0 0)) rfl rfl d_Mo_next_2 ?_
  refine g_getI (pc := 3) hC fo_Mo_266 (ob_Mo hV) rfl d_Mo_next_3 ?_
  obtain ⟨q6, hq6, h⟩ := Option.bind_eq_some_iff.mp h
  refine g_si (pc := 6) hC (As := [.int x1, .int 0, .int (S.1 0 68)]) (st := []) mt_Mo_in lk_Mo_332 (Nat.le_of_ble_eq_true rfl) ⟨Nat.le_of_ble_eq_true rfl, Nat.le_of_ble_eq_true rfl⟩ rfl d_Mo_next_6 (c_Mo_in (IsM.ok hV) hq6) ?_
  refine g_if_eq (pc := 9) hC (tgt := 21) (by decide) d_Mo_next_9 h (fun h => ?_) (fun h => ?_)
  · refine g_iconst (pc := 21) hC kc_m1 d_Mo_next_21 ?_
    exact g_iN (pc := 22) hC rfl d_Mo_next_22 h
  · refine g_iload_n (pc := 12) hC (i := 2) (x := x2) rfl rfl d_Mo_next_12 ?_
    refine g_iconst (pc := 13) hC kc_0 d_Mo_next_13 ?_
    refine g_iconst (pc := 14) hC kc_1 d_Mo_next_14 ?_
    obtain ⟨q15, hq15, h⟩ := Option.bind_eq_some_iff.mp h
    refine g_si (pc := 15) hC (As := [.int x2, .int 0, .int 1]) (st := []) mt_Mo_in lk_Mo_332 (Nat.le_of_ble_eq_true rfl) ⟨Nat.le_of_ble_eq_true rfl, Nat.le_of_ble_eq_true rfl⟩ rfl d_Mo_next_15 (c_Mo_in (IsM.ok hV) hq15) ?_
    refine g_if_ne (pc := 18) hC (tgt := 23) (by decide) d_Mo_next_18 h (fun h => ?_) (fun h => ?_)
    · refine g_aload_n (pc := 23) hC (i := 0) (x := (V.2.2.1 0 0)) rfl rfl d_Mo_next_23 ?_
      refine g_getA (pc := 24) hC fo_Mo_49 (ob_Mo hV) rfl d_Mo_next_24 ?_
      refine g_aload_n (pc := 27) hC (i := 0) (x := (V.2.2.1 0 0)) rfl rfl d_Mo_next_27 ?_
      refine g_getI (pc := 28) hC fo_Mo_245 (ob_Mo hV) rfl d_Mo_next_28 ?_
      refine g_iald (pc := 31) hC (ar_Mo_24 hV) d_Mo_next_31 h (fun h => ?_)
      refine g_if_ne (pc := 32) hC (tgt := 38) (by decide) d_Mo_next_32 h (fun h => ?_) (fun h => ?_)
      · refine g_bipush (pc := 38) hC kb_m2 d_Mo_next_38 ?_
        refine s_istore_n (pc := 40) hC (i := 3) rfl (by decide) d_Mo_next_40 (lv2 := [some (.ref (V.2.2.1 0 0)), some (.int x1), some (.int x2), some (.int (-2)), none, none, none, none, none]) rfl ?_
        refine g_bipush (pc := 41) hC kb_m2 d_Mo_next_41 ?_
        refine s_istore (pc := 43) hC (i := 4) (by decide) d_Mo_next_43 (lv2 := [some (.ref (V.2.2.1 0 0)), some (.int x1), some (.int x2), some (.int (-2)), some (.int (-2)), none, none, none, none]) rfl ?_
        refine g_iconst (pc := 45) hC kc_0 d_Mo_next_45 ?_
        refine s_istore (pc := 46) hC (i := 5) (by decide) d_Mo_next_46 (lv2 := [some (.ref (V.2.2.1 0 0)), some (.int x1), some (.int x2), some (.int (-2)), some (.int (-2)), some (.int 0), none, none, none]) rfl ?_
        exact w_Mo_next_l48 hV hC 5000 x1 x2 (-2) (-2) 0 h
      · refine g_bipush (pc := 35) hC kb_m2 d_Mo_next_35 ?_
        exact g_iN (pc := 37) hC rfl d_Mo_next_37 h
    · refine g_iconst (pc := 21) hC kc_m1 d_Mo_next_21 ?_
      exact g_iN (pc := 22) hC rfl d_Mo_next_22 h
theorem c_Mo_next {V : WV} {l : Launch} (hV : IsM V) {x1 : Int32} {x2 : Int32} {S : Mem} {z : Int32} (h : f_Mo_next x1 x2 S = some z) : CI V l y_Mo_next bc_Mo_next 9 (some .int) 3 69 [.ref (V.2.2.1 0 0), .int x1, .int x2] S z S :=
  ct_i rfl (IsM.ok hV) (Nat.le_of_ble_eq_true rfl) (fun _ _ hC => w_Mo_next_b0 hV hC x1 x2 h)
def f_Mo_hold_b20 (k20 : Int32 → Int32 → Mem → Option (Int32 × Mem)) (x1 : Int32) (x2 : Int32) (S : Mem) : Option (Int32 × Mem) :=
  if 40 ≤ x2 then
    some (1, S)
  else
    gIn x2 40 (
    gIn ((40 * x1) + x2) 120 (letS (sA S 0 73 ((40 * x1) + x2) (S.2.1 0 56 x2.toNatClampNeg)) (fun S42 =>
    k20 x1 (x2 + 1) S42)))
def f_Mo_hold_l20 : Nat → Int32 → Int32 → Mem → Option (Int32 × Mem)
  | 0 => fun _ _ _ => none
  | n + 1 => f_Mo_hold_b20  (f_Mo_hold_l20  n)
def f_Mo_hold_b0 (x1 : Int32) (S : Mem) : Option (Int32 × Mem) :=
  Option.bind (f_Mo_in x1 0 2) (fun q3 =>
  if q3 = 0 then
    some (0, S)
  else
    gIn x1 3 (letS (sA S 0 72 x1 (vp_nar .boolean 1)) (fun S17 =>
    f_Mo_hold_l20 5000 x1 0 S17)))
def f_Mo_hold (x1 : Int32) (S : Mem) : Option (Int32 × Mem) := f_Mo_hold_b0  x1 S
theorem d_Mo_hold_0 : decode bc_Mo_hold 0 = .ok (.iload_n 1, 1) := by decide +kernel
theorem d_Mo_hold_1 : decode bc_Mo_hold 1 = .ok (.iconst 0, 1) := by decide +kernel
theorem d_Mo_hold_2 : decode bc_Mo_hold 2 = .ok (.iconst 2, 1) := by decide +kernel
theorem d_Mo_hold_3 : decode bc_Mo_hold 3 = .ok (.invokestatic 332, 3) := by decide +kernel
theorem d_Mo_hold_6 : decode bc_Mo_hold 6 = .ok (.ifCond .ne 5, 3) := by decide +kernel
theorem d_Mo_hold_9 : decode bc_Mo_hold 9 = .ok (.iconst 0, 1) := by decide +kernel
theorem d_Mo_hold_10 : decode bc_Mo_hold 10 = .ok (.ireturn, 1) := by decide +kernel
theorem d_Mo_hold_11 : decode bc_Mo_hold 11 = .ok (.aload_n 0, 1) := by decide +kernel
theorem d_Mo_hold_12 : decode bc_Mo_hold 12 = .ok (.getfield 158, 3) := by decide +kernel
theorem d_Mo_hold_15 : decode bc_Mo_hold 15 = .ok (.iload_n 1, 1) := by decide +kernel
theorem d_Mo_hold_16 : decode bc_Mo_hold 16 = .ok (.iconst 1, 1) := by decide +kernel
theorem d_Mo_hold_17 : decode bc_Mo_hold 17 = .ok (.bastore, 1) := by decide +kernel
theorem d_Mo_hold_18 : decode bc_Mo_hold 18 = .ok (.iconst 0, 1) := by decide +kernel
theorem d_Mo_hold_19 : decode bc_Mo_hold 19 = .ok (.istore_n 2, 1) := by decide +kernel
theorem d_Mo_hold_20 : decode bc_Mo_hold 20 = .ok (.iload_n 2, 1) := by decide +kernel
theorem d_Mo_hold_21 : decode bc_Mo_hold 21 = .ok (.bipush 40, 2) := by decide +kernel
theorem d_Mo_hold_23 : decode bc_Mo_hold 23 = .ok (.if_icmp .ge 26, 3) := by decide +kernel
theorem d_Mo_hold_26 : decode bc_Mo_hold 26 = .ok (.aload_n 0, 1) := by decide +kernel
theorem d_Mo_hold_27 : decode bc_Mo_hold 27 = .ok (.getfield 161, 3) := by decide +kernel
theorem d_Mo_hold_30 : decode bc_Mo_hold 30 = .ok (.bipush 40, 2) := by decide +kernel
theorem d_Mo_hold_32 : decode bc_Mo_hold 32 = .ok (.iload_n 1, 1) := by decide +kernel
theorem d_Mo_hold_33 : decode bc_Mo_hold 33 = .ok (.imul, 1) := by decide +kernel
theorem d_Mo_hold_34 : decode bc_Mo_hold 34 = .ok (.iload_n 2, 1) := by decide +kernel
theorem d_Mo_hold_35 : decode bc_Mo_hold 35 = .ok (.iadd, 1) := by decide +kernel
theorem d_Mo_hold_36 : decode bc_Mo_hold 36 = .ok (.aload_n 0, 1) := by decide +kernel
theorem d_Mo_hold_37 : decode bc_Mo_hold 37 = .ok (.getfield 134, 3) := by decide +kernel
theorem d_Mo_hold_40 : decode bc_Mo_hold 40 = .ok (.iload_n 2, 1) := by decide +kernel
theorem d_Mo_hold_41 : decode bc_Mo_hold 41 = .ok (.iaload, 1) := by decide +kernel
theorem d_Mo_hold_42 : decode bc_Mo_hold 42 = .ok (.iastore, 1) := by decide +kernel
theorem d_Mo_hold_43 : decode bc_Mo_hold 43 = .ok (.iinc 2 1, 3) := by decide +kernel
theorem d_Mo_hold_46 : decode bc_Mo_hold 46 = .ok (.goto (-26), 3) := by decide +kernel
theorem d_Mo_hold_49 : decode bc_Mo_hold 49 = .ok (.iconst 1, 1) := by decide +kernel
theorem d_Mo_hold_50 : decode bc_Mo_hold 50 = .ok (.ireturn, 1) := by decide +kernel
set_option maxRecDepth 20000 in
theorem w_Mo_hold_b20 {X : CX} {V : WV} (hV : IsM V) {z : Int32 × Mem} (hC : Ck X V bc_Mo_hold 3 "SecretWellsModel" (some .boolean) 1 22) (k20 : Int32 → Int32 → Mem → Option (Int32 × Mem)) (hk20 : ∀ (x1 : Int32) (x2 : Int32) (S : Mem), k20 x1 x2 S = some z → G X V 3 (QI X V z.1 z.2) 20 [some (.ref (V.2.2.1 0 0)), some (.int x1), some (.int x2)] [] S) (x1 : Int32) (x2 : Int32) (S : Mem) (h : f_Mo_hold_b20  k20 x1 x2 S = some z) : G X V 3 (QI X V z.1 z.2) 20 [some (.ref (V.2.2.1 0 0)), some (.int x1), some (.int x2)] [] S := by
  unfold f_Mo_hold_b20 at h
  refine g_iload_n (pc := 20) hC (i := 2) (x := x2) rfl rfl d_Mo_hold_20 ?_
  refine g_bipush (pc := 21) hC kb_40 d_Mo_hold_21 ?_
  refine g_icmp_ge (pc := 23) hC (tgt := 49) (by decide) d_Mo_hold_23 h (fun h => ?_) (fun h => ?_)
  · refine g_iconst (pc := 49) hC kc_1 d_Mo_hold_49 ?_
    exact g_iW (pc := 50) hC rfl d_Mo_hold_50 h
  · refine g_aload_n (pc := 26) hC (i := 0) (x := (V.2.2.1 0 0)) rfl rfl d_Mo_hold_26 ?_
    refine g_getA (pc := 27) hC fo_Mo_161 (ob_Mo hV) rfl d_Mo_hold_27 ?_
    refine g_bipush (pc := 30) hC kb_40 d_Mo_hold_30 ?_
    refine g_iload_n (pc := 32) hC (i := 1) (x := x1) rfl rfl d_Mo_hold_32 ?_
    refine g_imul (pc := 33) hC d_Mo_hold_33 ?_
    refine g_iload_n (pc := 34) hC (i := 2) (x := x2) rfl rfl d_Mo_hold_34 ?_
    refine g_iadd (pc := 35) hC d_Mo_hold_35 ?_
    refine g_aload_n (pc := 36) hC (i := 0) (x := (V.2.2.1 0 0)) rfl rfl d_Mo_hold_36 ?_
    refine g_getA (pc := 37) hC fo_Mo_134 (ob_Mo hV) rfl d_Mo_hold_37 ?_
    refine g_iload_n (pc := 40) hC (i := 2) (x := x2) rfl rfl d_Mo_hold_40 ?_
    refine g_iald (pc := 41) hC (ar_Mo_56 hV) d_Mo_hold_41 h (fun h => ?_)
    refine g_iast (pc := 42) hC (ar_Mo_73 hV) d_Mo_hold_42 h (fun h => ?_)
    refine g_letS h (fun S42 h => ?_)
    refine s_iinc (pc := 43) hC (i := 2) (x := x2) (v := x2 + 1) rfl (by rw [kc_1]) (by decide) d_Mo_hold_43 (lv2 := [some (.ref (V.2.2.1 0 0)), some (.int x1), some (.int (x2 + 1))]) rfl ?_
    refine g_goto (pc := 46) hC (tgt := 20) (by decide) d_Mo_hold_46 ?_
    exact hk20 x1 (x2 + 1) S42 h
theorem w_Mo_hold_l20 {X : CX} {V : WV} (hV : IsM V) {z : Int32 × Mem} (hC : Ck X V bc_Mo_hold 3 "SecretWellsModel" (some .boolean) 1 22) : ∀ (n : Nat) (x1 : Int32) (x2 : Int32) (S : Mem), f_Mo_hold_l20  n x1 x2 S = some z → G X V 3 (QI X V z.1 z.2) 20 [some (.ref (V.2.2.1 0 0)), some (.int x1), some (.int x2)] [] S := by
  intro n
  induction n with
  | zero =>
    intro x1 x2 S h
    have h : (none : Option (Int32 × Mem)) = some z := h
    cases h
  | succ n ih =>
    intro x1 x2 S h
    exact w_Mo_hold_b20 hV hC (f_Mo_hold_l20  n) ih x1 x2 S h
set_option maxRecDepth 20000 in
theorem w_Mo_hold_b0 {X : CX} {V : WV} (hV : IsM V) {z : Int32 × Mem} (hC : Ck X V bc_Mo_hold 3 "SecretWellsModel" (some .boolean) 1 22) (x1 : Int32) (S : Mem) (h : f_Mo_hold_b0  x1 S = some z) : G X V 3 (QI X V z.1 z.2) 0 [some (.ref (V.2.2.1 0 0)), some (.int x1), none] [] S := by
  unfold f_Mo_hold_b0 at h
  refine g_iload_n (pc := 0) hC (i := 1) (x := x1) rfl rfl d_Mo_hold_0 ?_
  refine g_iconst (pc := 1) hC kc_0 d_Mo_hold_1 ?_
  refine g_iconst (pc := 2) hC kc_2 d_Mo_hold_2 ?_
  obtain ⟨q3, hq3, h⟩ := Option.bind_eq_some_iff.mp h
  refine g_si (pc := 3) hC (As := [.int x1, .int 0, .int 2]) (st := []) mt_Mo_in lk_Mo_332 (Nat.le_of_ble_eq_true rfl) ⟨Nat.le_of_ble_eq_true rfl, Nat.le_of_ble_eq_true rfl⟩ rfl d_Mo_hold_3 (c_Mo_in (IsM.ok hV) hq3) ?_
  refine g_if_ne (pc := 6) hC (tgt := 11) (by decide) d_Mo_hold_6 h (fun h => ?_) (fun h => ?_)
  · refine g_aload_n (pc := 11) hC (i := 0) (x := (V.2.2.1 0 0)) rfl rfl d_Mo_hold_11 ?_
    refine g_getA (pc := 12) hC fo_Mo_158 (ob_Mo hV) rfl d_Mo_hold_12 ?_
    refine g_iload_n (pc := 15) hC (i := 1) (x := x1) rfl rfl d_Mo_hold_15 ?_
    refine g_iconst (pc := 16) hC kc_1 d_Mo_hold_16 ?_
    refine g_zast (pc := 17) hC (ar_Mo_72 hV) d_Mo_hold_17 h (fun h => ?_)
    refine g_letS h (fun S17 h => ?_)
    refine g_iconst (pc := 18) hC kc_0 d_Mo_hold_18 ?_
    refine s_istore_n (pc := 19) hC (i := 2) rfl (by decide) d_Mo_hold_19 (lv2 := [some (.ref (V.2.2.1 0 0)), some (.int x1), some (.int 0)]) rfl ?_
    exact w_Mo_hold_l20 hV hC 5000 x1 0 S17 h
  · refine g_iconst (pc := 9) hC kc_0 d_Mo_hold_9 ?_
    exact g_iW (pc := 10) hC rfl d_Mo_hold_10 h
theorem c_Mo_hold {V : WV} {l : Launch} (hV : IsM V) {x1 : Int32} {S : Mem} {z : Int32 × Mem} (h : f_Mo_hold x1 S = some z) : CI V l y_Mo_hold bc_Mo_hold 3 (some .boolean) 1 22 [.ref (V.2.2.1 0 0), .int x1] S z.1 z.2 :=
  ct_i rfl (IsM.ok hV) (Nat.le_of_ble_eq_true rfl) (fun _ _ hC => w_Mo_hold_b0 hV hC x1 S h)
def f_Mo_restore_b22 (k22 : Int32 → Int32 → Mem → Option (Int32 × Mem)) (x1 : Int32) (x2 : Int32) (S : Mem) : Option (Int32 × Mem) :=
  if 40 ≤ x2 then
    letS (pI S 0 60 0) (fun S53 =>
    some (1, S53))
  else
    gIn ((40 * x1) + x2) 120 (
    gIn x2 40 (letS (sA S 0 56 x2 (S.2.1 0 73 ((40 * x1) + x2).toNatClampNeg)) (fun S44 =>
    k22 x1 (x2 + 1) S44)))
def f_Mo_restore_l22 : Nat → Int32 → Int32 → Mem → Option (Int32 × Mem)
  | 0 => fun _ _ _ => none
  | n + 1 => f_Mo_restore_b22  (f_Mo_restore_l22  n)
def f_Mo_restore_b0 (x1 : Int32) (S : Mem) : Option (Int32 × Mem) :=
  Option.bind (f_Mo_in x1 0 2) (fun q3 =>
  if q3 = 0 then
    some (0, S)
  else
    gIn x1 3 (
    if (S.2.1 0 72 x1.toNatClampNeg) = 0 then
      some (0, S)
    else
      f_Mo_restore_l22 5000 x1 0 S))
def f_Mo_restore (x1 : Int32) (S : Mem) : Option (Int32 × Mem) := f_Mo_restore_b0  x1 S
theorem d_Mo_restore_0 : decode bc_Mo_restore 0 = .ok (.iload_n 1, 1) := by decide +kernel
theorem d_Mo_restore_1 : decode bc_Mo_restore 1 = .ok (.iconst 0, 1) := by decide +kernel
theorem d_Mo_restore_2 : decode bc_Mo_restore 2 = .ok (.iconst 2, 1) := by decide +kernel
theorem d_Mo_restore_3 : decode bc_Mo_restore 3 = .ok (.invokestatic 332, 3) := by decide +kernel
theorem d_Mo_restore_6 : decode bc_Mo_restore 6 = .ok (.ifCond .eq 12, 3) := by decide +kernel
theorem d_Mo_restore_9 : decode bc_Mo_restore 9 = .ok (.aload_n 0, 1) := by decide +kernel
theorem d_Mo_restore_10 : decode bc_Mo_restore 10 = .ok (.getfield 158, 3) := by decide +kernel
theorem d_Mo_restore_13 : decode bc_Mo_restore 13 = .ok (.iload_n 1, 1) := by decide +kernel
theorem d_Mo_restore_14 : decode bc_Mo_restore 14 = .ok (.baload, 1) := by decide +kernel
theorem d_Mo_restore_15 : decode bc_Mo_restore 15 = .ok (.ifCond .ne 5, 3) := by decide +kernel
theorem d_Mo_restore_18 : decode bc_Mo_restore 18 = .ok (.iconst 0, 1) := by decide +kernel
theorem d_Mo_restore_19 : decode bc_Mo_restore 19 = .ok (.ireturn, 1) := by decide +kernel
theorem d_Mo_restore_20 : decode bc_Mo_restore 20 = .ok (.iconst 0, 1) := by decide +kernel
theorem d_Mo_restore_21 : decode bc_Mo_restore 21 = .ok (.istore_n 2, 1) := by decide +kernel
theorem d_Mo_restore_22 : decode bc_Mo_restore 22 = .ok (.iload_n 2, 1) := by decide +kernel
theorem d_Mo_restore_23 : decode bc_Mo_restore 23 = .ok (.bipush 40, 2) := by decide +kernel
theorem d_Mo_restore_25 : decode bc_Mo_restore 25 = .ok (.if_icmp .ge 26, 3) := by decide +kernel
theorem d_Mo_restore_28 : decode bc_Mo_restore 28 = .ok (.aload_n 0, 1) := by decide +kernel
theorem d_Mo_restore_29 : decode bc_Mo_restore 29 = .ok (.getfield 134, 3) := by decide +kernel
theorem d_Mo_restore_32 : decode bc_Mo_restore 32 = .ok (.iload_n 2, 1) := by decide +kernel
theorem d_Mo_restore_33 : decode bc_Mo_restore 33 = .ok (.aload_n 0, 1) := by decide +kernel
theorem d_Mo_restore_34 : decode bc_Mo_restore 34 = .ok (.getfield 161, 3) := by decide +kernel
theorem d_Mo_restore_37 : decode bc_Mo_restore 37 = .ok (.bipush 40, 2) := by decide +kernel
theorem d_Mo_restore_39 : decode bc_Mo_restore 39 = .ok (.iload_n 1, 1) := by decide +kernel
theorem d_Mo_restore_40 : decode bc_Mo_restore 40 = .ok (.imul, 1) := by decide +kernel
theorem d_Mo_restore_41 : decode bc_Mo_restore 41 = .ok (.iload_n 2, 1) := by decide +kernel
theorem d_Mo_restore_42 : decode bc_Mo_restore 42 = .ok (.iadd, 1) := by decide +kernel
theorem d_Mo_restore_43 : decode bc_Mo_restore 43 = .ok (.iaload, 1) := by decide +kernel
theorem d_Mo_restore_44 : decode bc_Mo_restore 44 = .ok (.iastore, 1) := by decide +kernel
theorem d_Mo_restore_45 : decode bc_Mo_restore 45 = .ok (.iinc 2 1, 3) := by decide +kernel
theorem d_Mo_restore_48 : decode bc_Mo_restore 48 = .ok (.goto (-26), 3) := by decide +kernel
theorem d_Mo_restore_51 : decode bc_Mo_restore 51 = .ok (.aload_n 0, 1) := by decide +kernel
theorem d_Mo_restore_52 : decode bc_Mo_restore 52 = .ok (.iconst 0, 1) := by decide +kernel
theorem d_Mo_restore_53 : decode bc_Mo_restore 53 = .ok (.putfield 263, 3) := by decide +kernel
theorem d_Mo_restore_56 : decode bc_Mo_restore 56 = .ok (.iconst 1, 1) := by decide +kernel
theorem d_Mo_restore_57 : decode bc_Mo_restore 57 = .ok (.ireturn, 1) := by decide +kernel
set_option maxRecDepth 20000 in
theorem w_Mo_restore_b22 {X : CX} {V : WV} (hV : IsM V) {z : Int32 × Mem} (hC : Ck X V bc_Mo_restore 3 "SecretWellsModel" (some .boolean) 1 22) (k22 : Int32 → Int32 → Mem → Option (Int32 × Mem)) (hk22 : ∀ (x1 : Int32) (x2 : Int32) (S : Mem), k22 x1 x2 S = some z → G X V 3 (QI X V z.1 z.2) 22 [some (.ref (V.2.2.1 0 0)), some (.int x1), some (.int x2)] [] S) (x1 : Int32) (x2 : Int32) (S : Mem) (h : f_Mo_restore_b22  k22 x1 x2 S = some z) : G X V 3 (QI X V z.1 z.2) 22 [some (.ref (V.2.2.1 0 0)), some (.int x1), some (.int x2)] [] S := by
  unfold f_Mo_restore_b22 at h
  refine g_iload_n (pc := 22) hC (i := 2) (x := x2) rfl rfl d_Mo_restore_22 ?_
  refine g_bipush (pc := 23) hC kb_40 d_Mo_restore_23 ?_
  refine g_icmp_ge (pc := 25) hC (tgt := 51) (by decide) d_Mo_restore_25 h (fun h => ?_) (fun h => ?_)
  · refine g_aload_n (pc := 51) hC (i := 0) (x := (V.2.2.1 0 0)) rfl rfl d_Mo_restore_51 ?_
    refine g_iconst (pc := 52) hC kc_0 d_Mo_restore_52 ?_
    refine g_putI (pc := 53) hC po_Mo_263 (ob_Mo hV) rfl rfl rfl d_Mo_restore_53 ?_
    refine g_letS h (fun S53 h => ?_)
    refine g_iconst (pc := 56) hC kc_1 d_Mo_restore_56 ?_
    exact g_iW (pc := 57) hC rfl d_Mo_restore_57 h
  · refine g_aload_n (pc := 28) hC (i := 0) (x := (V.2.2.1 0 0)) rfl rfl d_Mo_restore_28 ?_
    refine g_getA (pc := 29) hC fo_Mo_134 (ob_Mo hV) rfl d_Mo_restore_29 ?_
    refine g_iload_n (pc := 32) hC (i := 2) (x := x2) rfl rfl d_Mo_restore_32 ?_
    refine g_aload_n (pc := 33) hC (i := 0) (x := (V.2.2.1 0 0)) rfl rfl d_Mo_restore_33 ?_
    refine g_getA (pc := 34) hC fo_Mo_161 (ob_Mo hV) rfl d_Mo_restore_34 ?_
    refine g_bipush (pc := 37) hC kb_40 d_Mo_restore_37 ?_
    refine g_iload_n (pc := 39) hC (i := 1) (x := x1) rfl rfl d_Mo_restore_39 ?_
    refine g_imul (pc := 40) hC d_Mo_restore_40 ?_
    refine g_iload_n (pc := 41) hC (i := 2) (x := x2) rfl rfl d_Mo_restore_41 ?_
    refine g_iadd (pc := 42) hC d_Mo_restore_42 ?_
    refine g_iald (pc := 43) hC (ar_Mo_73 hV) d_Mo_restore_43 h (fun h => ?_)
    refine g_iast (pc := 44) hC (ar_Mo_56 hV) d_Mo_restore_44 h (fun h => ?_)
    refine g_letS h (fun S44 h => ?_)
    refine s_iinc (pc := 45) hC (i := 2) (x := x2) (v := x2 + 1) rfl (by rw [kc_1]) (by decide) d_Mo_restore_45 (lv2 := [some (.ref (V.2.2.1 0 0)), some (.int x1), some (.int (x2 + 1))]) rfl ?_
    refine g_goto (pc := 48) hC (tgt := 22) (by decide) d_Mo_restore_48 ?_
    exact hk22 x1 (x2 + 1) S44 h
theorem w_Mo_restore_l22 {X : CX} {V : WV} (hV : IsM V) {z : Int32 × Mem} (hC : Ck X V bc_Mo_restore 3 "SecretWellsModel" (some .boolean) 1 22) : ∀ (n : Nat) (x1 : Int32) (x2 : Int32) (S : Mem), f_Mo_restore_l22  n x1 x2 S = some z → G X V 3 (QI X V z.1 z.2) 22 [some (.ref (V.2.2.1 0 0)), some (.int x1), some (.int x2)] [] S := by
  intro n
  induction n with
  | zero =>
    intro x1 x2 S h
    have h : (none : Option (Int32 × Mem)) = some z := h
    cases h
  | succ n ih =>
    intro x1 x2 S h
    exact w_Mo_restore_b22 hV hC (f_Mo_restore_l22  n) ih x1 x2 S h
set_option maxRecDepth 20000 in
theorem w_Mo_restore_b0 {X : CX} {V : WV} (hV : IsM V) {z : Int32 × Mem} (hC : Ck X V bc_Mo_restore 3 "SecretWellsModel" (some .boolean) 1 22) (x1 : Int32) (S : Mem) (h : f_Mo_restore_b0  x1 S = some z) : G X V 3 (QI X V z.1 z.2) 0 [some (.ref (V.2.2.1 0 0)), some (.int x1), none] [] S := by
  unfold f_Mo_restore_b0 at h
  refine g_iload_n (pc := 0) hC (i := 1) (x := x1) rfl rfl d_Mo_restore_0 ?_
  refine g_iconst (pc := 1) hC kc_0 d_Mo_restore_1 ?_
  refine g_iconst (pc := 2) hC kc_2 d_Mo_restore_2 ?_
  obtain ⟨q3, hq3, h⟩ := Option.bind_eq_some_iff.mp h
  refine g_si (pc := 3) hC (As := [.int x1, .int 0, .int 2]) (st := []) mt_Mo_in lk_Mo_332 (Nat.le_of_ble_eq_true rfl) ⟨Nat.le_of_ble_eq_true rfl, Nat.le_of_ble_eq_true rfl⟩ rfl d_Mo_restore_3 (c_Mo_in (IsM.ok hV) hq3) ?_
  refine g_if_eq (pc := 6) hC (tgt := 18) (by decide) d_Mo_restore_6 h (fun h => ?_) (fun h => ?_)
  · refine g_iconst (pc := 18) hC kc_0 d_Mo_restore_18 ?_
    exact g_iW (pc := 19) hC rfl d_Mo_restore_19 h
  · refine g_aload_n (pc := 9) hC (i := 0) (x := (V.2.2.1 0 0)) rfl rfl d_Mo_restore_9 ?_
    refine g_getA (pc := 10) hC fo_Mo_158 (ob_Mo hV) rfl d_Mo_restore_10 ?_
    refine g_iload_n (pc := 13) hC (i := 1) (x := x1) rfl rfl d_Mo_restore_13 ?_
    refine g_zald (pc := 14) hC (ar_Mo_72 hV) d_Mo_restore_14 h (fun h => ?_)
    refine g_if_ne (pc := 15) hC (tgt := 20) (by decide) d_Mo_restore_15 h (fun h => ?_) (fun h => ?_)
    · refine g_iconst (pc := 20) hC kc_0 d_Mo_restore_20 ?_
      refine s_istore_n (pc := 21) hC (i := 2) rfl (by decide) d_Mo_restore_21 (lv2 := [some (.ref (V.2.2.1 0 0)), some (.int x1), some (.int 0)]) rfl ?_
      exact w_Mo_restore_l22 hV hC 5000 x1 0 S h
    · refine g_iconst (pc := 18) hC kc_0 d_Mo_restore_18 ?_
      exact g_iW (pc := 19) hC rfl d_Mo_restore_19 h
theorem c_Mo_restore {V : WV} {l : Launch} (hV : IsM V) {x1 : Int32} {S : Mem} {z : Int32 × Mem} (h : f_Mo_restore x1 S = some z) : CI V l y_Mo_restore bc_Mo_restore 3 (some .boolean) 1 22 [.ref (V.2.2.1 0 0), .int x1] S z.1 z.2 :=
  ct_i rfl (IsM.ok hV) (Nat.le_of_ble_eq_true rfl) (fun _ _ hC => w_Mo_restore_b0 hV hC x1 S h)
def f_Mo_count_b202 (S : Mem) (s0 : Int32) (s1 : Int32) : Option (Int32) :=
  some (s1 + s0)
def f_Mo_count_b187 (S : Mem) (s0 : Int32) (s1 : Int32) : Option (Int32) :=
  gIn 2 3 (
  if (S.2.1 0 72 (2 : Int32).toNatClampNeg) = 0 then
    f_Mo_count_b202 S 0 (s1 + s0)
  else
    f_Mo_count_b202 S 1 (s1 + s0))
def f_Mo_count_b173 (S : Mem) (s0 : Int32) : Option (Int32) :=
  gIn 1 3 (
  if (S.2.1 0 72 (1 : Int32).toNatClampNeg) = 0 then
    f_Mo_count_b187 S 0 s0
  else
    f_Mo_count_b187 S 1 s0)
def f_Mo_count_b208 (S : Mem) (k208 : Int32 → Int32 → Option (Int32)) (x2 : Int32) (x3 : Int32) : Option (Int32) :=
  gIn (S.1 0 18) 2 (
  if (S.2.1 0 24 (S.1 0 18).toNatClampNeg) ≤ x3 then
    some x2
  else
    gIn x3 40 (
    letS (x2 + (S.2.1 0 56 x3.toNatClampNeg)) (fun y229 =>
    k208 y229 (x3 + 1))))
def f_Mo_count_l208 (S : Mem) : Nat → Int32 → Int32 → Option (Int32)
  | 0 => fun _ _ => none
  | n + 1 => f_Mo_count_b208 S (f_Mo_count_l208 S n)
def f_Mo_count_b242 (S : Mem) (k242 : Int32 → Int32 → Option (Int32)) (x2 : Int32) (x3 : Int32) : Option (Int32) :=
  gIn (S.1 0 18) 2 (
  if (S.2.1 0 30 (S.1 0 18).toNatClampNeg) ≤ x3 then
    some x2
  else
    gIn ((8 * (S.1 0 18)) + x3) 16 (
    if (S.2.1 0 32 ((8 * (S.1 0 18)) + x3).toNatClampNeg) = 0 then
      k242 x2 (x3 + 1)
    else
      letS (x2 ||| ((1 : Int32) <<< (x3 &&& 31))) (fun y277 =>
      k242 y277 (x3 + 1))))
def f_Mo_count_l242 (S : Mem) : Nat → Int32 → Int32 → Option (Int32)
  | 0 => fun _ _ => none
  | n + 1 => f_Mo_count_b242 S (f_Mo_count_l242 S n)
def f_Mo_count_b0 (S : Mem) (x1 : Int32) : Option (Int32) :=
  if x1 = 0 then
    gIn (S.1 0 18) 2 (
    some (S.2.1 0 24 (S.1 0 18).toNatClampNeg))
  else if x1 = 1 then
    gIn (S.1 0 18) 2 (
    some (S.2.1 0 27 (S.1 0 18).toNatClampNeg))
  else if x1 = 2 then
    gIn (S.1 0 18) 2 (
    some (S.2.1 0 30 (S.1 0 18).toNatClampNeg))
  else if x1 = 3 then
    gIn (S.1 0 18) 2 (
    some (S.2.1 0 34 (S.1 0 18).toNatClampNeg))
  else if x1 = 4 then
    gIn 35 40 (
    some (S.2.1 0 56 (35 : Int32).toNatClampNeg))
  else if x1 = 5 then
    gIn 33 40 (
    some (S.2.1 0 56 (33 : Int32).toNatClampNeg))
  else if x1 = 6 then
    gIn 34 40 (
    some (S.2.1 0 56 (34 : Int32).toNatClampNeg))
  else if x1 = 7 then
    gIn 36 40 (
    some (S.2.1 0 56 (36 : Int32).toNatClampNeg))
  else if x1 = 8 then
    some (S.1 0 2)
  else if x1 = 9 then
    some (S.1 0 60)
  else if x1 = 10 then
    some (S.1 0 68)
  else if x1 = 11 then
    gIn 0 3 (
    if (S.2.1 0 72 (0 : Int32).toNatClampNeg) = 0 then
      f_Mo_count_b173 S 0
    else
      f_Mo_count_b173 S 1)
  else if x1 = 12 then
    f_Mo_count_l208 S 5000 0 0
  else if x1 = 13 then
    f_Mo_count_l242 S 5000 0 0
  else 
    some (-1)
def f_Mo_count (x1 : Int32) (S : Mem) : Option (Int32) := f_Mo_count_b0 S x1
theorem d_Mo_count_0 : decode bc_Mo_count 0 = .ok (.iload_n 1, 1) := by decide +kernel
theorem d_Mo_count_1 : decode bc_Mo_count 1 = .ok (.tableswitch 285 0 13 #[71, 81, 91, 101, 111, 119, 127, 135, 143, 148, 153, 158, 203, 237], 71) := by decide +kernel
theorem d_Mo_count_72 : decode bc_Mo_count 72 = .ok (.aload_n 0, 1) := by decide +kernel
theorem d_Mo_count_73 : decode bc_Mo_count 73 = .ok (.getfield 49, 3) := by decide +kernel
theorem d_Mo_count_76 : decode bc_Mo_count 76 = .ok (.aload_n 0, 1) := by decide +kernel
theorem d_Mo_count_77 : decode bc_Mo_count 77 = .ok (.getfield 245, 3) := by decide +kernel
theorem d_Mo_count_80 : decode bc_Mo_count 80 = .ok (.iaload, 1) := by decide +kernel
theorem d_Mo_count_81 : decode bc_Mo_count 81 = .ok (.ireturn, 1) := by decide +kernel
theorem d_Mo_count_82 : decode bc_Mo_count 82 = .ok (.aload_n 0, 1) := by decide +kernel
theorem d_Mo_count_83 : decode bc_Mo_count 83 = .ok (.getfield 58, 3) := by decide +kernel
theorem d_Mo_count_86 : decode bc_Mo_count 86 = .ok (.aload_n 0, 1) := by decide +kernel
theorem d_Mo_count_87 : decode bc_Mo_count 87 = .ok (.getfield 245, 3) := by decide +kernel
theorem d_Mo_count_90 : decode bc_Mo_count 90 = .ok (.iaload, 1) := by decide +kernel
theorem d_Mo_count_91 : decode bc_Mo_count 91 = .ok (.ireturn, 1) := by decide +kernel
theorem d_Mo_count_92 : decode bc_Mo_count 92 = .ok (.aload_n 0, 1) := by decide +kernel
theorem d_Mo_count_93 : decode bc_Mo_count 93 = .ok (.getfield 67, 3) := by decide +kernel
theorem d_Mo_count_96 : decode bc_Mo_count 96 = .ok (.aload_n 0, 1) := by decide +kernel
theorem d_Mo_count_97 : decode bc_Mo_count 97 = .ok (.getfield 245, 3) := by decide +kernel
theorem d_Mo_count_100 : decode bc_Mo_count 100 = .ok (.iaload, 1) := by decide +kernel
theorem d_Mo_count_101 : decode bc_Mo_count 101 = .ok (.ireturn, 1) := by decide +kernel
theorem d_Mo_count_102 : decode bc_Mo_count 102 = .ok (.aload_n 0, 1) := by decide +kernel
theorem d_Mo_count_103 : decode bc_Mo_count 103 = .ok (.getfield 80, 3) := by decide +kernel
theorem d_Mo_count_106 : decode bc_Mo_count 106 = .ok (.aload_n 0, 1) := by decide +kernel
theorem d_Mo_count_107 : decode bc_Mo_count 107 = .ok (.getfield 245, 3) := by decide +kernel
theorem d_Mo_count_110 : decode bc_Mo_count 110 = .ok (.iaload, 1) := by decide +kernel
theorem d_Mo_count_111 : decode bc_Mo_count 111 = .ok (.ireturn, 1) := by decide +kernel
theorem d_Mo_count_112 : decode bc_Mo_count 112 = .ok (.aload_n 0, 1) := by decide +kernel
theorem d_Mo_count_113 : decode bc_Mo_count 113 = .ok (.getfield 134, 3) := by decide +kernel
theorem d_Mo_count_116 : decode bc_Mo_count 116 = .ok (.bipush 35, 2) := by decide +kernel
theorem d_Mo_count_118 : decode bc_Mo_count 118 = .ok (.iaload, 1) := by decide +kernel
theorem d_Mo_count_119 : decode bc_Mo_count 119 = .ok (.ireturn, 1) := by decide +kernel
theorem d_Mo_count_120 : decode bc_Mo_count 120 = .ok (.aload_n 0, 1) := by decide +kernel
theorem d_Mo_count_121 : decode bc_Mo_count 121 = .ok (.getfield 134, 3) := by decide +kernel
theorem d_Mo_count_124 : decode bc_Mo_count 124 = .ok (.bipush 33, 2) := by decide +kernel
theorem d_Mo_count_126 : decode bc_Mo_count 126 = .ok (.iaload, 1) := by decide +kernel
theorem d_Mo_count_127 : decode bc_Mo_count 127 = .ok (.ireturn, 1) := by decide +kernel
theorem d_Mo_count_128 : decode bc_Mo_count 128 = .ok (.aload_n 0, 1) := by decide +kernel
theorem d_Mo_count_129 : decode bc_Mo_count 129 = .ok (.getfield 134, 3) := by decide +kernel
theorem d_Mo_count_132 : decode bc_Mo_count 132 = .ok (.bipush 34, 2) := by decide +kernel
theorem d_Mo_count_134 : decode bc_Mo_count 134 = .ok (.iaload, 1) := by decide +kernel
theorem d_Mo_count_135 : decode bc_Mo_count 135 = .ok (.ireturn, 1) := by decide +kernel
theorem d_Mo_count_136 : decode bc_Mo_count 136 = .ok (.aload_n 0, 1) := by decide +kernel
theorem d_Mo_count_137 : decode bc_Mo_count 137 = .ok (.getfield 134, 3) := by decide +kernel
theorem d_Mo_count_140 : decode bc_Mo_count 140 = .ok (.bipush 36, 2) := by decide +kernel
theorem d_Mo_count_142 : decode bc_Mo_count 142 = .ok (.iaload, 1) := by decide +kernel
theorem d_Mo_count_143 : decode bc_Mo_count 143 = .ok (.ireturn, 1) := by decide +kernel
theorem d_Mo_count_144 : decode bc_Mo_count 144 = .ok (.aload_n 0, 1) := by decide +kernel
theorem d_Mo_count_145 : decode bc_Mo_count 145 = .ok (.getfield 178, 3) := by decide +kernel
theorem d_Mo_count_148 : decode bc_Mo_count 148 = .ok (.ireturn, 1) := by decide +kernel
theorem d_Mo_count_149 : decode bc_Mo_count 149 = .ok (.aload_n 0, 1) := by decide +kernel
theorem d_Mo_count_150 : decode bc_Mo_count 150 = .ok (.getfield 263, 3) := by decide +kernel
theorem d_Mo_count_153 : decode bc_Mo_count 153 = .ok (.ireturn, 1) := by decide +kernel
theorem d_Mo_count_154 : decode bc_Mo_count 154 = .ok (.aload_n 0, 1) := by decide +kernel
theorem d_Mo_count_155 : decode bc_Mo_count 155 = .ok (.getfield 266, 3) := by decide +kernel
theorem d_Mo_count_158 : decode bc_Mo_count 158 = .ok (.ireturn, 1) := by decide +kernel
theorem d_Mo_count_159 : decode bc_Mo_count 159 = .ok (.aload_n 0, 1) := by decide +kernel
theorem d_Mo_count_160 : decode bc_Mo_count 160 = .ok (.getfield 158, 3) := by decide +kernel
theorem d_Mo_count_163 : decode bc_Mo_count 163 = .ok (.iconst 0, 1) := by decide +kernel
theorem d_Mo_count_164 : decode bc_Mo_count 164 = .ok (.baload, 1) := by decide +kernel
theorem d_Mo_count_165 : decode bc_Mo_count 165 = .ok (.ifCond .eq 7, 3) := by decide +kernel
theorem d_Mo_count_168 : decode bc_Mo_count 168 = .ok (.iconst 1, 1) := by decide +kernel
theorem d_Mo_count_169 : decode bc_Mo_count 169 = .ok (.goto 4, 3) := by decide +kernel
theorem d_Mo_count_172 : decode bc_Mo_count 172 = .ok (.iconst 0, 1) := by decide +kernel
theorem d_Mo_count_173 : decode bc_Mo_count 173 = .ok (.aload_n 0, 1) := by decide +kernel
theorem d_Mo_count_174 : decode bc_Mo_count 174 = .ok (.getfield 158, 3) := by decide +kernel
theorem d_Mo_count_177 : decode bc_Mo_count 177 = .ok (.iconst 1, 1) := by decide +kernel
theorem d_Mo_count_178 : decode bc_Mo_count 178 = .ok (.baload, 1) := by decide +kernel
theorem d_Mo_count_179 : decode bc_Mo_count 179 = .ok (.ifCond .eq 7, 3) := by decide +kernel
theorem d_Mo_count_182 : decode bc_Mo_count 182 = .ok (.iconst 1, 1) := by decide +kernel
theorem d_Mo_count_183 : decode bc_Mo_count 183 = .ok (.goto 4, 3) := by decide +kernel
theorem d_Mo_count_186 : decode bc_Mo_count 186 = .ok (.iconst 0, 1) := by decide +kernel
theorem d_Mo_count_187 : decode bc_Mo_count 187 = .ok (.iadd, 1) := by decide +kernel
theorem d_Mo_count_188 : decode bc_Mo_count 188 = .ok (.aload_n 0, 1) := by decide +kernel
theorem d_Mo_count_189 : decode bc_Mo_count 189 = .ok (.getfield 158, 3) := by decide +kernel
theorem d_Mo_count_192 : decode bc_Mo_count 192 = .ok (.iconst 2, 1) := by decide +kernel
theorem d_Mo_count_193 : decode bc_Mo_count 193 = .ok (.baload, 1) := by decide +kernel
theorem d_Mo_count_194 : decode bc_Mo_count 194 = .ok (.ifCond .eq 7, 3) := by decide +kernel
theorem d_Mo_count_197 : decode bc_Mo_count 197 = .ok (.iconst 1, 1) := by decide +kernel
theorem d_Mo_count_198 : decode bc_Mo_count 198 = .ok (.goto 4, 3) := by decide +kernel
theorem d_Mo_count_201 : decode bc_Mo_count 201 = .ok (.iconst 0, 1) := by decide +kernel
theorem d_Mo_count_202 : decode bc_Mo_count 202 = .ok (.iadd, 1) := by decide +kernel
theorem d_Mo_count_203 : decode bc_Mo_count 203 = .ok (.ireturn, 1) := by decide +kernel
theorem d_Mo_count_204 : decode bc_Mo_count 204 = .ok (.iconst 0, 1) := by decide +kernel
theorem d_Mo_count_205 : decode bc_Mo_count 205 = .ok (.istore_n 2, 1) := by decide +kernel
theorem d_Mo_count_206 : decode bc_Mo_count 206 = .ok (.iconst 0, 1) := by decide +kernel
theorem d_Mo_count_207 : decode bc_Mo_count 207 = .ok (.istore_n 3, 1) := by decide +kernel
theorem d_Mo_count_208 : decode bc_Mo_count 208 = .ok (.iload_n 3, 1) := by decide +kernel
theorem d_Mo_count_209 : decode bc_Mo_count 209 = .ok (.aload_n 0, 1) := by decide +kernel
theorem d_Mo_count_210 : decode bc_Mo_count 210 = .ok (.getfield 49, 3) := by decide +kernel
theorem d_Mo_count_213 : decode bc_Mo_count 213 = .ok (.aload_n 0, 1) := by decide +kernel
theorem d_Mo_count_214 : decode bc_Mo_count 214 = .ok (.getfield 245, 3) := by decide +kernel
theorem d_Mo_count_217 : decode bc_Mo_count 217 = .ok (.iaload, 1) := by decide +kernel
theorem d_Mo_count_218 : decode bc_Mo_count 218 = .ok (.if_icmp .ge 18, 3) := by decide +kernel
theorem d_Mo_count_221 : decode bc_Mo_count 221 = .ok (.iload_n 2, 1) := by decide +kernel
theorem d_Mo_count_222 : decode bc_Mo_count 222 = .ok (.aload_n 0, 1) := by decide +kernel
theorem d_Mo_count_223 : decode bc_Mo_count 223 = .ok (.getfield 134, 3) := by decide +kernel
theorem d_Mo_count_226 : decode bc_Mo_count 226 = .ok (.iload_n 3, 1) := by decide +kernel
theorem d_Mo_count_227 : decode bc_Mo_count 227 = .ok (.iaload, 1) := by decide +kernel
theorem d_Mo_count_228 : decode bc_Mo_count 228 = .ok (.iadd, 1) := by decide +kernel
theorem d_Mo_count_229 : decode bc_Mo_count 229 = .ok (.istore_n 2, 1) := by decide +kernel
theorem d_Mo_count_230 : decode bc_Mo_count 230 = .ok (.iinc 3 1, 3) := by decide +kernel
theorem d_Mo_count_233 : decode bc_Mo_count 233 = .ok (.goto (-25), 3) := by decide +kernel
theorem d_Mo_count_236 : decode bc_Mo_count 236 = .ok (.iload_n 2, 1) := by decide +kernel
theorem d_Mo_count_237 : decode bc_Mo_count 237 = .ok (.ireturn, 1) := by decide +kernel
theorem d_Mo_count_238 : decode bc_Mo_count 238 = .ok (.iconst 0, 1) := by decide +kernel
theorem d_Mo_count_239 : decode bc_Mo_count 239 = .ok (.istore_n 2, 1) := by decide +kernel
theorem d_Mo_count_240 : decode bc_Mo_count 240 = .ok (.iconst 0, 1) := by decide +kernel
theorem d_Mo_count_241 : decode bc_Mo_count 241 = .ok (.istore_n 3, 1) := by decide +kernel
theorem d_Mo_count_242 : decode bc_Mo_count 242 = .ok (.iload_n 3, 1) := by decide +kernel
theorem d_Mo_count_243 : decode bc_Mo_count 243 = .ok (.aload_n 0, 1) := by decide +kernel
theorem d_Mo_count_244 : decode bc_Mo_count 244 = .ok (.getfield 67, 3) := by decide +kernel
theorem d_Mo_count_247 : decode bc_Mo_count 247 = .ok (.aload_n 0, 1) := by decide +kernel
theorem d_Mo_count_248 : decode bc_Mo_count 248 = .ok (.getfield 245, 3) := by decide +kernel
theorem d_Mo_count_251 : decode bc_Mo_count 251 = .ok (.iaload, 1) := by decide +kernel
theorem d_Mo_count_252 : decode bc_Mo_count 252 = .ok (.if_icmp .ge 32, 3) := by decide +kernel
theorem d_Mo_count_255 : decode bc_Mo_count 255 = .ok (.aload_n 0, 1) := by decide +kernel
theorem d_Mo_count_256 : decode bc_Mo_count 256 = .ok (.getfield 73, 3) := by decide +kernel
theorem d_Mo_count_259 : decode bc_Mo_count 259 = .ok (.bipush 8, 2) := by decide +kernel
theorem d_Mo_count_261 : decode bc_Mo_count 261 = .ok (.aload_n 0, 1) := by decide +kernel
theorem d_Mo_count_262 : decode bc_Mo_count 262 = .ok (.getfield 245, 3) := by decide +kernel
theorem d_Mo_count_265 : decode bc_Mo_count 265 = .ok (.imul, 1) := by decide +kernel
theorem d_Mo_count_266 : decode bc_Mo_count 266 = .ok (.iload_n 3, 1) := by decide +kernel
theorem d_Mo_count_267 : decode bc_Mo_count 267 = .ok (.iadd, 1) := by decide +kernel
theorem d_Mo_count_268 : decode bc_Mo_count 268 = .ok (.baload, 1) := by decide +kernel
theorem d_Mo_count_269 : decode bc_Mo_count 269 = .ok (.ifCond .eq 9, 3) := by decide +kernel
theorem d_Mo_count_272 : decode bc_Mo_count 272 = .ok (.iload_n 2, 1) := by decide +kernel
theorem d_Mo_count_273 : decode bc_Mo_count 273 = .ok (.iconst 1, 1) := by decide +kernel
theorem d_Mo_count_274 : decode bc_Mo_count 274 = .ok (.iload_n 3, 1) := by decide +kernel
theorem d_Mo_count_275 : decode bc_Mo_count 275 = .ok (.ishl, 1) := by decide +kernel
theorem d_Mo_count_276 : decode bc_Mo_count 276 = .ok (.ior, 1) := by decide +kernel
theorem d_Mo_count_277 : decode bc_Mo_count 277 = .ok (.istore_n 2, 1) := by decide +kernel
theorem d_Mo_count_278 : decode bc_Mo_count 278 = .ok (.iinc 3 1, 3) := by decide +kernel
theorem d_Mo_count_281 : decode bc_Mo_count 281 = .ok (.goto (-39), 3) := by decide +kernel
theorem d_Mo_count_284 : decode bc_Mo_count 284 = .ok (.iload_n 2, 1) := by decide +kernel
theorem d_Mo_count_285 : decode bc_Mo_count 285 = .ok (.ireturn, 1) := by decide +kernel
theorem d_Mo_count_286 : decode bc_Mo_count 286 = .ok (.iconst (-1), 1) := by decide +kernel
theorem d_Mo_count_287 : decode bc_Mo_count 287 = .ok (.ireturn, 1) := by decide +kernel
set_option maxRecDepth 20000 in
theorem w_Mo_count_b202 {X : CX} {V : WV} (hV : IsM V) {S : Mem} {z : Int32} (hC : Ck X V bc_Mo_count 4 "SecretWellsModel" (some .int) 0 0) (s0 : Int32) (s1 : Int32) (h : f_Mo_count_b202 S s0 s1 = some z) : G X V 4 (QI X V z S) 202 [some (.ref (V.2.2.1 0 0)), none, none, none] [.int s0, .int s1] S := by
  unfold f_Mo_count_b202 at h
  refine g_iadd (pc := 202) hC d_Mo_count_202 ?_
  exact g_iN (pc := 203) hC rfl d_Mo_count_203 h
set_option maxRecDepth 20000 in
theorem w_Mo_count_b187 {X : CX} {V : WV} (hV : IsM V) {S : Mem} {z : Int32} (hC : Ck X V bc_Mo_count 4 "SecretWellsModel" (some .int) 0 0) (s0 : Int32) (s1 : Int32) (h : f_Mo_count_b187 S s0 s1 = some z) : G X V 4 (QI X V z S) 187 [some (.ref (V.2.2.1 0 0)), none, none, none] [.int s0, .int s1] S := by
  unfold f_Mo_count_b187 at h
  refine g_iadd (pc := 187) hC d_Mo_count_187 ?_
  refine g_aload_n (pc := 188) hC (i := 0) (x := (V.2.2.1 0 0)) rfl rfl d_Mo_count_188 ?_
  refine g_getA (pc := 189) hC fo_Mo_158 (ob_Mo hV) rfl d_Mo_count_189 ?_
  refine g_iconst (pc := 192) hC kc_2 d_Mo_count_192 ?_
  refine g_zald (pc := 193) hC (ar_Mo_72 hV) d_Mo_count_193 h (fun h => ?_)
  refine g_if_eq (pc := 194) hC (tgt := 201) (by decide) d_Mo_count_194 h (fun h => ?_) (fun h => ?_)
  · refine g_iconst (pc := 201) hC kc_0 d_Mo_count_201 ?_
    exact w_Mo_count_b202 hV hC 0 (s1 + s0) h
  · refine g_iconst (pc := 197) hC kc_1 d_Mo_count_197 ?_
    refine g_goto (pc := 198) hC (tgt := 202) (by decide) d_Mo_count_198 ?_
    exact w_Mo_count_b202 hV hC 1 (s1 + s0) h
set_option maxRecDepth 20000 in
theorem w_Mo_count_b173 {X : CX} {V : WV} (hV : IsM V) {S : Mem} {z : Int32} (hC : Ck X V bc_Mo_count 4 "SecretWellsModel" (some .int) 0 0) (s0 : Int32) (h : f_Mo_count_b173 S s0 = some z) : G X V 4 (QI X V z S) 173 [some (.ref (V.2.2.1 0 0)), none, none, none] [.int s0] S := by
  unfold f_Mo_count_b173 at h
  refine g_aload_n (pc := 173) hC (i := 0) (x := (V.2.2.1 0 0)) rfl rfl d_Mo_count_173 ?_
  refine g_getA (pc := 174) hC fo_Mo_158 (ob_Mo hV) rfl d_Mo_count_174 ?_
  refine g_iconst (pc := 177) hC kc_1 d_Mo_count_177 ?_
  refine g_zald (pc := 178) hC (ar_Mo_72 hV) d_Mo_count_178 h (fun h => ?_)
  refine g_if_eq (pc := 179) hC (tgt := 186) (by decide) d_Mo_count_179 h (fun h => ?_) (fun h => ?_)
  · refine g_iconst (pc := 186) hC kc_0 d_Mo_count_186 ?_
    exact w_Mo_count_b187 hV hC 0 s0 h
  · refine g_iconst (pc := 182) hC kc_1 d_Mo_count_182 ?_
    refine g_goto (pc := 183) hC (tgt := 187) (by decide) d_Mo_count_183 ?_
    exact w_Mo_count_b187 hV hC 1 s0 h
set_option maxRecDepth 20000 in
theorem w_Mo_count_b208 {X : CX} {V : WV} (hV : IsM V) {S : Mem} {z : Int32} (hC : Ck X V bc_Mo_count 4 "SecretWellsModel" (some .int) 0 0) (k208 : Int32 → Int32 → Option (Int32)) (hk208 : ∀ (x2 : Int32) (x3 : Int32), k208 x2 x3 = some z → G X V 4 (QI X V z S) 208 [some (.ref (V.2.2.1 0 0)), none, some (.int x2), some (.int x3)] [] S) (x2 : Int32) (x3 : Int32) (h : f_Mo_count_b208 S k208 x2 x3 = some z) : G X V 4 (QI X V z S) 208 [some (.ref (V.2.2.1 0 0)), none, some (.int x2), some (.int x3)] [] S := by
  unfold f_Mo_count_b208 at h
  refine g_iload_n (pc := 208) hC (i := 3) (x := x3) rfl rfl d_Mo_count_208 ?_
  refine g_aload_n (pc := 209) hC (i := 0) (x := (V.2.2.1 0 0)) rfl rfl d_Mo_count_209 ?_
  refine g_getA (pc := 210) hC fo_Mo_49 (ob_Mo hV) rfl d_Mo_count_210 ?_
  refine g_aload_n (pc := 213) hC (i := 0) (x := (V.2.2.1 0 0)) rfl rfl d_Mo_count_213 ?_
  refine g_getI (pc := 214) hC fo_Mo_245 (ob_Mo hV) rfl d_Mo_count_214 ?_
  refine g_iald (pc := 217) hC (ar_Mo_24 hV) d_Mo_count_217 h (fun h => ?_)
  refine g_icmp_ge (pc := 218) hC (tgt := 236) (by decide) d_Mo_count_218 h (fun h => ?_) (fun h => ?_)
  · refine g_iload_n (pc := 236) hC (i := 2) (x := x2) rfl rfl d_Mo_count_236 ?_
    exact g_iN (pc := 237) hC rfl d_Mo_count_237 h
  · refine g_iload_n (pc := 221) hC (i := 2) (x := x2) rfl rfl d_Mo_count_221 ?_
    refine g_aload_n (pc := 222) hC (i := 0) (x := (V.2.2.1 0 0)) rfl rfl d_Mo_count_222 ?_
    refine g_getA (pc := 223) hC fo_Mo_134 (ob_Mo hV) rfl d_Mo_count_223 ?_
    refine g_iload_n (pc := 226) hC (i := 3) (x := x3) rfl rfl d_Mo_count_226 ?_
    refine g_iald (pc := 227) hC (ar_Mo_56 hV) d_Mo_count_227 h (fun h => ?_)
    refine g_iadd (pc := 228) hC d_Mo_count_228 ?_
    refine g_leti h (fun y229 h => ?_)
    refine s_istore_n (pc := 229) hC (i := 2) rfl (by decide) d_Mo_count_229 (lv2 := [some (.ref (V.2.2.1 0 0)), none, some (.int y229), some (.int x3)]) rfl ?_
    refine s_iinc (pc := 230) hC (i := 3) (x := x3) (v := x3 + 1) rfl (by rw [kc_1]) (by decide) d_Mo_count_230 (lv2 := [some (.ref (V.2.2.1 0 0)), none, some (.int y229), some (.int (x3 + 1))]) rfl ?_
    refine g_goto (pc := 233) hC (tgt := 208) (by decide) d_Mo_count_233 ?_
    exact hk208 y229 (x3 + 1) h
theorem w_Mo_count_l208 {X : CX} {V : WV} (hV : IsM V) {S : Mem} {z : Int32} (hC : Ck X V bc_Mo_count 4 "SecretWellsModel" (some .int) 0 0) : ∀ (n : Nat) (x2 : Int32) (x3 : Int32), f_Mo_count_l208 S n x2 x3 = some z → G X V 4 (QI X V z S) 208 [some (.ref (V.2.2.1 0 0)), none, some (.int x2), some (.int x3)] [] S := by
  intro n
  induction n with
  | zero =>
    intro x2 x3 h
    have h : (none : Option (Int32)) = some z := h
    cases h
  | succ n ih =>
    intro x2 x3 h
    exact w_Mo_count_b208 hV hC (f_Mo_count_l208 S n) ih x2 x3 h
set_option maxRecDepth 20000 in
theorem w_Mo_count_b242 {X : CX} {V : WV} (hV : IsM V) {S : Mem} {z : Int32} (hC : Ck X V bc_Mo_count 4 "SecretWellsModel" (some .int) 0 0) (k242 : Int32 → Int32 → Option (Int32)) (hk242 : ∀ (x2 : Int32) (x3 : Int32), k242 x2 x3 = some z → G X V 4 (QI X V z S) 242 [some (.ref (V.2.2.1 0 0)), none, some (.int x2), some (.int x3)] [] S) (x2 : Int32) (x3 : Int32) (h : f_Mo_count_b242 S k242 x2 x3 = some z) : G X V 4 (QI X V z S) 242 [some (.ref (V.2.2.1 0 0)), none, some (.int x2), some (.int x3)] [] S := by
  unfold f_Mo_count_b242 at h
  refine g_iload_n (pc := 242) hC (i := 3) (x := x3) rfl rfl d_Mo_count_242 ?_
  refine g_aload_n (pc := 243) hC (i := 0) (x := (V.2.2.1 0 0)) rfl rfl d_Mo_count_243 ?_
  refine g_getA (pc := 244) hC fo_Mo_67 (ob_Mo hV) rfl d_Mo_count_244 ?_
  refine g_aload_n (pc := 247) hC (i := 0) (x := (V.2.2.1 0 0)) rfl rfl d_Mo_count_247 ?_
  refine g_getI (pc := 248) hC fo_Mo_245 (ob_Mo hV) rfl d_Mo_count_248 ?_
  refine g_iald (pc := 251) hC (ar_Mo_30 hV) d_Mo_count_251 h (fun h => ?_)
  refine g_icmp_ge (pc := 252) hC (tgt := 284) (by decide) d_Mo_count_252 h (fun h => ?_) (fun h => ?_)
  · refine g_iload_n (pc := 284) hC (i := 2) (x := x2) rfl rfl d_Mo_count_284 ?_
    exact g_iN (pc := 285) hC rfl d_Mo_count_285 h
  · refine g_aload_n (pc := 255) hC (i := 0) (x := (V.2.2.1 0 0)) rfl rfl d_Mo_count_255 ?_
    refine g_getA (pc := 256) hC fo_Mo_73 (ob_Mo hV) rfl d_Mo_count_256 ?_
    refine g_bipush (pc := 259) hC kb_8 d_Mo_count_259 ?_
    refine g_aload_n (pc := 261) hC (i := 0) (x := (V.2.2.1 0 0)) rfl rfl d_Mo_count_261 ?_
    refine g_getI (pc := 262) hC fo_Mo_245 (ob_Mo hV) rfl d_Mo_count_262 ?_
    refine g_imul (pc := 265) hC d_Mo_count_265 ?_
    refine g_iload_n (pc := 266) hC (i := 3) (x := x3) rfl rfl d_Mo_count_266 ?_
    refine g_iadd (pc := 267) hC d_Mo_count_267 ?_
    refine g_zald (pc := 268) hC (ar_Mo_32 hV) d_Mo_count_268 h (fun h => ?_)
    refine g_if_eq (pc := 269) hC (tgt := 278) (by decide) d_Mo_count_269 h (fun h => ?_) (fun h => ?_)
    · refine s_iinc (pc := 278) hC (i := 3) (x := x3) (v := x3 + 1) rfl (by rw [kc_1]) (by decide) d_Mo_count_278 (lv2 := [some (.ref (V.2.2.1 0 0)), none, some (.int x2), some (.int (x3 + 1))]) rfl ?_
      refine g_goto (pc := 281) hC (tgt := 242) (by decide) d_Mo_count_281 ?_
      exact hk242 x2 (x3 + 1) h
    · refine g_iload_n (pc := 272) hC (i := 2) (x := x2) rfl rfl d_Mo_count_272 ?_
      refine g_iconst (pc := 273) hC kc_1 d_Mo_count_273 ?_
      refine g_iload_n (pc := 274) hC (i := 3) (x := x3) rfl rfl d_Mo_count_274 ?_
      refine g_ishl (pc := 275) hC d_Mo_count_275 ?_
      refine g_ior (pc := 276) hC d_Mo_count_276 ?_
      refine g_leti h (fun y277 h => ?_)
      refine s_istore_n (pc := 277) hC (i := 2) rfl (by decide) d_Mo_count_277 (lv2 := [some (.ref (V.2.2.1 0 0)), none, some (.int y277), some (.int x3)]) rfl ?_
      refine s_iinc (pc := 278) hC (i := 3) (x := x3) (v := x3 + 1) rfl (by rw [kc_1]) (by decide) d_Mo_count_278 (lv2 := [some (.ref (V.2.2.1 0 0)), none, some (.int y277), some (.int (x3 + 1))]) rfl ?_
      refine g_goto (pc := 281) hC (tgt := 242) (by decide) d_Mo_count_281 ?_
      exact hk242 y277 (x3 + 1) h
theorem w_Mo_count_l242 {X : CX} {V : WV} (hV : IsM V) {S : Mem} {z : Int32} (hC : Ck X V bc_Mo_count 4 "SecretWellsModel" (some .int) 0 0) : ∀ (n : Nat) (x2 : Int32) (x3 : Int32), f_Mo_count_l242 S n x2 x3 = some z → G X V 4 (QI X V z S) 242 [some (.ref (V.2.2.1 0 0)), none, some (.int x2), some (.int x3)] [] S := by
  intro n
  induction n with
  | zero =>
    intro x2 x3 h
    have h : (none : Option (Int32)) = some z := h
    cases h
  | succ n ih =>
    intro x2 x3 h
    exact w_Mo_count_b242 hV hC (f_Mo_count_l242 S n) ih x2 x3 h
set_option maxRecDepth 20000 in
theorem w_Mo_count_b0 {X : CX} {V : WV} (hV : IsM V) {S : Mem} {z : Int32} (hC : Ck X V bc_Mo_count 4 "SecretWellsModel" (some .int) 0 0) (x1 : Int32) (h : f_Mo_count_b0 S x1 = some z) : G X V 4 (QI X V z S) 0 [some (.ref (V.2.2.1 0 0)), some (.int x1), none, none] [] S := by
  unfold f_Mo_count_b0 at h
  refine g_iload_n (pc := 0) hC (i := 1) (x := x1) rfl rfl d_Mo_count_0 ?_
  by_cases hs1_0 : x1 = 0
  · rw [if_pos hs1_0] at h
    refine g_table (pc := 1) hC (tgt := 72) d_Mo_count_1 rfl (by rw [hs1_0]; decide) ?_
    refine g_aload_n (pc := 72) hC (i := 0) (x := (V.2.2.1 0 0)) rfl rfl d_Mo_count_72 ?_
    refine g_getA (pc := 73) hC fo_Mo_49 (ob_Mo hV) rfl d_Mo_count_73 ?_
    refine g_aload_n (pc := 76) hC (i := 0) (x := (V.2.2.1 0 0)) rfl rfl d_Mo_count_76 ?_
    refine g_getI (pc := 77) hC fo_Mo_245 (ob_Mo hV) rfl d_Mo_count_77 ?_
    refine g_iald (pc := 80) hC (ar_Mo_24 hV) d_Mo_count_80 h (fun h => ?_)
    exact g_iN (pc := 81) hC rfl d_Mo_count_81 h
  rw [if_neg hs1_0] at h
  by_cases hs1_1 : x1 = 1
  · rw [if_pos hs1_1] at h
    refine g_table (pc := 1) hC (tgt := 82) d_Mo_count_1 rfl (by rw [hs1_1]; decide) ?_
    refine g_aload_n (pc := 82) hC (i := 0) (x := (V.2.2.1 0 0)) rfl rfl d_Mo_count_82 ?_
    refine g_getA (pc := 83) hC fo_Mo_58 (ob_Mo hV) rfl d_Mo_count_83 ?_
    refine g_aload_n (pc := 86) hC (i := 0) (x := (V.2.2.1 0 0)) rfl rfl d_Mo_count_86 ?_
    refine g_getI (pc := 87) hC fo_Mo_245 (ob_Mo hV) rfl d_Mo_count_87 ?_
    refine g_iald (pc := 90) hC (ar_Mo_27 hV) d_Mo_count_90 h (fun h => ?_)
    exact g_iN (pc := 91) hC rfl d_Mo_count_91 h
  rw [if_neg hs1_1] at h
  by_cases hs1_2 : x1 = 2
  · rw [if_pos hs1_2] at h
    refine g_table (pc := 1) hC (tgt := 92) d_Mo_count_1 rfl (by rw [hs1_2]; decide) ?_
    refine g_aload_n (pc := 92) hC (i := 0) (x := (V.2.2.1 0 0)) rfl rfl d_Mo_count_92 ?_
    refine g_getA (pc := 93) hC fo_Mo_67 (ob_Mo hV) rfl d_Mo_count_93 ?_
    refine g_aload_n (pc := 96) hC (i := 0) (x := (V.2.2.1 0 0)) rfl rfl d_Mo_count_96 ?_
    refine g_getI (pc := 97) hC fo_Mo_245 (ob_Mo hV) rfl d_Mo_count_97 ?_
    refine g_iald (pc := 100) hC (ar_Mo_30 hV) d_Mo_count_100 h (fun h => ?_)
    exact g_iN (pc := 101) hC rfl d_Mo_count_101 h
  rw [if_neg hs1_2] at h
  by_cases hs1_3 : x1 = 3
  · rw [if_pos hs1_3] at h
    refine g_table (pc := 1) hC (tgt := 102) d_Mo_count_1 rfl (by rw [hs1_3]; decide) ?_
    refine g_aload_n (pc := 102) hC (i := 0) (x := (V.2.2.1 0 0)) rfl rfl d_Mo_count_102 ?_
    refine g_getA (pc := 103) hC fo_Mo_80 (ob_Mo hV) rfl d_Mo_count_103 ?_
    refine g_aload_n (pc := 106) hC (i := 0) (x := (V.2.2.1 0 0)) rfl rfl d_Mo_count_106 ?_
    refine g_getI (pc := 107) hC fo_Mo_245 (ob_Mo hV) rfl d_Mo_count_107 ?_
    refine g_iald (pc := 110) hC (ar_Mo_34 hV) d_Mo_count_110 h (fun h => ?_)
    exact g_iN (pc := 111) hC rfl d_Mo_count_111 h
  rw [if_neg hs1_3] at h
  by_cases hs1_4 : x1 = 4
  · rw [if_pos hs1_4] at h
    refine g_table (pc := 1) hC (tgt := 112) d_Mo_count_1 rfl (by rw [hs1_4]; decide) ?_
    refine g_aload_n (pc := 112) hC (i := 0) (x := (V.2.2.1 0 0)) rfl rfl d_Mo_count_112 ?_
    refine g_getA (pc := 113) hC fo_Mo_134 (ob_Mo hV) rfl d_Mo_count_113 ?_
    refine g_bipush (pc := 116) hC kb_35 d_Mo_count_116 ?_
    refine g_iald (pc := 118) hC (ar_Mo_56 hV) d_Mo_count_118 h (fun h => ?_)
    exact g_iN (pc := 119) hC rfl d_Mo_count_119 h
  rw [if_neg hs1_4] at h
  by_cases hs1_5 : x1 = 5
  · rw [if_pos hs1_5] at h
    refine g_table (pc := 1) hC (tgt := 120) d_Mo_count_1 rfl (by rw [hs1_5]; decide) ?_
    refine g_aload_n (pc := 120) hC (i := 0) (x := (V.2.2.1 0 0)) rfl rfl d_Mo_count_120 ?_
    refine g_getA (pc := 121) hC fo_Mo_134 (ob_Mo hV) rfl d_Mo_count_121 ?_
    refine g_bipush (pc := 124) hC kb_33 d_Mo_count_124 ?_
    refine g_iald (pc := 126) hC (ar_Mo_56 hV) d_Mo_count_126 h (fun h => ?_)
    exact g_iN (pc := 127) hC rfl d_Mo_count_127 h
  rw [if_neg hs1_5] at h
  by_cases hs1_6 : x1 = 6
  · rw [if_pos hs1_6] at h
    refine g_table (pc := 1) hC (tgt := 128) d_Mo_count_1 rfl (by rw [hs1_6]; decide) ?_
    refine g_aload_n (pc := 128) hC (i := 0) (x := (V.2.2.1 0 0)) rfl rfl d_Mo_count_128 ?_
    refine g_getA (pc := 129) hC fo_Mo_134 (ob_Mo hV) rfl d_Mo_count_129 ?_
    refine g_bipush (pc := 132) hC kb_34 d_Mo_count_132 ?_
    refine g_iald (pc := 134) hC (ar_Mo_56 hV) d_Mo_count_134 h (fun h => ?_)
    exact g_iN (pc := 135) hC rfl d_Mo_count_135 h
  rw [if_neg hs1_6] at h
  by_cases hs1_7 : x1 = 7
  · rw [if_pos hs1_7] at h
    refine g_table (pc := 1) hC (tgt := 136) d_Mo_count_1 rfl (by rw [hs1_7]; decide) ?_
    refine g_aload_n (pc := 136) hC (i := 0) (x := (V.2.2.1 0 0)) rfl rfl d_Mo_count_136 ?_
    refine g_getA (pc := 137) hC fo_Mo_134 (ob_Mo hV) rfl d_Mo_count_137 ?_
    refine g_bipush (pc := 140) hC kb_36 d_Mo_count_140 ?_
    refine g_iald (pc := 142) hC (ar_Mo_56 hV) d_Mo_count_142 h (fun h => ?_)
    exact g_iN (pc := 143) hC rfl d_Mo_count_143 h
  rw [if_neg hs1_7] at h
  by_cases hs1_8 : x1 = 8
  · rw [if_pos hs1_8] at h
    refine g_table (pc := 1) hC (tgt := 144) d_Mo_count_1 rfl (by rw [hs1_8]; decide) ?_
    refine g_aload_n (pc := 144) hC (i := 0) (x := (V.2.2.1 0 0)) rfl rfl d_Mo_count_144 ?_
    refine g_getI (pc := 145) hC fo_Mo_178 (ob_Mo hV) rfl d_Mo_count_145 ?_
    exact g_iN (pc := 148) hC rfl d_Mo_count_148 h
  rw [if_neg hs1_8] at h
  by_cases hs1_9 : x1 = 9
  · rw [if_pos hs1_9] at h
    refine g_table (pc := 1) hC (tgt := 149) d_Mo_count_1 rfl (by rw [hs1_9]; decide) ?_
    refine g_aload_n (pc := 149) hC (i := 0) (x := (V.2.2.1 0 0)) rfl rfl d_Mo_count_149 ?_
    refine g_getI (pc := 150) hC fo_Mo_263 (ob_Mo hV) rfl d_Mo_count_150 ?_
    exact g_iN (pc := 153) hC rfl d_Mo_count_153 h
  rw [if_neg hs1_9] at h
  by_cases hs1_10 : x1 = 10
  · rw [if_pos hs1_10] at h
    refine g_table (pc := 1) hC (tgt := 154) d_Mo_count_1 rfl (by rw [hs1_10]; decide) ?_
    refine g_aload_n (pc := 154) hC (i := 0) (x := (V.2.2.1 0 0)) rfl rfl d_Mo_count_154 ?_
    refine g_getI (pc := 155) hC fo_Mo_266 (ob_Mo hV) rfl d_Mo_count_155 ?_
    exact g_iN (pc := 158) hC rfl d_Mo_count_158 h
  rw [if_neg hs1_10] at h
  by_cases hs1_11 : x1 = 11
  · rw [if_pos hs1_11] at h
    refine g_table (pc := 1) hC (tgt := 159) d_Mo_count_1 rfl (by rw [hs1_11]; decide) ?_
    refine g_aload_n (pc := 159) hC (i := 0) (x := (V.2.2.1 0 0)) rfl rfl d_Mo_count_159 ?_
    refine g_getA (pc := 160) hC fo_Mo_158 (ob_Mo hV) rfl d_Mo_count_160 ?_
    refine g_iconst (pc := 163) hC kc_0 d_Mo_count_163 ?_
    refine g_zald (pc := 164) hC (ar_Mo_72 hV) d_Mo_count_164 h (fun h => ?_)
    refine g_if_eq (pc := 165) hC (tgt := 172) (by decide) d_Mo_count_165 h (fun h => ?_) (fun h => ?_)
    · refine g_iconst (pc := 172) hC kc_0 d_Mo_count_172 ?_
      refine g_le (lv2 := [some (.ref (V.2.2.1 0 0)), none, none, none]) (⟨rfl, trivial⟩) ?_
      exact w_Mo_count_b173 hV hC 0 h
    · refine g_iconst (pc := 168) hC kc_1 d_Mo_count_168 ?_
      refine g_goto (pc := 169) hC (tgt := 173) (by decide) d_Mo_count_169 ?_
      refine g_le (lv2 := [some (.ref (V.2.2.1 0 0)), none, none, none]) (⟨rfl, trivial⟩) ?_
      exact w_Mo_count_b173 hV hC 1 h
  rw [if_neg hs1_11] at h
  by_cases hs1_12 : x1 = 12
  · rw [if_pos hs1_12] at h
    refine g_table (pc := 1) hC (tgt := 204) d_Mo_count_1 rfl (by rw [hs1_12]; decide) ?_
    refine g_iconst (pc := 204) hC kc_0 d_Mo_count_204 ?_
    refine s_istore_n (pc := 205) hC (i := 2) rfl (by decide) d_Mo_count_205 (lv2 := [some (.ref (V.2.2.1 0 0)), some (.int x1), some (.int 0), none]) rfl ?_
    refine g_iconst (pc := 206) hC kc_0 d_Mo_count_206 ?_
    refine s_istore_n (pc := 207) hC (i := 3) rfl (by decide) d_Mo_count_207 (lv2 := [some (.ref (V.2.2.1 0 0)), some (.int x1), some (.int 0), some (.int 0)]) rfl ?_
    refine g_le (lv2 := [some (.ref (V.2.2.1 0 0)), none, some (.int 0), some (.int 0)]) (⟨rfl, ⟨rfl, ⟨rfl, trivial⟩⟩⟩) ?_
    exact w_Mo_count_l208 hV hC 5000 0 0 h
  rw [if_neg hs1_12] at h
  by_cases hs1_13 : x1 = 13
  · rw [if_pos hs1_13] at h
    refine g_table (pc := 1) hC (tgt := 238) d_Mo_count_1 rfl (by rw [hs1_13]; decide) ?_
    refine g_iconst (pc := 238) hC kc_0 d_Mo_count_238 ?_
    refine s_istore_n (pc := 239) hC (i := 2) rfl (by decide) d_Mo_count_239 (lv2 := [some (.ref (V.2.2.1 0 0)), some (.int x1), some (.int 0), none]) rfl ?_
    refine g_iconst (pc := 240) hC kc_0 d_Mo_count_240 ?_
    refine s_istore_n (pc := 241) hC (i := 3) rfl (by decide) d_Mo_count_241 (lv2 := [some (.ref (V.2.2.1 0 0)), some (.int x1), some (.int 0), some (.int 0)]) rfl ?_
    refine g_le (lv2 := [some (.ref (V.2.2.1 0 0)), none, some (.int 0), some (.int 0)]) (⟨rfl, ⟨rfl, ⟨rfl, trivial⟩⟩⟩) ?_
    exact w_Mo_count_l242 hV hC 5000 0 0 h
  rw [if_neg hs1_13] at h
  refine g_table (pc := 1) hC (tgt := 286) d_Mo_count_1 rfl ((sw_else [(0 : Int32), (1 : Int32), (2 : Int32), (3 : Int32), (4 : Int32), (5 : Int32), (6 : Int32), (7 : Int32), (8 : Int32), (9 : Int32), (10 : Int32), (11 : Int32), (12 : Int32), (13 : Int32)] (by intro v hv; simp only [List.mem_cons, List.not_mem_nil, or_false] at hv; rcases hv with rfl | rfl | rfl | rfl | rfl | rfl | rfl | rfl | rfl | rfl | rfl | rfl | rfl | rfl <;> assumption) (by decide)).trans (by decide)) ?_
  refine g_iconst (pc := 286) hC kc_m1 d_Mo_count_286 ?_
  exact g_iN (pc := 287) hC rfl d_Mo_count_287 h
theorem c_Mo_count {V : WV} {l : Launch} (hV : IsM V) {x1 : Int32} {S : Mem} {z : Int32} (h : f_Mo_count x1 S = some z) : CI V l y_Mo_count bc_Mo_count 4 (some .int) 0 0 [.ref (V.2.2.1 0 0), .int x1] S z S :=
  ct_i rfl (IsM.ok hV) (Nat.le_of_ble_eq_true rfl) (fun _ _ hC => w_Mo_count_b0 hV hC x1 h)
