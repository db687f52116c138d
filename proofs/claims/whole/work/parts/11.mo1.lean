/-! methods of the bytecode as functions, and the machine's walks of them. By program (wip/whole/gen/make.py): Mo_tellSecret, Mo_tellTie, Mo_emit, Mo_unit, Mo_comesOut, Mo_expression, Mo_term, Mo_tellLaw, Mo_tellOne, Mo_knows, Mo_knowersOf, Mo_bits, Mo_knownBy, Mo_deeperBy, Mo_weightNow, Mo_deepOf, Mo_cutsWater -/
def f_Mo_tellSecret_b138 (k78 : Int32 → Int32 → Int32 → Mem → Option (Mem)) (x1 : Int32) (x2 : Int32) (x3 : Int32) (x5 : Int32) (S : Mem) : Option (Mem) :=
  letS (x3 ||| ((1 : Int32) <<< (x5 &&& 31))) (fun y144 =>
  k78 x1 x2 y144 S)
def f_Mo_tellSecret_b148 (x1 : Int32) (x2 : Int32) (x3 : Int32) (S : Mem) : Option (Mem) :=
  gIn x1 16 (letS (sA S 0 33 x1 x3) (fun S154 =>
  Option.bind (f_Mo_must 4 S154) (fun q157 =>
  if (q157.1 0 13) ≤ 0 then
    gIn (q157.1 0 19) 2 (
    Option.bind (f_Mo_notes x2 2 (q157.2.1 0 30 (q157.1 0 19).toNatClampNeg) q157) (fun q180 =>
    gIn (q180.1 0 19) 2 (
    gIn (q180.1 0 19) 2 (letS (sA q180 0 30 (q180.1 0 19) ((q180.2.1 0 30 (q180.1 0 19).toNatClampNeg) + 1)) (fun S195 =>
    some S195)))))
  else
    some q157)))
def f_Mo_tellSecret_b78 (k78 : Int32 → Int32 → Int32 → Mem → Option (Mem)) (x1 : Int32) (x2 : Int32) (x3 : Int32) (S : Mem) : Option (Mem) :=
  if (S.1 0 13) = 0 then
    Option.bind (f_Mo_is 1 S) (fun q87 =>
    if q87 = 0 then
      f_Mo_tellSecret_b148 x1 x2 x3 S
    else
      letS (S.1 0 11) (fun y97 =>
      Option.bind (f_Mo_known 1 S) (fun q101 =>
      letS q101.1 (fun y104 =>
      if 0 < (q101.2.1 0 13) then
        k78 x1 x2 x3 q101.2
      else
        if 0 ≤ y104 then
          if ((x3 >>> (y104 &&& 31)) &&& 1) = 1 then
            Option.bind (f_Mo_wrong 3 y97 q101.2) (fun q135 =>
            f_Mo_tellSecret_b138 k78 x1 x2 x3 y104 q135)
          else
            f_Mo_tellSecret_b138 k78 x1 x2 x3 y104 q101.2
        else
          k78 x1 x2 x3 q101.2))))
  else
    f_Mo_tellSecret_b148 x1 x2 x3 S
def f_Mo_tellSecret_l78 : Nat → Int32 → Int32 → Int32 → Mem → Option (Mem)
  | 0 => fun _ _ _ _ => none
  | n + 1 => f_Mo_tellSecret_b78  (f_Mo_tellSecret_l78  n)
def f_Mo_tellSecret_b62 (x1 : Int32) (x2 : Int32) (s0 : Int32) (s1 : Int32) (S : Mem) : Option (Mem) :=
  gIn s1 16 (letS (sA S 0 32 s1 (vp_nar .boolean s0)) (fun S62 =>
  gIn x1 16 (
  if (S62.2.1 0 32 x1.toNatClampNeg) = 0 then
    f_Mo_tellSecret_l78 5000 x1 x2 0 S62
  else
    Option.bind (f_Mo_goesOn S62) (fun q73 =>
    f_Mo_tellSecret_l78 5000 x1 x2 0 q73))))
def f_Mo_tellSecret_b0 (S : Mem) : Option (Mem) :=
  gIn (S.1 0 19) 2 (
  letS ((8 * (S.1 0 19)) + (S.2.1 0 30 (S.1 0 19).toNatClampNeg)) (fun y17 =>
  Option.bind (f_Mo_named S) (fun q19 =>
  letS q19.1 (fun y22 =>
  Option.bind (f_Mo_bounded 1 99 q19.2) (fun q32 =>
  gIn y17 16 (letS (sA q32.2 0 31 y17 q32.1) (fun S35 =>
  if (S35.1 0 13) = 0 then
    Option.bind (f_Mo_is 23 S35) (fun q51 =>
    if q51 = 0 then
      f_Mo_tellSecret_b62 y17 y22 0 y17 S35
    else
      f_Mo_tellSecret_b62 y17 y22 1 y17 S35)
  else
    f_Mo_tellSecret_b62 y17 y22 0 y17 S35)))))))
def f_Mo_tellSecret (S : Mem) : Option (Mem) := f_Mo_tellSecret_b0  S
theorem d_Mo_tellSecret_0 : decode bc_Mo_tellSecret 0 = .ok (.bipush 8, 2) := by decide +kernel
theorem d_Mo_tellSecret_2 : decode bc_Mo_tellSecret 2 = .ok (.aload_n 0, 1) := by decide +kernel
theorem d_Mo_tellSecret_3 : decode bc_Mo_tellSecret 3 = .ok (.getfield 248, 3) := by decide +kernel
theorem d_Mo_tellSecret_6 : decode bc_Mo_tellSecret 6 = .ok (.imul, 1) := by decide +kernel
theorem d_Mo_tellSecret_7 : decode bc_Mo_tellSecret 7 = .ok (.aload_n 0, 1) := by decide +kernel
theorem d_Mo_tellSecret_8 : decode bc_Mo_tellSecret 8 = .ok (.getfield 67, 3) := by decide +kernel
theorem d_Mo_tellSecret_11 : decode bc_Mo_tellSecret 11 = .ok (.aload_n 0, 1) := by decide +kernel
theorem d_Mo_tellSecret_12 : decode bc_Mo_tellSecret 12 = .ok (.getfield 248, 3) := by decide +kernel
theorem d_Mo_tellSecret_15 : decode bc_Mo_tellSecret 15 = .ok (.iaload, 1) := by decide +kernel
theorem d_Mo_tellSecret_16 : decode bc_Mo_tellSecret 16 = .ok (.iadd, 1) := by decide +kernel
theorem d_Mo_tellSecret_17 : decode bc_Mo_tellSecret 17 = .ok (.istore_n 1, 1) := by decide +kernel
theorem d_Mo_tellSecret_18 : decode bc_Mo_tellSecret 18 = .ok (.aload_n 0, 1) := by decide +kernel
theorem d_Mo_tellSecret_19 : decode bc_Mo_tellSecret 19 = .ok (.invokevirtual 298, 3) := by decide +kernel
theorem d_Mo_tellSecret_22 : decode bc_Mo_tellSecret 22 = .ok (.istore_n 2, 1) := by decide +kernel
theorem d_Mo_tellSecret_23 : decode bc_Mo_tellSecret 23 = .ok (.aload_n 0, 1) := by decide +kernel
theorem d_Mo_tellSecret_24 : decode bc_Mo_tellSecret 24 = .ok (.getfield 70, 3) := by decide +kernel
theorem d_Mo_tellSecret_27 : decode bc_Mo_tellSecret 27 = .ok (.iload_n 1, 1) := by decide +kernel
theorem d_Mo_tellSecret_28 : decode bc_Mo_tellSecret 28 = .ok (.aload_n 0, 1) := by decide +kernel
theorem d_Mo_tellSecret_29 : decode bc_Mo_tellSecret 29 = .ok (.iconst 1, 1) := by decide +kernel
theorem d_Mo_tellSecret_30 : decode bc_Mo_tellSecret 30 = .ok (.bipush 99, 2) := by decide +kernel
theorem d_Mo_tellSecret_32 : decode bc_Mo_tellSecret 32 = .ok (.invokevirtual 285, 3) := by decide +kernel
theorem d_Mo_tellSecret_35 : decode bc_Mo_tellSecret 35 = .ok (.iastore, 1) := by decide +kernel
theorem d_Mo_tellSecret_36 : decode bc_Mo_tellSecret 36 = .ok (.aload_n 0, 1) := by decide +kernel
theorem d_Mo_tellSecret_37 : decode bc_Mo_tellSecret 37 = .ok (.getfield 73, 3) := by decide +kernel
theorem d_Mo_tellSecret_40 : decode bc_Mo_tellSecret 40 = .ok (.iload_n 1, 1) := by decide +kernel
theorem d_Mo_tellSecret_41 : decode bc_Mo_tellSecret 41 = .ok (.aload_n 0, 1) := by decide +kernel
theorem d_Mo_tellSecret_42 : decode bc_Mo_tellSecret 42 = .ok (.getfield 215, 3) := by decide +kernel
theorem d_Mo_tellSecret_45 : decode bc_Mo_tellSecret 45 = .ok (.ifCond .ne 16, 3) := by decide +kernel
theorem d_Mo_tellSecret_48 : decode bc_Mo_tellSecret 48 = .ok (.aload_n 0, 1) := by decide +kernel
theorem d_Mo_tellSecret_49 : decode bc_Mo_tellSecret 49 = .ok (.bipush 23, 2) := by decide +kernel
theorem d_Mo_tellSecret_51 : decode bc_Mo_tellSecret 51 = .ok (.invokevirtual 233, 3) := by decide +kernel
theorem d_Mo_tellSecret_54 : decode bc_Mo_tellSecret 54 = .ok (.ifCond .eq 7, 3) := by decide +kernel
theorem d_Mo_tellSecret_57 : decode bc_Mo_tellSecret 57 = .ok (.iconst 1, 1) := by decide +kernel
theorem d_Mo_tellSecret_58 : decode bc_Mo_tellSecret 58 = .ok (.goto 4, 3) := by decide +kernel
theorem d_Mo_tellSecret_61 : decode bc_Mo_tellSecret 61 = .ok (.iconst 0, 1) := by decide +kernel
theorem d_Mo_tellSecret_62 : decode bc_Mo_tellSecret 62 = .ok (.bastore, 1) := by decide +kernel
theorem d_Mo_tellSecret_63 : decode bc_Mo_tellSecret 63 = .ok (.aload_n 0, 1) := by decide +kernel
theorem d_Mo_tellSecret_64 : decode bc_Mo_tellSecret 64 = .ok (.getfield 73, 3) := by decide +kernel
theorem d_Mo_tellSecret_67 : decode bc_Mo_tellSecret 67 = .ok (.iload_n 1, 1) := by decide +kernel
theorem d_Mo_tellSecret_68 : decode bc_Mo_tellSecret 68 = .ok (.baload, 1) := by decide +kernel
theorem d_Mo_tellSecret_69 : decode bc_Mo_tellSecret 69 = .ok (.ifCond .eq 7, 3) := by decide +kernel
theorem d_Mo_tellSecret_72 : decode bc_Mo_tellSecret 72 = .ok (.aload_n 0, 1) := by decide +kernel
theorem d_Mo_tellSecret_73 : decode bc_Mo_tellSecret 73 = .ok (.invokevirtual 236, 3) := by decide +kernel
theorem d_Mo_tellSecret_76 : decode bc_Mo_tellSecret 76 = .ok (.iconst 0, 1) := by decide +kernel
theorem d_Mo_tellSecret_77 : decode bc_Mo_tellSecret 77 = .ok (.istore_n 3, 1) := by decide +kernel
theorem d_Mo_tellSecret_78 : decode bc_Mo_tellSecret 78 = .ok (.aload_n 0, 1) := by decide +kernel
theorem d_Mo_tellSecret_79 : decode bc_Mo_tellSecret 79 = .ok (.getfield 215, 3) := by decide +kernel
theorem d_Mo_tellSecret_82 : decode bc_Mo_tellSecret 82 = .ok (.ifCond .ne 66, 3) := by decide +kernel
theorem d_Mo_tellSecret_85 : decode bc_Mo_tellSecret 85 = .ok (.aload_n 0, 1) := by decide +kernel
theorem d_Mo_tellSecret_86 : decode bc_Mo_tellSecret 86 = .ok (.iconst 1, 1) := by decide +kernel
theorem d_Mo_tellSecret_87 : decode bc_Mo_tellSecret 87 = .ok (.invokevirtual 233, 3) := by decide +kernel
theorem d_Mo_tellSecret_90 : decode bc_Mo_tellSecret 90 = .ok (.ifCond .eq 58, 3) := by decide +kernel
theorem d_Mo_tellSecret_93 : decode bc_Mo_tellSecret 93 = .ok (.aload_n 0, 1) := by decide +kernel
theorem d_Mo_tellSecret_94 : decode bc_Mo_tellSecret 94 = .ok (.getfield 218, 3) := by decide +kernel
theorem d_Mo_tellSecret_97 : decode bc_Mo_tellSecret 97 = .ok (.istore 4, 2) := by decide +kernel
theorem d_Mo_tellSecret_99 : decode bc_Mo_tellSecret 99 = .ok (.aload_n 0, 1) := by decide +kernel
theorem d_Mo_tellSecret_100 : decode bc_Mo_tellSecret 100 = .ok (.iconst 1, 1) := by decide +kernel
theorem d_Mo_tellSecret_101 : decode bc_Mo_tellSecret 101 = .ok (.invokevirtual 306, 3) := by decide +kernel
theorem d_Mo_tellSecret_104 : decode bc_Mo_tellSecret 104 = .ok (.istore 5, 2) := by decide +kernel
theorem d_Mo_tellSecret_106 : decode bc_Mo_tellSecret 106 = .ok (.aload_n 0, 1) := by decide +kernel
theorem d_Mo_tellSecret_107 : decode bc_Mo_tellSecret 107 = .ok (.getfield 215, 3) := by decide +kernel
theorem d_Mo_tellSecret_110 : decode bc_Mo_tellSecret 110 = .ok (.ifCond .gt (-32), 3) := by decide +kernel
theorem d_Mo_tellSecret_113 : decode bc_Mo_tellSecret 113 = .ok (.iload 5, 2) := by decide +kernel
theorem d_Mo_tellSecret_115 : decode bc_Mo_tellSecret 115 = .ok (.ifCond .ge 6, 3) := by decide +kernel
theorem d_Mo_tellSecret_118 : decode bc_Mo_tellSecret 118 = .ok (.goto (-40), 3) := by decide +kernel
theorem d_Mo_tellSecret_121 : decode bc_Mo_tellSecret 121 = .ok (.iload_n 3, 1) := by decide +kernel
theorem d_Mo_tellSecret_122 : decode bc_Mo_tellSecret 122 = .ok (.iload 5, 2) := by decide +kernel
theorem d_Mo_tellSecret_124 : decode bc_Mo_tellSecret 124 = .ok (.ishr, 1) := by decide +kernel
theorem d_Mo_tellSecret_125 : decode bc_Mo_tellSecret 125 = .ok (.iconst 1, 1) := by decide +kernel
theorem d_Mo_tellSecret_126 : decode bc_Mo_tellSecret 126 = .ok (.iand, 1) := by decide +kernel
theorem d_Mo_tellSecret_127 : decode bc_Mo_tellSecret 127 = .ok (.iconst 1, 1) := by decide +kernel
theorem d_Mo_tellSecret_128 : decode bc_Mo_tellSecret 128 = .ok (.if_icmp .ne 10, 3) := by decide +kernel
theorem d_Mo_tellSecret_131 : decode bc_Mo_tellSecret 131 = .ok (.aload_n 0, 1) := by decide +kernel
theorem d_Mo_tellSecret_132 : decode bc_Mo_tellSecret 132 = .ok (.iconst 3, 1) := by decide +kernel
theorem d_Mo_tellSecret_133 : decode bc_Mo_tellSecret 133 = .ok (.iload 4, 2) := by decide +kernel
theorem d_Mo_tellSecret_135 : decode bc_Mo_tellSecret 135 = .ok (.invokevirtual 295, 3) := by decide +kernel
theorem d_Mo_tellSecret_138 : decode bc_Mo_tellSecret 138 = .ok (.iload_n 3, 1) := by decide +kernel
theorem d_Mo_tellSecret_139 : decode bc_Mo_tellSecret 139 = .ok (.iconst 1, 1) := by decide +kernel
theorem d_Mo_tellSecret_140 : decode bc_Mo_tellSecret 140 = .ok (.iload 5, 2) := by decide +kernel
theorem d_Mo_tellSecret_142 : decode bc_Mo_tellSecret 142 = .ok (.ishl, 1) := by decide +kernel
theorem d_Mo_tellSecret_143 : decode bc_Mo_tellSecret 143 = .ok (.ior, 1) := by decide +kernel
theorem d_Mo_tellSecret_144 : decode bc_Mo_tellSecret 144 = .ok (.istore_n 3, 1) := by decide +kernel
theorem d_Mo_tellSecret_145 : decode bc_Mo_tellSecret 145 = .ok (.goto (-67), 3) := by decide +kernel
theorem d_Mo_tellSecret_148 : decode bc_Mo_tellSecret 148 = .ok (.aload_n 0, 1) := by decide +kernel
theorem d_Mo_tellSecret_149 : decode bc_Mo_tellSecret 149 = .ok (.getfield 77, 3) := by decide +kernel
theorem d_Mo_tellSecret_152 : decode bc_Mo_tellSecret 152 = .ok (.iload_n 1, 1) := by decide +kernel
theorem d_Mo_tellSecret_153 : decode bc_Mo_tellSecret 153 = .ok (.iload_n 3, 1) := by decide +kernel
theorem d_Mo_tellSecret_154 : decode bc_Mo_tellSecret 154 = .ok (.iastore, 1) := by decide +kernel
theorem d_Mo_tellSecret_155 : decode bc_Mo_tellSecret 155 = .ok (.aload_n 0, 1) := by decide +kernel
theorem d_Mo_tellSecret_156 : decode bc_Mo_tellSecret 156 = .ok (.iconst 4, 1) := by decide +kernel
theorem d_Mo_tellSecret_157 : decode bc_Mo_tellSecret 157 = .ok (.invokevirtual 289, 3) := by decide +kernel
theorem d_Mo_tellSecret_160 : decode bc_Mo_tellSecret 160 = .ok (.aload_n 0, 1) := by decide +kernel
theorem d_Mo_tellSecret_161 : decode bc_Mo_tellSecret 161 = .ok (.getfield 215, 3) := by decide +kernel
theorem d_Mo_tellSecret_164 : decode bc_Mo_tellSecret 164 = .ok (.ifCond .le 4, 3) := by decide +kernel
theorem d_Mo_tellSecret_167 : decode bc_Mo_tellSecret 167 = .ok (.return_, 1) := by decide +kernel
theorem d_Mo_tellSecret_168 : decode bc_Mo_tellSecret 168 = .ok (.aload_n 0, 1) := by decide +kernel
theorem d_Mo_tellSecret_169 : decode bc_Mo_tellSecret 169 = .ok (.iload_n 2, 1) := by decide +kernel
theorem d_Mo_tellSecret_170 : decode bc_Mo_tellSecret 170 = .ok (.iconst 2, 1) := by decide +kernel
theorem d_Mo_tellSecret_171 : decode bc_Mo_tellSecret 171 = .ok (.aload_n 0, 1) := by decide +kernel
theorem d_Mo_tellSecret_172 : decode bc_Mo_tellSecret 172 = .ok (.getfield 67, 3) := by decide +kernel
theorem d_Mo_tellSecret_175 : decode bc_Mo_tellSecret 175 = .ok (.aload_n 0, 1) := by decide +kernel
theorem d_Mo_tellSecret_176 : decode bc_Mo_tellSecret 176 = .ok (.getfield 248, 3) := by decide +kernel
theorem d_Mo_tellSecret_179 : decode bc_Mo_tellSecret 179 = .ok (.iaload, 1) := by decide +kernel
theorem d_Mo_tellSecret_180 : decode bc_Mo_tellSecret 180 = .ok (.invokevirtual 302, 3) := by decide +kernel
theorem d_Mo_tellSecret_183 : decode bc_Mo_tellSecret 183 = .ok (.aload_n 0, 1) := by decide +kernel
theorem d_Mo_tellSecret_184 : decode bc_Mo_tellSecret 184 = .ok (.getfield 67, 3) := by decide +kernel
theorem d_Mo_tellSecret_187 : decode bc_Mo_tellSecret 187 = .ok (.aload_n 0, 1) := by decide +kernel
theorem d_Mo_tellSecret_188 : decode bc_Mo_tellSecret 188 = .ok (.getfield 248, 3) := by decide +kernel
theorem d_Mo_tellSecret_191 : decode bc_Mo_tellSecret 191 = .ok (.dup2, 1) := by decide +kernel
theorem d_Mo_tellSecret_192 : decode bc_Mo_tellSecret 192 = .ok (.iaload, 1) := by decide +kernel
theorem d_Mo_tellSecret_193 : decode bc_Mo_tellSecret 193 = .ok (.iconst 1, 1) := by decide +kernel
theorem d_Mo_tellSecret_194 : decode bc_Mo_tellSecret 194 = .ok (.iadd, 1) := by decide +kernel
theorem d_Mo_tellSecret_195 : decode bc_Mo_tellSecret 195 = .ok (.iastore, 1) := by decide +kernel
theorem d_Mo_tellSecret_196 : decode bc_Mo_tellSecret 196 = .ok (.return_, 1) := by decide +kernel
set_option maxRecDepth 20000 in
theorem w_Mo_tellSecret_b138 {X : CX} {V : WV} (hV : IsM V) {z : Mem} (hC : Ck X V bc_Mo_tellSecret 6 "SecretWellsModel" none 4 85) (k78 : Int32 → Int32 → Int32 → Mem → Option (Mem)) (hk78 : ∀ (x1 : Int32) (x2 : Int32) (x3 : Int32) (S : Mem), k78 x1 x2 x3 S = some z → G X V 6 (QV X V z) 78 [some (.ref (V.2.2.1 0 0)), some (.int x1), some (.int x2), some (.int x3), none, none] [] S) (x1 : Int32) (x2 : Int32) (x3 : Int32) (x5 : Int32) (S : Mem) (h : f_Mo_tellSecret_b138  k78 x1 x2 x3 x5 S = some z) : G X V 6 (QV X V z) 138 [some (.ref (V.2.2.1 0 0)), some (.int x1), some (.int x2), some (.int x3), none, some (.int x5)] [] S := by
  unfold f_Mo_tellSecret_b138 at h
  refine g_iload_n (pc := 138) hC (i := 3) (x := x3) rfl rfl d_Mo_tellSecret_138 ?_
  refine g_iconst (pc := 139) hC kc_1 d_Mo_tellSecret_139 ?_
  refine g_iload (pc := 140) hC (i := 5) (x := x5) rfl d_Mo_tellSecret_140 ?_
  refine g_ishl (pc := 142) hC d_Mo_tellSecret_142 ?_
  refine g_ior (pc := 143) hC d_Mo_tellSecret_143 ?_
  refine g_leti h (fun y144 h => ?_)
  refine s_istore_n (pc := 144) hC (i := 3) rfl (by decide) d_Mo_tellSecret_144 (lv2 := [some (.ref (V.2.2.1 0 0)), some (.int x1), some (.int x2), some (.int y144), none, some (.int x5)]) rfl ?_
  refine g_goto (pc := 145) hC (tgt := 78) (by decide) d_Mo_tellSecret_145 ?_
  refine g_le (lv2 := [some (.ref (V.2.2.1 0 0)), some (.int x1), some (.int x2), some (.int y144), none, none]) (⟨rfl, ⟨rfl, ⟨rfl, ⟨rfl, trivial⟩⟩⟩⟩) ?_
  exact hk78 x1 x2 y144 S h
set_option maxRecDepth 20000 in
theorem w_Mo_tellSecret_b148 {X : CX} {V : WV} (hV : IsM V) {z : Mem} (hC : Ck X V bc_Mo_tellSecret 6 "SecretWellsModel" none 4 85) (x1 : Int32) (x2 : Int32) (x3 : Int32) (S : Mem) (h : f_Mo_tellSecret_b148  x1 x2 x3 S = some z) : G X V 6 (QV X V z) 148 [some (.ref (V.2.2.1 0 0)), some (.int x1), some (.int x2), some (.int x3), none, none] [] S := by
  unfold f_Mo_tellSecret_b148 at h
  refine g_aload_n (pc := 148) hC (i := 0) (x := (V.2.2.1 0 0)) rfl rfl d_Mo_tellSecret_148 ?_
  refine g_getA (pc := 149) hC fo_Mo_77 (ob_Mo hV) rfl d_Mo_tellSecret_149 ?_
  refine g_iload_n (pc := 152) hC (i := 1) (x := x1) rfl rfl d_Mo_tellSecret_152 ?_
  refine g_iload_n (pc := 153) hC (i := 3) (x := x3) rfl rfl d_Mo_tellSecret_153 ?_
  refine g_iast (pc := 154) hC (ar_Mo_33 hV) d_Mo_tellSecret_154 h (fun h => ?_)
  refine g_letS h (fun S154 h => ?_)
  refine g_aload_n (pc := 155) hC (i := 0) (x := (V.2.2.1 0 0)) rfl rfl d_Mo_tellSecret_155 ?_
  refine g_iconst (pc := 156) hC kc_4 d_Mo_tellSecret_156 ?_
  obtain ⟨q157, hq157, h⟩ := Option.bind_eq_some_iff.mp h
  refine g_vv (pc := 157) hC (As := [.int 4]) (st := []) mt_Mo_must lk_Mo_289 rfl (ob_Mo hV) (Nat.le_of_ble_eq_true rfl) ⟨Nat.le_of_ble_eq_true rfl, Nat.le_of_ble_eq_true rfl⟩ rfl d_Mo_tellSecret_157 (c_Mo_must hV hq157) ?_
  refine g_aload_n (pc := 160) hC (i := 0) (x := (V.2.2.1 0 0)) rfl rfl d_Mo_tellSecret_160 ?_
  refine g_getI (pc := 161) hC fo_Mo_215 (ob_Mo hV) rfl d_Mo_tellSecret_161 ?_
  refine g_if_le (pc := 164) hC (tgt := 168) (by decide) d_Mo_tellSecret_164 h (fun h => ?_) (fun h => ?_)
  · refine g_aload_n (pc := 168) hC (i := 0) (x := (V.2.2.1 0 0)) rfl rfl d_Mo_tellSecret_168 ?_
    refine g_iload_n (pc := 169) hC (i := 2) (x := x2) rfl rfl d_Mo_tellSecret_169 ?_
    refine g_iconst (pc := 170) hC kc_2 d_Mo_tellSecret_170 ?_
    refine g_aload_n (pc := 171) hC (i := 0) (x := (V.2.2.1 0 0)) rfl rfl d_Mo_tellSecret_171 ?_
    refine g_getA (pc := 172) hC fo_Mo_67 (ob_Mo hV) rfl d_Mo_tellSecret_172 ?_
    refine g_aload_n (pc := 175) hC (i := 0) (x := (V.2.2.1 0 0)) rfl rfl d_Mo_tellSecret_175 ?_
    refine g_getI (pc := 176) hC fo_Mo_248 (ob_Mo hV) rfl d_Mo_tellSecret_176 ?_
    refine g_iald (pc := 179) hC (ar_Mo_30 hV) d_Mo_tellSecret_179 h (fun h => ?_)
    obtain ⟨q180, hq180, h⟩ := Option.bind_eq_some_iff.mp h
    refine g_vv (pc := 180) hC (As := [.int x2, .int 2, .int (q157.2.1 0 30 (q157.1 0 19).toNatClampNeg)]) (st := []) mt_Mo_notes lk_Mo_302 rfl (ob_Mo hV) (Nat.le_of_ble_eq_true rfl) ⟨Nat.le_of_ble_eq_true rfl, Nat.le_of_ble_eq_true rfl⟩ rfl d_Mo_tellSecret_180 (c_Mo_notes hV hq180) ?_
    refine g_aload_n (pc := 183) hC (i := 0) (x := (V.2.2.1 0 0)) rfl rfl d_Mo_tellSecret_183 ?_
    refine g_getA (pc := 184) hC fo_Mo_67 (ob_Mo hV) rfl d_Mo_tellSecret_184 ?_
    refine g_aload_n (pc := 187) hC (i := 0) (x := (V.2.2.1 0 0)) rfl rfl d_Mo_tellSecret_187 ?_
    refine g_getI (pc := 188) hC fo_Mo_248 (ob_Mo hV) rfl d_Mo_tellSecret_188 ?_
    refine g_dup2 (pc := 191) hC rfl rfl d_Mo_tellSecret_191 ?_
    refine g_iald (pc := 192) hC (ar_Mo_30 hV) d_Mo_tellSecret_192 h (fun h => ?_)
    refine g_iconst (pc := 193) hC kc_1 d_Mo_tellSecret_193 ?_
    refine g_iadd (pc := 194) hC d_Mo_tellSecret_194 ?_
    refine g_iast (pc := 195) hC (ar_Mo_30 hV) d_Mo_tellSecret_195 h (fun h => ?_)
    refine g_letS h (fun S195 h => ?_)
    exact g_vW (pc := 196) hC d_Mo_tellSecret_196 h
  · exact g_vW (pc := 167) hC d_Mo_tellSecret_167 h
set_option maxRecDepth 20000 in
theorem w_Mo_tellSecret_b78 {X : CX} {V : WV} (hV : IsM V) {z : Mem} (hC : Ck X V bc_Mo_tellSecret 6 "SecretWellsModel" none 4 85) (k78 : Int32 → Int32 → Int32 → Mem → Option (Mem)) (hk78 : ∀ (x1 : Int32) (x2 : Int32) (x3 : Int32) (S : Mem), k78 x1 x2 x3 S = some z → G X V 6 (QV X V z) 78 [some (.ref (V.2.2.1 0 0)), some (.int x1), some (.int x2), some (.int x3), none, none] [] S) (x1 : Int32) (x2 : Int32) (x3 : Int32) (S : Mem) (h : f_Mo_tellSecret_b78  k78 x1 x2 x3 S = some z) : G X V 6 (QV X V z) 78 [some (.ref (V.2.2.1 0 0)), some (.int x1), some (.int x2), some (.int x3), none, none] [] S := by
  unfold f_Mo_tellSecret_b78 at h
  refine g_aload_n (pc := 78) hC (i := 0) (x := (V.2.2.1 0 0)) rfl rfl d_Mo_tellSecret_78 ?_
  refine g_getI (pc := 79) hC fo_Mo_215 (ob_Mo hV) rfl d_Mo_tellSecret_79 ?_
  refine g_if_ne (pc := 82) hC (tgt := 148) (by decide) d_Mo_tellSecret_82 h (fun h => ?_) (fun h => ?_)
  · exact w_Mo_tellSecret_b148 hV hC x1 x2 x3 S h
  · refine g_aload_n (pc := 85) hC (i := 0) (x := (V.2.2.1 0 0)) rfl rfl d_Mo_tellSecret_85 ?_
    refine g_iconst (pc := 86) hC kc_1 d_Mo_tellSecret_86 ?_
    obtain ⟨q87, hq87, h⟩ := Option.bind_eq_some_iff.mp h
    refine g_vi (pc := 87) hC (As := [.int 1]) (st := []) mt_Mo_is lk_Mo_233 rfl (ob_Mo hV) (Nat.le_of_ble_eq_true rfl) ⟨Nat.le_of_ble_eq_true rfl, Nat.le_of_ble_eq_true rfl⟩ rfl d_Mo_tellSecret_87 (c_Mo_is hV hq87) ?_
    refine g_if_eq (pc := 90) hC (tgt := 148) (by decide) d_Mo_tellSecret_90 h (fun h => ?_) (fun h => ?_)
    · exact w_Mo_tellSecret_b148 hV hC x1 x2 x3 S h
    · refine g_aload_n (pc := 93) hC (i := 0) (x := (V.2.2.1 0 0)) rfl rfl d_Mo_tellSecret_93 ?_
      refine g_getI (pc := 94) hC fo_Mo_218 (ob_Mo hV) rfl d_Mo_tellSecret_94 ?_
      refine g_leti h (fun y97 h => ?_)
      refine s_istore (pc := 97) hC (i := 4) (by decide) d_Mo_tellSecret_97 (lv2 := [some (.ref (V.2.2.1 0 0)), some (.int x1), some (.int x2), some (.int x3), some (.int y97), none]) rfl ?_
      refine g_aload_n (pc := 99) hC (i := 0) (x := (V.2.2.1 0 0)) rfl rfl d_Mo_tellSecret_99 ?_
      refine g_iconst (pc := 100) hC kc_1 d_Mo_tellSecret_100 ?_
      obtain ⟨q101, hq101, h⟩ := Option.bind_eq_some_iff.mp h
      refine g_vi (pc := 101) hC (As := [.int 1]) (st := []) mt_Mo_known lk_Mo_306 rfl (ob_Mo hV) (Nat.le_of_ble_eq_true rfl) ⟨Nat.le_of_ble_eq_true rfl, Nat.le_of_ble_eq_true rfl⟩ rfl d_Mo_tellSecret_101 (c_Mo_known hV hq101) ?_
      refine g_leti h (fun y104 h => ?_)
      refine s_istore (pc := 104) hC (i := 5) (by decide) d_Mo_tellSecret_104 (lv2 := [some (.ref (V.2.2.1 0 0)), some (.int x1), some (.int x2), some (.int x3), some (.int y97), some (.int y104)]) rfl ?_
      refine g_aload_n (pc := 106) hC (i := 0) (x := (V.2.2.1 0 0)) rfl rfl d_Mo_tellSecret_106 ?_
      refine g_getI (pc := 107) hC fo_Mo_215 (ob_Mo hV) rfl d_Mo_tellSecret_107 ?_
      refine g_if_gt (pc := 110) hC (tgt := 78) (by decide) d_Mo_tellSecret_110 h (fun h => ?_) (fun h => ?_)
      · refine g_le (lv2 := [some (.ref (V.2.2.1 0 0)), some (.int x1), some (.int x2), some (.int x3), none, none]) (⟨rfl, ⟨rfl, ⟨rfl, ⟨rfl, trivial⟩⟩⟩⟩) ?_
        exact hk78 x1 x2 x3 q101.2 h
      · refine g_iload (pc := 113) hC (i := 5) (x := y104) rfl d_Mo_tellSecret_113 ?_
        refine g_if_ge (pc := 115) hC (tgt := 121) (by decide) d_Mo_tellSecret_115 h (fun h => ?_) (fun h => ?_)
        · refine g_iload_n (pc := 121) hC (i := 3) (x := x3) rfl rfl d_Mo_tellSecret_121 ?_
          refine g_iload (pc := 122) hC (i := 5) (x := y104) rfl d_Mo_tellSecret_122 ?_
          refine g_ishr (pc := 124) hC d_Mo_tellSecret_124 ?_
          refine g_iconst (pc := 125) hC kc_1 d_Mo_tellSecret_125 ?_
          refine g_iand (pc := 126) hC d_Mo_tellSecret_126 ?_
          refine g_iconst (pc := 127) hC kc_1 d_Mo_tellSecret_127 ?_
          refine g_icmp_ne (pc := 128) hC (tgt := 138) (by decide) d_Mo_tellSecret_128 h (fun h => ?_) (fun h => ?_)
          · refine g_le (lv2 := [some (.ref (V.2.2.1 0 0)), some (.int x1), some (.int x2), some (.int x3), none, some (.int y104)]) (⟨rfl, ⟨rfl, ⟨rfl, ⟨rfl, ⟨rfl, trivial⟩⟩⟩⟩⟩) ?_
            exact w_Mo_tellSecret_b138 hV hC k78 hk78 x1 x2 x3 y104 q101.2 h
          · refine g_aload_n (pc := 131) hC (i := 0) (x := (V.2.2.1 0 0)) rfl rfl d_Mo_tellSecret_131 ?_
            refine g_iconst (pc := 132) hC kc_3 d_Mo_tellSecret_132 ?_
            refine g_iload (pc := 133) hC (i := 4) (x := y97) rfl d_Mo_tellSecret_133 ?_
            obtain ⟨q135, hq135, h⟩ := Option.bind_eq_some_iff.mp h
            refine g_vv (pc := 135) hC (As := [.int 3, .int y97]) (st := []) mt_Mo_wrong lk_Mo_295 rfl (ob_Mo hV) (Nat.le_of_ble_eq_true rfl) ⟨Nat.le_of_ble_eq_true rfl, Nat.le_of_ble_eq_true rfl⟩ rfl d_Mo_tellSecret_135 (c_Mo_wrong hV hq135) ?_
            refine g_le (lv2 := [some (.ref (V.2.2.1 0 0)), some (.int x1), some (.int x2), some (.int x3), none, some (.int y104)]) (⟨rfl, ⟨rfl, ⟨rfl, ⟨rfl, ⟨rfl, trivial⟩⟩⟩⟩⟩) ?_
            exact w_Mo_tellSecret_b138 hV hC k78 hk78 x1 x2 x3 y104 q135 h
        · refine g_goto (pc := 118) hC (tgt := 78) (by decide) d_Mo_tellSecret_118 ?_
          refine g_le (lv2 := [some (.ref (V.2.2.1 0 0)), some (.int x1), some (.int x2), some (.int x3), none, none]) (⟨rfl, ⟨rfl, ⟨rfl, ⟨rfl, trivial⟩⟩⟩⟩) ?_
          exact hk78 x1 x2 x3 q101.2 h
theorem w_Mo_tellSecret_l78 {X : CX} {V : WV} (hV : IsM V) {z : Mem} (hC : Ck X V bc_Mo_tellSecret 6 "SecretWellsModel" none 4 85) : ∀ (n : Nat) (x1 : Int32) (x2 : Int32) (x3 : Int32) (S : Mem), f_Mo_tellSecret_l78  n x1 x2 x3 S = some z → G X V 6 (QV X V z) 78 [some (.ref (V.2.2.1 0 0)), some (.int x1), some (.int x2), some (.int x3), none, none] [] S := by
  intro n
  induction n with
  | zero =>
    intro x1 x2 x3 S h
    have h : (none : Option (Mem)) = some z := h
    cases h
  | succ n ih =>
    intro x1 x2 x3 S h
    exact w_Mo_tellSecret_b78 hV hC (f_Mo_tellSecret_l78  n) ih x1 x2 x3 S h
set_option maxRecDepth 20000 in
theorem w_Mo_tellSecret_b62 {X : CX} {V : WV} (hV : IsM V) {z : Mem} (hC : Ck X V bc_Mo_tellSecret 6 "SecretWellsModel" none 4 85) (x1 : Int32) (x2 : Int32) (s0 : Int32) (s1 : Int32) (S : Mem) (h : f_Mo_tellSecret_b62  x1 x2 s0 s1 S = some z) : G X V 6 (QV X V z) 62 [some (.ref (V.2.2.1 0 0)), some (.int x1), some (.int x2), none, none, none] [.int s0, .int s1, .ref (V.2.2.1 0 (32 + 1))] S := by
  unfold f_Mo_tellSecret_b62 at h
  refine g_zast (pc := 62) hC (ar_Mo_32 hV) d_Mo_tellSecret_62 h (fun h => ?_)
  refine g_letS h (fun S62 h => ?_)
  refine g_aload_n (pc := 63) hC (i := 0) (x := (V.2.2.1 0 0)) rfl rfl d_Mo_tellSecret_63 ?_
  refine g_getA (pc := 64) hC fo_Mo_73 (ob_Mo hV) rfl d_Mo_tellSecret_64 ?_
  refine g_iload_n (pc := 67) hC (i := 1) (x := x1) rfl rfl d_Mo_tellSecret_67 ?_
  refine g_zald (pc := 68) hC (ar_Mo_32 hV) d_Mo_tellSecret_68 h (fun h => ?_)
  refine g_if_eq (pc := 69) hC (tgt := 76) (by decide) d_Mo_tellSecret_69 h (fun h => ?_) (fun h => ?_)
  · refine g_iconst (pc := 76) hC kc_0 d_Mo_tellSecret_76 ?_
    refine s_istore_n (pc := 77) hC (i := 3) rfl (by decide) d_Mo_tellSecret_77 (lv2 := [some (.ref (V.2.2.1 0 0)), some (.int x1), some (.int x2), some (.int 0), none, none]) rfl ?_
    exact w_Mo_tellSecret_l78 hV hC 5000 x1 x2 0 S62 h
  · refine g_aload_n (pc := 72) hC (i := 0) (x := (V.2.2.1 0 0)) rfl rfl d_Mo_tellSecret_72 ?_
    obtain ⟨q73, hq73, h⟩ := Option.bind_eq_some_iff.mp h
    refine g_vv (pc := 73) hC (As := []) (st := []) mt_Mo_goesOn lk_Mo_236 rfl (ob_Mo hV) (Nat.le_of_ble_eq_true rfl) ⟨Nat.le_of_ble_eq_true rfl, Nat.le_of_ble_eq_true rfl⟩ rfl d_Mo_tellSecret_73 (c_Mo_goesOn hV hq73) ?_
    refine g_iconst (pc := 76) hC kc_0 d_Mo_tellSecret_76 ?_
    refine s_istore_n (pc := 77) hC (i := 3) rfl (by decide) d_Mo_tellSecret_77 (lv2 := [some (.ref (V.2.2.1 0 0)), some (.int x1), some (.int x2), some (.int 0), none, none]) rfl ?_
    exact w_Mo_tellSecret_l78 hV hC 5000 x1 x2 0 q73 h
set_option maxRecDepth 20000 in
theorem w_Mo_tellSecret_b0 {X : CX} {V : WV} (hV : IsM V) {z : Mem} (hC : Ck X V bc_Mo_tellSecret 6 "SecretWellsModel" none 4 85) (S : Mem) (h : f_Mo_tellSecret_b0  S = some z) : G X V 6 (QV X V z) 0 [some (.ref (V.2.2.1 0 0)), none, none, none, none, none] [] S := by
  unfold f_Mo_tellSecret_b0 at h
  refine g_bipush (pc := 0) hC kb_8 d_Mo_tellSecret_0 ?_
  refine g_aload_n (pc := 2) hC (i := 0) (x := (V.2.2.1 0 0)) rfl rfl d_Mo_tellSecret_2 ?_
  refine g_getI (pc := 3) hC fo_Mo_248 (ob_Mo hV) rfl d_Mo_tellSecret_3 ?_
  refine g_imul (pc := 6) hC d_Mo_tellSecret_6 ?_
  refine g_aload_n (pc := 7) hC (i := 0) (x := (V.2.2.1 0 0)) rfl rfl d_Mo_tellSecret_7 ?_
  refine g_getA (pc := 8) hC fo_Mo_67 (ob_Mo hV) rfl d_Mo_tellSecret_8 ?_
  refine g_aload_n (pc := 11) hC (i := 0) (x := (V.2.2.1 0 0)) rfl rfl d_Mo_tellSecret_11 ?_
  refine g_getI (pc := 12) hC fo_Mo_248 (ob_Mo hV) rfl d_Mo_tellSecret_12 ?_
  refine g_iald (pc := 15) hC (ar_Mo_30 hV) d_Mo_tellSecret_15 h (fun h => ?_)
  refine g_iadd (pc := 16) hC d_Mo_tellSecret_16 ?_
  refine g_leti h (fun y17 h => ?_)
  refine s_istore_n (pc := 17) hC (i := 1) rfl (by decide) d_Mo_tellSecret_17 (lv2 := [some (.ref (V.2.2.1 0 0)), some (.int y17), none, none, none, none]) rfl ?_
  refine g_aload_n (pc := 18) hC (i := 0) (x := (V.2.2.1 0 0)) rfl rfl d_Mo_tellSecret_18 ?_
  obtain ⟨q19, hq19, h⟩ := Option.bind_eq_some_iff.mp h
  refine g_vi (pc := 19) hC (As := []) (st := []) mt_Mo_named lk_Mo_298 rfl (ob_Mo hV) (Nat.le_of_ble_eq_true rfl) ⟨Nat.le_of_ble_eq_true rfl, Nat.le_of_ble_eq_true rfl⟩ rfl d_Mo_tellSecret_19 (c_Mo_named hV hq19) ?_
  refine g_leti h (fun y22 h => ?_)
  refine s_istore_n (pc := 22) hC (i := 2) rfl (by decide) d_Mo_tellSecret_22 (lv2 := [some (.ref (V.2.2.1 0 0)), some (.int y17), some (.int y22), none, none, none]) rfl ?_
  refine g_aload_n (pc := 23) hC (i := 0) (x := (V.2.2.1 0 0)) rfl rfl d_Mo_tellSecret_23 ?_
  refine g_getA (pc := 24) hC fo_Mo_70 (ob_Mo hV) rfl d_Mo_tellSecret_24 ?_
  refine g_iload_n (pc := 27) hC (i := 1) (x := y17) rfl rfl d_Mo_tellSecret_27 ?_
  refine g_aload_n (pc := 28) hC (i := 0) (x := (V.2.2.1 0 0)) rfl rfl d_Mo_tellSecret_28 ?_
  refine g_iconst (pc := 29) hC kc_1 d_Mo_tellSecret_29 ?_
  refine g_bipush (pc := 30) hC kb_99 d_Mo_tellSecret_30 ?_
  obtain ⟨q32, hq32, h⟩ := Option.bind_eq_some_iff.mp h
  refine g_vi (pc := 32) hC (As := [.int 1, .int 99]) (st := [.int y17, .ref (V.2.2.1 0 (31 + 1))]) mt_Mo_bounded lk_Mo_285 rfl (ob_Mo hV) (Nat.le_of_ble_eq_true rfl) ⟨Nat.le_of_ble_eq_true rfl, Nat.le_of_ble_eq_true rfl⟩ rfl d_Mo_tellSecret_32 (c_Mo_bounded hV hq32) ?_
  refine g_iast (pc := 35) hC (ar_Mo_31 hV) d_Mo_tellSecret_35 h (fun h => ?_)
  refine g_letS h (fun S35 h => ?_)
  refine g_aload_n (pc := 36) hC (i := 0) (x := (V.2.2.1 0 0)) rfl rfl d_Mo_tellSecret_36 ?_
  refine g_getA (pc := 37) hC fo_Mo_73 (ob_Mo hV) rfl d_Mo_tellSecret_37 ?_
  refine g_iload_n (pc := 40) hC (i := 1) (x := y17) rfl rfl d_Mo_tellSecret_40 ?_
  refine g_aload_n (pc := 41) hC (i := 0) (x := (V.2.2.1 0 0)) rfl rfl d_Mo_tellSecret_41 ?_
  refine g_getI (pc := 42) hC fo_Mo_215 (ob_Mo hV) rfl d_Mo_tellSecret_42 ?_
  refine g_if_ne (pc := 45) hC (tgt := 61) (by decide) d_Mo_tellSecret_45 h (fun h => ?_) (fun h => ?_)
  · refine g_iconst (pc := 61) hC kc_0 d_Mo_tellSecret_61 ?_
    exact w_Mo_tellSecret_b62 hV hC y17 y22 0 y17 S35 h
  · refine g_aload_n (pc := 48) hC (i := 0) (x := (V.2.2.1 0 0)) rfl rfl d_Mo_tellSecret_48 ?_
    refine g_bipush (pc := 49) hC kb_23 d_Mo_tellSecret_49 ?_
    obtain ⟨q51, hq51, h⟩ := Option.bind_eq_some_iff.mp h
    refine g_vi (pc := 51) hC (As := [.int 23]) (st := [.int y17, .ref (V.2.2.1 0 (32 + 1))]) mt_Mo_is lk_Mo_233 rfl (ob_Mo hV) (Nat.le_of_ble_eq_true rfl) ⟨Nat.le_of_ble_eq_true rfl, Nat.le_of_ble_eq_true rfl⟩ rfl d_Mo_tellSecret_51 (c_Mo_is hV hq51) ?_
    refine g_if_eq (pc := 54) hC (tgt := 61) (by decide) d_Mo_tellSecret_54 h (fun h => ?_) (fun h => ?_)
    · refine g_iconst (pc := 61) hC kc_0 d_Mo_tellSecret_61 ?_
      exact w_Mo_tellSecret_b62 hV hC y17 y22 0 y17 S35 h
    · refine g_iconst (pc := 57) hC kc_1 d_Mo_tellSecret_57 ?_
      refine g_goto (pc := 58) hC (tgt := 62) (by decide) d_Mo_tellSecret_58 ?_
      exact w_Mo_tellSecret_b62 hV hC y17 y22 1 y17 S35 h
theorem c_Mo_tellSecret {V : WV} {l : Launch} (hV : IsM V) {S : Mem} {z : Mem} (h : f_Mo_tellSecret S = some z) : CV V l y_Mo_tellSecret bc_Mo_tellSecret 6 none 4 85 [.ref (V.2.2.1 0 0)] S z :=
  ct_v rfl (IsM.ok hV) (Nat.le_of_ble_eq_true rfl) (fun _ _ hC => w_Mo_tellSecret_b0 hV hC S h)
def f_Mo_tellTie_b82 (S : Mem) : Option (Mem) :=
  Option.bind (f_Mo_must 4 S) (fun q84 =>
  if (q84.1 0 13) = 0 then
    gIn (q84.1 0 19) 2 (
    gIn (q84.1 0 19) 2 (letS (sA q84 0 34 (q84.1 0 19) ((q84.2.1 0 34 (q84.1 0 19).toNatClampNeg) + 1)) (fun S106 =>
    some S106)))
  else
    some q84)
def f_Mo_tellTie_b0 (S : Mem) : Option (Mem) :=
  gIn (S.1 0 19) 2 (
  letS ((12 * (S.1 0 19)) + (S.2.1 0 34 (S.1 0 19).toNatClampNeg)) (fun y17 =>
  Option.bind (f_Mo_known 1 S) (fun q25 =>
  gIn y17 24 (letS (sA q25.2 0 35 y17 q25.1) (fun S28 =>
  letS (S28.1 0 11) (fun y33 =>
  Option.bind (f_Mo_known 1 S28) (fun q41 =>
  gIn y17 24 (letS (sA q41.2 0 36 y17 q41.1) (fun S44 =>
  if (S44.1 0 13) = 0 then
    gIn y17 24 (
    if (S44.2.1 0 36 y17.toNatClampNeg) < 0 then
      f_Mo_tellTie_b82 S44
    else
      gIn y17 24 (
      gIn y17 24 (
      if (S44.2.1 0 36 y17.toNatClampNeg) = (S44.2.1 0 35 y17.toNatClampNeg) then
        Option.bind (f_Mo_wrong 3 y33 S44) (fun q79 =>
        f_Mo_tellTie_b82 q79)
      else
        f_Mo_tellTie_b82 S44)))
  else
    f_Mo_tellTie_b82 S44)))))))))
def f_Mo_tellTie (S : Mem) : Option (Mem) := f_Mo_tellTie_b0  S
theorem d_Mo_tellTie_0 : decode bc_Mo_tellTie 0 = .ok (.bipush 12, 2) := by decide +kernel
theorem d_Mo_tellTie_2 : decode bc_Mo_tellTie 2 = .ok (.aload_n 0, 1) := by decide +kernel
theorem d_Mo_tellTie_3 : decode bc_Mo_tellTie 3 = .ok (.getfield 248, 3) := by decide +kernel
theorem d_Mo_tellTie_6 : decode bc_Mo_tellTie 6 = .ok (.imul, 1) := by decide +kernel
theorem d_Mo_tellTie_7 : decode bc_Mo_tellTie 7 = .ok (.aload_n 0, 1) := by decide +kernel
theorem d_Mo_tellTie_8 : decode bc_Mo_tellTie 8 = .ok (.getfield 80, 3) := by decide +kernel
theorem d_Mo_tellTie_11 : decode bc_Mo_tellTie 11 = .ok (.aload_n 0, 1) := by decide +kernel
theorem d_Mo_tellTie_12 : decode bc_Mo_tellTie 12 = .ok (.getfield 248, 3) := by decide +kernel
theorem d_Mo_tellTie_15 : decode bc_Mo_tellTie 15 = .ok (.iaload, 1) := by decide +kernel
theorem d_Mo_tellTie_16 : decode bc_Mo_tellTie 16 = .ok (.iadd, 1) := by decide +kernel
theorem d_Mo_tellTie_17 : decode bc_Mo_tellTie 17 = .ok (.istore_n 1, 1) := by decide +kernel
theorem d_Mo_tellTie_18 : decode bc_Mo_tellTie 18 = .ok (.aload_n 0, 1) := by decide +kernel
theorem d_Mo_tellTie_19 : decode bc_Mo_tellTie 19 = .ok (.getfield 83, 3) := by decide +kernel
theorem d_Mo_tellTie_22 : decode bc_Mo_tellTie 22 = .ok (.iload_n 1, 1) := by decide +kernel
theorem d_Mo_tellTie_23 : decode bc_Mo_tellTie 23 = .ok (.aload_n 0, 1) := by decide +kernel
theorem d_Mo_tellTie_24 : decode bc_Mo_tellTie 24 = .ok (.iconst 1, 1) := by decide +kernel
theorem d_Mo_tellTie_25 : decode bc_Mo_tellTie 25 = .ok (.invokevirtual 306, 3) := by decide +kernel
theorem d_Mo_tellTie_28 : decode bc_Mo_tellTie 28 = .ok (.iastore, 1) := by decide +kernel
theorem d_Mo_tellTie_29 : decode bc_Mo_tellTie 29 = .ok (.aload_n 0, 1) := by decide +kernel
theorem d_Mo_tellTie_30 : decode bc_Mo_tellTie 30 = .ok (.getfield 218, 3) := by decide +kernel
theorem d_Mo_tellTie_33 : decode bc_Mo_tellTie 33 = .ok (.istore_n 2, 1) := by decide +kernel
theorem d_Mo_tellTie_34 : decode bc_Mo_tellTie 34 = .ok (.aload_n 0, 1) := by decide +kernel
theorem d_Mo_tellTie_35 : decode bc_Mo_tellTie 35 = .ok (.getfield 86, 3) := by decide +kernel
theorem d_Mo_tellTie_38 : decode bc_Mo_tellTie 38 = .ok (.iload_n 1, 1) := by decide +kernel
theorem d_Mo_tellTie_39 : decode bc_Mo_tellTie 39 = .ok (.aload_n 0, 1) := by decide +kernel
theorem d_Mo_tellTie_40 : decode bc_Mo_tellTie 40 = .ok (.iconst 1, 1) := by decide +kernel
theorem d_Mo_tellTie_41 : decode bc_Mo_tellTie 41 = .ok (.invokevirtual 306, 3) := by decide +kernel
theorem d_Mo_tellTie_44 : decode bc_Mo_tellTie 44 = .ok (.iastore, 1) := by decide +kernel
theorem d_Mo_tellTie_45 : decode bc_Mo_tellTie 45 = .ok (.aload_n 0, 1) := by decide +kernel
theorem d_Mo_tellTie_46 : decode bc_Mo_tellTie 46 = .ok (.getfield 215, 3) := by decide +kernel
theorem d_Mo_tellTie_49 : decode bc_Mo_tellTie 49 = .ok (.ifCond .ne 33, 3) := by decide +kernel
theorem d_Mo_tellTie_52 : decode bc_Mo_tellTie 52 = .ok (.aload_n 0, 1) := by decide +kernel
theorem d_Mo_tellTie_53 : decode bc_Mo_tellTie 53 = .ok (.getfield 86, 3) := by decide +kernel
theorem d_Mo_tellTie_56 : decode bc_Mo_tellTie 56 = .ok (.iload_n 1, 1) := by decide +kernel
theorem d_Mo_tellTie_57 : decode bc_Mo_tellTie 57 = .ok (.iaload, 1) := by decide +kernel
theorem d_Mo_tellTie_58 : decode bc_Mo_tellTie 58 = .ok (.ifCond .lt 24, 3) := by decide +kernel
theorem d_Mo_tellTie_61 : decode bc_Mo_tellTie 61 = .ok (.aload_n 0, 1) := by decide +kernel
theorem d_Mo_tellTie_62 : decode bc_Mo_tellTie 62 = .ok (.getfield 86, 3) := by decide +kernel
theorem d_Mo_tellTie_65 : decode bc_Mo_tellTie 65 = .ok (.iload_n 1, 1) := by decide +kernel
theorem d_Mo_tellTie_66 : decode bc_Mo_tellTie 66 = .ok (.iaload, 1) := by decide +kernel
theorem d_Mo_tellTie_67 : decode bc_Mo_tellTie 67 = .ok (.aload_n 0, 1) := by decide +kernel
theorem d_Mo_tellTie_68 : decode bc_Mo_tellTie 68 = .ok (.getfield 83, 3) := by decide +kernel
theorem d_Mo_tellTie_71 : decode bc_Mo_tellTie 71 = .ok (.iload_n 1, 1) := by decide +kernel
theorem d_Mo_tellTie_72 : decode bc_Mo_tellTie 72 = .ok (.iaload, 1) := by decide +kernel
theorem d_Mo_tellTie_73 : decode bc_Mo_tellTie 73 = .ok (.if_icmp .ne 9, 3) := by decide +kernel
theorem d_Mo_tellTie_76 : decode bc_Mo_tellTie 76 = .ok (.aload_n 0, 1) := by decide +kernel
theorem d_Mo_tellTie_77 : decode bc_Mo_tellTie 77 = .ok (.iconst 3, 1) := by decide +kernel
theorem d_Mo_tellTie_78 : decode bc_Mo_tellTie 78 = .ok (.iload_n 2, 1) := by decide +kernel
theorem d_Mo_tellTie_79 : decode bc_Mo_tellTie 79 = .ok (.invokevirtual 295, 3) := by decide +kernel
theorem d_Mo_tellTie_82 : decode bc_Mo_tellTie 82 = .ok (.aload_n 0, 1) := by decide +kernel
theorem d_Mo_tellTie_83 : decode bc_Mo_tellTie 83 = .ok (.iconst 4, 1) := by decide +kernel
theorem d_Mo_tellTie_84 : decode bc_Mo_tellTie 84 = .ok (.invokevirtual 289, 3) := by decide +kernel
theorem d_Mo_tellTie_87 : decode bc_Mo_tellTie 87 = .ok (.aload_n 0, 1) := by decide +kernel
theorem d_Mo_tellTie_88 : decode bc_Mo_tellTie 88 = .ok (.getfield 215, 3) := by decide +kernel
theorem d_Mo_tellTie_91 : decode bc_Mo_tellTie 91 = .ok (.ifCond .ne 16, 3) := by decide +kernel
theorem d_Mo_tellTie_94 : decode bc_Mo_tellTie 94 = .ok (.aload_n 0, 1) := by decide +kernel
theorem d_Mo_tellTie_95 : decode bc_Mo_tellTie 95 = .ok (.getfield 80, 3) := by decide +kernel
theorem d_Mo_tellTie_98 : decode bc_Mo_tellTie 98 = .ok (.aload_n 0, 1) := by decide +kernel
theorem d_Mo_tellTie_99 : decode bc_Mo_tellTie 99 = .ok (.getfield 248, 3) := by decide +kernel
theorem d_Mo_tellTie_102 : decode bc_Mo_tellTie 102 = .ok (.dup2, 1) := by decide +kernel
theorem d_Mo_tellTie_103 : decode bc_Mo_tellTie 103 = .ok (.iaload, 1) := by decide +kernel
theorem d_Mo_tellTie_104 : decode bc_Mo_tellTie 104 = .ok (.iconst 1, 1) := by decide +kernel
theorem d_Mo_tellTie_105 : decode bc_Mo_tellTie 105 = .ok (.iadd, 1) := by decide +kernel
theorem d_Mo_tellTie_106 : decode bc_Mo_tellTie 106 = .ok (.iastore, 1) := by decide +kernel
theorem d_Mo_tellTie_107 : decode bc_Mo_tellTie 107 = .ok (.return_, 1) := by decide +kernel
set_option maxRecDepth 20000 in
theorem w_Mo_tellTie_b82 {X : CX} {V : WV} (hV : IsM V) {z : Mem} (hC : Ck X V bc_Mo_tellTie 3 "SecretWellsModel" none 4 85) (S : Mem) (h : f_Mo_tellTie_b82  S = some z) : G X V 3 (QV X V z) 82 [some (.ref (V.2.2.1 0 0)), none, none] [] S := by
  unfold f_Mo_tellTie_b82 at h
  refine g_aload_n (pc := 82) hC (i := 0) (x := (V.2.2.1 0 0)) rfl rfl d_Mo_tellTie_82 ?_
  refine g_iconst (pc := 83) hC kc_4 d_Mo_tellTie_83 ?_
  obtain ⟨q84, hq84, h⟩ := Option.bind_eq_some_iff.mp h
  refine g_vv (pc := 84) hC (As := [.int 4]) (st := []) mt_Mo_must lk_Mo_289 rfl (ob_Mo hV) (Nat.le_of_ble_eq_true rfl) ⟨Nat.le_of_ble_eq_true rfl, Nat.le_of_ble_eq_true rfl⟩ rfl d_Mo_tellTie_84 (c_Mo_must hV hq84) ?_
  refine g_aload_n (pc := 87) hC (i := 0) (x := (V.2.2.1 0 0)) rfl rfl d_Mo_tellTie_87 ?_
  refine g_getI (pc := 88) hC fo_Mo_215 (ob_Mo hV) rfl d_Mo_tellTie_88 ?_
  refine g_if_ne (pc := 91) hC (tgt := 107) (by decide) d_Mo_tellTie_91 h (fun h => ?_) (fun h => ?_)
  · exact g_vW (pc := 107) hC d_Mo_tellTie_107 h
  · refine g_aload_n (pc := 94) hC (i := 0) (x := (V.2.2.1 0 0)) rfl rfl d_Mo_tellTie_94 ?_
    refine g_getA (pc := 95) hC fo_Mo_80 (ob_Mo hV) rfl d_Mo_tellTie_95 ?_
    refine g_aload_n (pc := 98) hC (i := 0) (x := (V.2.2.1 0 0)) rfl rfl d_Mo_tellTie_98 ?_
    refine g_getI (pc := 99) hC fo_Mo_248 (ob_Mo hV) rfl d_Mo_tellTie_99 ?_
    refine g_dup2 (pc := 102) hC rfl rfl d_Mo_tellTie_102 ?_
    refine g_iald (pc := 103) hC (ar_Mo_34 hV) d_Mo_tellTie_103 h (fun h => ?_)
    refine g_iconst (pc := 104) hC kc_1 d_Mo_tellTie_104 ?_
    refine g_iadd (pc := 105) hC d_Mo_tellTie_105 ?_
    refine g_iast (pc := 106) hC (ar_Mo_34 hV) d_Mo_tellTie_106 h (fun h => ?_)
    refine g_letS h (fun S106 h => ?_)
    exact g_vW (pc := 107) hC d_Mo_tellTie_107 h
set_option maxRecDepth 20000 in
theorem w_Mo_tellTie_b0 {X : CX} {V : WV} (hV : IsM V) {z : Mem} (hC : Ck X V bc_Mo_tellTie 3 "SecretWellsModel" none 4 85) (S : Mem) (h : f_Mo_tellTie_b0  S = some z) : G X V 3 (QV X V z) 0 [some (.ref (V.2.2.1 0 0)), none, none] [] S := by
  unfold f_Mo_tellTie_b0 at h
  refine g_bipush (pc := 0) hC kb_12 d_Mo_tellTie_0 ?_
  refine g_aload_n (pc := 2) hC (i := 0) (x := (V.2.2.1 0 0)) rfl rfl d_Mo_tellTie_2 ?_
  refine g_getI (pc := 3) hC fo_Mo_248 (ob_Mo hV) rfl d_Mo_tellTie_3 ?_
  refine g_imul (pc := 6) hC d_Mo_tellTie_6 ?_
  refine g_aload_n (pc := 7) hC (i := 0) (x := (V.2.2.1 0 0)) rfl rfl d_Mo_tellTie_7 ?_
  refine g_getA (pc := 8) hC fo_Mo_80 (ob_Mo hV) rfl d_Mo_tellTie_8 ?_
  refine g_aload_n (pc := 11) hC (i := 0) (x := (V.2.2.1 0 0)) rfl rfl d_Mo_tellTie_11 ?_
  refine g_getI (pc := 12) hC fo_Mo_248 (ob_Mo hV) rfl d_Mo_tellTie_12 ?_
  refine g_iald (pc := 15) hC (ar_Mo_34 hV) d_Mo_tellTie_15 h (fun h => ?_)
  refine g_iadd (pc := 16) hC d_Mo_tellTie_16 ?_
  refine g_leti h (fun y17 h => ?_)
  refine s_istore_n (pc := 17) hC (i := 1) rfl (by decide) d_Mo_tellTie_17 (lv2 := [some (.ref (V.2.2.1 0 0)), some (.int y17), none]) rfl ?_
  refine g_aload_n (pc := 18) hC (i := 0) (x := (V.2.2.1 0 0)) rfl rfl d_Mo_tellTie_18 ?_
  refine g_getA (pc := 19) hC fo_Mo_83 (ob_Mo hV) rfl d_Mo_tellTie_19 ?_
  refine g_iload_n (pc := 22) hC (i := 1) (x := y17) rfl rfl d_Mo_tellTie_22 ?_
  refine g_aload_n (pc := 23) hC (i := 0) (x := (V.2.2.1 0 0)) rfl rfl d_Mo_tellTie_23 ?_
  refine g_iconst (pc := 24) hC kc_1 d_Mo_tellTie_24 ?_
  obtain ⟨q25, hq25, h⟩ := Option.bind_eq_some_iff.mp h
  refine g_vi (pc := 25) hC (As := [.int 1]) (st := [.int y17, .ref (V.2.2.1 0 (35 + 1))]) mt_Mo_known lk_Mo_306 rfl (ob_Mo hV) (Nat.le_of_ble_eq_true rfl) ⟨Nat.le_of_ble_eq_true rfl, Nat.le_of_ble_eq_true rfl⟩ rfl d_Mo_tellTie_25 (c_Mo_known hV hq25) ?_
  refine g_iast (pc := 28) hC (ar_Mo_35 hV) d_Mo_tellTie_28 h (fun h => ?_)
  refine g_letS h (fun S28 h => ?_)
  refine g_aload_n (pc := 29) hC (i := 0) (x := (V.2.2.1 0 0)) rfl rfl d_Mo_tellTie_29 ?_
  refine g_getI (pc := 30) hC fo_Mo_218 (ob_Mo hV) rfl d_Mo_tellTie_30 ?_
  refine g_leti h (fun y33 h => ?_)
  refine s_istore_n (pc := 33) hC (i := 2) rfl (by decide) d_Mo_tellTie_33 (lv2 := [some (.ref (V.2.2.1 0 0)), some (.int y17), some (.int y33)]) rfl ?_
  refine g_aload_n (pc := 34) hC (i := 0) (x := (V.2.2.1 0 0)) rfl rfl d_Mo_tellTie_34 ?_
  refine g_getA (pc := 35) hC fo_Mo_86 (ob_Mo hV) rfl d_Mo_tellTie_35 ?_
  refine g_iload_n (pc := 38) hC (i := 1) (x := y17) rfl rfl d_Mo_tellTie_38 ?_
  refine g_aload_n (pc := 39) hC (i := 0) (x := (V.2.2.1 0 0)) rfl rfl d_Mo_tellTie_39 ?_
  refine g_iconst (pc := 40) hC kc_1 d_Mo_tellTie_40 ?_
  obtain ⟨q41, hq41, h⟩ := Option.bind_eq_some_iff.mp h
  refine g_vi (pc := 41) hC (As := [.int 1]) (st := [.int y17, .ref (V.2.2.1 0 (36 + 1))]) mt_Mo_known lk_Mo_306 rfl (ob_Mo hV) (Nat.le_of_ble_eq_true rfl) ⟨Nat.le_of_ble_eq_true rfl, Nat.le_of_ble_eq_true rfl⟩ rfl d_Mo_tellTie_41 (c_Mo_known hV hq41) ?_
  refine g_iast (pc := 44) hC (ar_Mo_36 hV) d_Mo_tellTie_44 h (fun h => ?_)
  refine g_letS h (fun S44 h => ?_)
  refine g_aload_n (pc := 45) hC (i := 0) (x := (V.2.2.1 0 0)) rfl rfl d_Mo_tellTie_45 ?_
  refine g_getI (pc := 46) hC fo_Mo_215 (ob_Mo hV) rfl d_Mo_tellTie_46 ?_
  refine g_if_ne (pc := 49) hC (tgt := 82) (by decide) d_Mo_tellTie_49 h (fun h => ?_) (fun h => ?_)
  · refine g_le (lv2 := [some (.ref (V.2.2.1 0 0)), none, none]) (⟨rfl, trivial⟩) ?_
    exact w_Mo_tellTie_b82 hV hC S44 h
  · refine g_aload_n (pc := 52) hC (i := 0) (x := (V.2.2.1 0 0)) rfl rfl d_Mo_tellTie_52 ?_
    refine g_getA (pc := 53) hC fo_Mo_86 (ob_Mo hV) rfl d_Mo_tellTie_53 ?_
    refine g_iload_n (pc := 56) hC (i := 1) (x := y17) rfl rfl d_Mo_tellTie_56 ?_
    refine g_iald (pc := 57) hC (ar_Mo_36 hV) d_Mo_tellTie_57 h (fun h => ?_)
    refine g_if_lt (pc := 58) hC (tgt := 82) (by decide) d_Mo_tellTie_58 h (fun h => ?_) (fun h => ?_)
    · refine g_le (lv2 := [some (.ref (V.2.2.1 0 0)), none, none]) (⟨rfl, trivial⟩) ?_
      exact w_Mo_tellTie_b82 hV hC S44 h
    · refine g_aload_n (pc := 61) hC (i := 0) (x := (V.2.2.1 0 0)) rfl rfl d_Mo_tellTie_61 ?_
      refine g_getA (pc := 62) hC fo_Mo_86 (ob_Mo hV) rfl d_Mo_tellTie_62 ?_
      refine g_iload_n (pc := 65) hC (i := 1) (x := y17) rfl rfl d_Mo_tellTie_65 ?_
      refine g_iald (pc := 66) hC (ar_Mo_36 hV) d_Mo_tellTie_66 h (fun h => ?_)
      refine g_aload_n (pc := 67) hC (i := 0) (x := (V.2.2.1 0 0)) rfl rfl d_Mo_tellTie_67 ?_
      refine g_getA (pc := 68) hC fo_Mo_83 (ob_Mo hV) rfl d_Mo_tellTie_68 ?_
      refine g_iload_n (pc := 71) hC (i := 1) (x := y17) rfl rfl d_Mo_tellTie_71 ?_
      refine g_iald (pc := 72) hC (ar_Mo_35 hV) d_Mo_tellTie_72 h (fun h => ?_)
      refine g_icmp_ne (pc := 73) hC (tgt := 82) (by decide) d_Mo_tellTie_73 h (fun h => ?_) (fun h => ?_)
      · refine g_le (lv2 := [some (.ref (V.2.2.1 0 0)), none, none]) (⟨rfl, trivial⟩) ?_
        exact w_Mo_tellTie_b82 hV hC S44 h
      · refine g_aload_n (pc := 76) hC (i := 0) (x := (V.2.2.1 0 0)) rfl rfl d_Mo_tellTie_76 ?_
        refine g_iconst (pc := 77) hC kc_3 d_Mo_tellTie_77 ?_
        refine g_iload_n (pc := 78) hC (i := 2) (x := y33) rfl rfl d_Mo_tellTie_78 ?_
        obtain ⟨q79, hq79, h⟩ := Option.bind_eq_some_iff.mp h
        refine g_vv (pc := 79) hC (As := [.int 3, .int y33]) (st := []) mt_Mo_wrong lk_Mo_295 rfl (ob_Mo hV) (Nat.le_of_ble_eq_true rfl) ⟨Nat.le_of_ble_eq_true rfl, Nat.le_of_ble_eq_true rfl⟩ rfl d_Mo_tellTie_79 (c_Mo_wrong hV hq79) ?_
        refine g_le (lv2 := [some (.ref (V.2.2.1 0 0)), none, none]) (⟨rfl, trivial⟩) ?_
        exact w_Mo_tellTie_b82 hV hC q79 h
theorem c_Mo_tellTie {V : WV} {l : Launch} (hV : IsM V) {S : Mem} {z : Mem} (h : f_Mo_tellTie S = some z) : CV V l y_Mo_tellTie bc_Mo_tellTie 3 none 4 85 [.ref (V.2.2.1 0 0)] S z :=
  ct_v rfl (IsM.ok hV) (Nat.le_of_ble_eq_true rfl) (fun _ _ hC => w_Mo_tellTie_b0 hV hC S h)
def f_Mo_emit_b0 (x1 : Int32) (x2 : Int32) (S : Mem) : Option (Mem) :=
  gIn (S.1 0 48) 840 (letS (sA S 0 49 (S.1 0 48) x1) (fun S9 =>
  gIn (S9.1 0 48) 840 (letS (sA S9 0 50 (S9.1 0 48) x2) (fun S19 =>
  letS (pI S19 0 48 ((S19.1 0 48) + 1)) (fun S27 =>
  some S27)))))
def f_Mo_emit (x1 : Int32) (x2 : Int32) (S : Mem) : Option (Mem) := f_Mo_emit_b0  x1 x2 S
theorem d_Mo_emit_0 : decode bc_Mo_emit 0 = .ok (.aload_n 0, 1) := by decide +kernel
theorem d_Mo_emit_1 : decode bc_Mo_emit 1 = .ok (.getfield 119, 3) := by decide +kernel
theorem d_Mo_emit_4 : decode bc_Mo_emit 4 = .ok (.aload_n 0, 1) := by decide +kernel
theorem d_Mo_emit_5 : decode bc_Mo_emit 5 = .ok (.getfield 257, 3) := by decide +kernel
theorem d_Mo_emit_8 : decode bc_Mo_emit 8 = .ok (.iload_n 1, 1) := by decide +kernel
theorem d_Mo_emit_9 : decode bc_Mo_emit 9 = .ok (.iastore, 1) := by decide +kernel
theorem d_Mo_emit_10 : decode bc_Mo_emit 10 = .ok (.aload_n 0, 1) := by decide +kernel
theorem d_Mo_emit_11 : decode bc_Mo_emit 11 = .ok (.getfield 122, 3) := by decide +kernel
theorem d_Mo_emit_14 : decode bc_Mo_emit 14 = .ok (.aload_n 0, 1) := by decide +kernel
theorem d_Mo_emit_15 : decode bc_Mo_emit 15 = .ok (.getfield 257, 3) := by decide +kernel
theorem d_Mo_emit_18 : decode bc_Mo_emit 18 = .ok (.iload_n 2, 1) := by decide +kernel
theorem d_Mo_emit_19 : decode bc_Mo_emit 19 = .ok (.iastore, 1) := by decide +kernel
theorem d_Mo_emit_20 : decode bc_Mo_emit 20 = .ok (.aload_n 0, 1) := by decide +kernel
theorem d_Mo_emit_21 : decode bc_Mo_emit 21 = .ok (.dup, 1) := by decide +kernel
theorem d_Mo_emit_22 : decode bc_Mo_emit 22 = .ok (.getfield 257, 3) := by decide +kernel
theorem d_Mo_emit_25 : decode bc_Mo_emit 25 = .ok (.iconst 1, 1) := by decide +kernel
theorem d_Mo_emit_26 : decode bc_Mo_emit 26 = .ok (.iadd, 1) := by decide +kernel
theorem d_Mo_emit_27 : decode bc_Mo_emit 27 = .ok (.putfield 257, 3) := by decide +kernel
theorem d_Mo_emit_30 : decode bc_Mo_emit 30 = .ok (.return_, 1) := by decide +kernel
set_option maxRecDepth 20000 in
theorem w_Mo_emit_b0 {X : CX} {V : WV} (hV : IsM V) {z : Mem} (hC : Ck X V bc_Mo_emit 3 "SecretWellsModel" none 0 0) (x1 : Int32) (x2 : Int32) (S : Mem) (h : f_Mo_emit_b0  x1 x2 S = some z) : G X V 3 (QV X V z) 0 [some (.ref (V.2.2.1 0 0)), some (.int x1), some (.int x2)] [] S := by
  unfold f_Mo_emit_b0 at h
  refine g_aload_n (pc := 0) hC (i := 0) (x := (V.2.2.1 0 0)) rfl rfl d_Mo_emit_0 ?_
  refine g_getA (pc := 1) hC fo_Mo_119 (ob_Mo hV) rfl d_Mo_emit_1 ?_
  refine g_aload_n (pc := 4) hC (i := 0) (x := (V.2.2.1 0 0)) rfl rfl d_Mo_emit_4 ?_
  refine g_getI (pc := 5) hC fo_Mo_257 (ob_Mo hV) rfl d_Mo_emit_5 ?_
  refine g_iload_n (pc := 8) hC (i := 1) (x := x1) rfl rfl d_Mo_emit_8 ?_
  refine g_iast (pc := 9) hC (ar_Mo_49 hV) d_Mo_emit_9 h (fun h => ?_)
  refine g_letS h (fun S9 h => ?_)
  refine g_aload_n (pc := 10) hC (i := 0) (x := (V.2.2.1 0 0)) rfl rfl d_Mo_emit_10 ?_
  refine g_getA (pc := 11) hC fo_Mo_122 (ob_Mo hV) rfl d_Mo_emit_11 ?_
  refine g_aload_n (pc := 14) hC (i := 0) (x := (V.2.2.1 0 0)) rfl rfl d_Mo_emit_14 ?_
  refine g_getI (pc := 15) hC fo_Mo_257 (ob_Mo hV) rfl d_Mo_emit_15 ?_
  refine g_iload_n (pc := 18) hC (i := 2) (x := x2) rfl rfl d_Mo_emit_18 ?_
  refine g_iast (pc := 19) hC (ar_Mo_50 hV) d_Mo_emit_19 h (fun h => ?_)
  refine g_letS h (fun S19 h => ?_)
  refine g_aload_n (pc := 20) hC (i := 0) (x := (V.2.2.1 0 0)) rfl rfl d_Mo_emit_20 ?_
  refine g_dup (pc := 21) hC rfl d_Mo_emit_21 ?_
  refine g_getI (pc := 22) hC fo_Mo_257 (ob_Mo hV) rfl d_Mo_emit_22 ?_
  refine g_iconst (pc := 25) hC kc_1 d_Mo_emit_25 ?_
  refine g_iadd (pc := 26) hC d_Mo_emit_26 ?_
  refine g_putI (pc := 27) hC po_Mo_257 (ob_Mo hV) rfl rfl rfl d_Mo_emit_27 ?_
  refine g_letS h (fun S27 h => ?_)
  exact g_vW (pc := 30) hC d_Mo_emit_30 h
theorem c_Mo_emit {V : WV} {l : Launch} (hV : IsM V) {x1 : Int32} {x2 : Int32} {S : Mem} {z : Mem} (h : f_Mo_emit x1 x2 S = some z) : CV V l y_Mo_emit bc_Mo_emit 3 none 0 0 [.ref (V.2.2.1 0 0), .int x1, .int x2] S z :=
  ct_v rfl (IsM.ok hV) (Nat.le_of_ble_eq_true rfl) (fun _ _ hC => w_Mo_emit_b0 hV hC x1 x2 S h)
def f_Mo_unit_b88 (S : Mem) : Option (Mem) :=
  Option.bind (f_Mo_fail 1 S) (fun q90 =>
  some q90)
def f_Mo_unit_b0 (S : Mem) : Option (Mem) :=
  Option.bind (f_Mo_is 2 S) (fun q2 =>
  if q2 = 0 then
    if (S.1 0 13) = 0 then
      gIn (S.1 0 11) 403 (
      if (S.2.1 0 5 (S.1 0 11).toNatClampNeg) < 34 then
        f_Mo_unit_b88 S
      else
        gIn (S.1 0 11) 403 (
        if 41 < (S.2.1 0 5 (S.1 0 11).toNatClampNeg) then
          f_Mo_unit_b88 S
        else
          gIn (S.1 0 11) 403 (
          Option.bind (f_Mo_emit 1 ((S.2.1 0 5 (S.1 0 11).toNatClampNeg) - 34) S) (fun q78 =>
          Option.bind (f_Mo_goesOn q78) (fun q82 =>
          some q82)))))
    else
      f_Mo_unit_b88 S
  else
    gIn (S.1 0 11) 403 (
    Option.bind (f_Mo_emit 0 (S.2.1 0 7 (S.1 0 11).toNatClampNeg) S) (fun q19 =>
    Option.bind (f_Mo_goesOn q19) (fun q23 =>
    some q23))))
def f_Mo_unit (S : Mem) : Option (Mem) := f_Mo_unit_b0  S
theorem d_Mo_unit_0 : decode bc_Mo_unit 0 = .ok (.aload_n 0, 1) := by decide +kernel
theorem d_Mo_unit_1 : decode bc_Mo_unit 1 = .ok (.iconst 2, 1) := by decide +kernel
theorem d_Mo_unit_2 : decode bc_Mo_unit 2 = .ok (.invokevirtual 233, 3) := by decide +kernel
theorem d_Mo_unit_5 : decode bc_Mo_unit 5 = .ok (.ifCond .eq 24, 3) := by decide +kernel
theorem d_Mo_unit_8 : decode bc_Mo_unit 8 = .ok (.aload_n 0, 1) := by decide +kernel
theorem d_Mo_unit_9 : decode bc_Mo_unit 9 = .ok (.iconst 0, 1) := by decide +kernel
theorem d_Mo_unit_10 : decode bc_Mo_unit 10 = .ok (.aload_n 0, 1) := by decide +kernel
theorem d_Mo_unit_11 : decode bc_Mo_unit 11 = .ok (.getfield 27, 3) := by decide +kernel
theorem d_Mo_unit_14 : decode bc_Mo_unit 14 = .ok (.aload_n 0, 1) := by decide +kernel
theorem d_Mo_unit_15 : decode bc_Mo_unit 15 = .ok (.getfield 218, 3) := by decide +kernel
theorem d_Mo_unit_18 : decode bc_Mo_unit 18 = .ok (.iaload, 1) := by decide +kernel
theorem d_Mo_unit_19 : decode bc_Mo_unit 19 = .ok (.invokevirtual 318, 3) := by decide +kernel
theorem d_Mo_unit_22 : decode bc_Mo_unit 22 = .ok (.aload_n 0, 1) := by decide +kernel
theorem d_Mo_unit_23 : decode bc_Mo_unit 23 = .ok (.invokevirtual 236, 3) := by decide +kernel
theorem d_Mo_unit_26 : decode bc_Mo_unit 26 = .ok (.goto 67, 3) := by decide +kernel
theorem d_Mo_unit_29 : decode bc_Mo_unit 29 = .ok (.aload_n 0, 1) := by decide +kernel
theorem d_Mo_unit_30 : decode bc_Mo_unit 30 = .ok (.getfield 215, 3) := by decide +kernel
theorem d_Mo_unit_33 : decode bc_Mo_unit 33 = .ok (.ifCond .ne 55, 3) := by decide +kernel
theorem d_Mo_unit_36 : decode bc_Mo_unit 36 = .ok (.aload_n 0, 1) := by decide +kernel
theorem d_Mo_unit_37 : decode bc_Mo_unit 37 = .ok (.getfield 20, 3) := by decide +kernel
theorem d_Mo_unit_40 : decode bc_Mo_unit 40 = .ok (.aload_n 0, 1) := by decide +kernel
theorem d_Mo_unit_41 : decode bc_Mo_unit 41 = .ok (.getfield 218, 3) := by decide +kernel
theorem d_Mo_unit_44 : decode bc_Mo_unit 44 = .ok (.iaload, 1) := by decide +kernel
theorem d_Mo_unit_45 : decode bc_Mo_unit 45 = .ok (.bipush 34, 2) := by decide +kernel
theorem d_Mo_unit_47 : decode bc_Mo_unit 47 = .ok (.if_icmp .lt 41, 3) := by decide +kernel
theorem d_Mo_unit_50 : decode bc_Mo_unit 50 = .ok (.aload_n 0, 1) := by decide +kernel
theorem d_Mo_unit_51 : decode bc_Mo_unit 51 = .ok (.getfield 20, 3) := by decide +kernel
theorem d_Mo_unit_54 : decode bc_Mo_unit 54 = .ok (.aload_n 0, 1) := by decide +kernel
theorem d_Mo_unit_55 : decode bc_Mo_unit 55 = .ok (.getfield 218, 3) := by decide +kernel
theorem d_Mo_unit_58 : decode bc_Mo_unit 58 = .ok (.iaload, 1) := by decide +kernel
theorem d_Mo_unit_59 : decode bc_Mo_unit 59 = .ok (.bipush 41, 2) := by decide +kernel
theorem d_Mo_unit_61 : decode bc_Mo_unit 61 = .ok (.if_icmp .gt 27, 3) := by decide +kernel
theorem d_Mo_unit_64 : decode bc_Mo_unit 64 = .ok (.aload_n 0, 1) := by decide +kernel
theorem d_Mo_unit_65 : decode bc_Mo_unit 65 = .ok (.iconst 1, 1) := by decide +kernel
theorem d_Mo_unit_66 : decode bc_Mo_unit 66 = .ok (.aload_n 0, 1) := by decide +kernel
theorem d_Mo_unit_67 : decode bc_Mo_unit 67 = .ok (.getfield 20, 3) := by decide +kernel
theorem d_Mo_unit_70 : decode bc_Mo_unit 70 = .ok (.aload_n 0, 1) := by decide +kernel
theorem d_Mo_unit_71 : decode bc_Mo_unit 71 = .ok (.getfield 218, 3) := by decide +kernel
theorem d_Mo_unit_74 : decode bc_Mo_unit 74 = .ok (.iaload, 1) := by decide +kernel
theorem d_Mo_unit_75 : decode bc_Mo_unit 75 = .ok (.bipush 34, 2) := by decide +kernel
theorem d_Mo_unit_77 : decode bc_Mo_unit 77 = .ok (.isub, 1) := by decide +kernel
theorem d_Mo_unit_78 : decode bc_Mo_unit 78 = .ok (.invokevirtual 318, 3) := by decide +kernel
theorem d_Mo_unit_81 : decode bc_Mo_unit 81 = .ok (.aload_n 0, 1) := by decide +kernel
theorem d_Mo_unit_82 : decode bc_Mo_unit 82 = .ok (.invokevirtual 236, 3) := by decide +kernel
theorem d_Mo_unit_85 : decode bc_Mo_unit 85 = .ok (.goto 8, 3) := by decide +kernel
theorem d_Mo_unit_88 : decode bc_Mo_unit 88 = .ok (.aload_n 0, 1) := by decide +kernel
theorem d_Mo_unit_89 : decode bc_Mo_unit 89 = .ok (.iconst 1, 1) := by decide +kernel
theorem d_Mo_unit_90 : decode bc_Mo_unit 90 = .ok (.invokevirtual 230, 3) := by decide +kernel
theorem d_Mo_unit_93 : decode bc_Mo_unit 93 = .ok (.return_, 1) := by decide +kernel
set_option maxRecDepth 20000 in
theorem w_Mo_unit_b88 {X : CX} {V : WV} (hV : IsM V) {z : Mem} (hC : Ck X V bc_Mo_unit 1 "SecretWellsModel" none 2 41) (S : Mem) (h : f_Mo_unit_b88  S = some z) : G X V 1 (QV X V z) 88 [some (.ref (V.2.2.1 0 0))] [] S := by
  unfold f_Mo_unit_b88 at h
  refine g_aload_n (pc := 88) hC (i := 0) (x := (V.2.2.1 0 0)) rfl rfl d_Mo_unit_88 ?_
  refine g_iconst (pc := 89) hC kc_1 d_Mo_unit_89 ?_
  obtain ⟨q90, hq90, h⟩ := Option.bind_eq_some_iff.mp h
  refine g_vv (pc := 90) hC (As := [.int 1]) (st := []) mt_Mo_fail lk_Mo_230 rfl (ob_Mo hV) (Nat.le_of_ble_eq_true rfl) ⟨Nat.le_of_ble_eq_true rfl, Nat.le_of_ble_eq_true rfl⟩ rfl d_Mo_unit_90 (c_Mo_fail hV hq90) ?_
  exact g_vW (pc := 93) hC d_Mo_unit_93 h
set_option maxRecDepth 20000 in
theorem w_Mo_unit_b0 {X : CX} {V : WV} (hV : IsM V) {z : Mem} (hC : Ck X V bc_Mo_unit 1 "SecretWellsModel" none 2 41) (S : Mem) (h : f_Mo_unit_b0  S = some z) : G X V 1 (QV X V z) 0 [some (.ref (V.2.2.1 0 0))] [] S := by
  unfold f_Mo_unit_b0 at h
  refine g_aload_n (pc := 0) hC (i := 0) (x := (V.2.2.1 0 0)) rfl rfl d_Mo_unit_0 ?_
  refine g_iconst (pc := 1) hC kc_2 d_Mo_unit_1 ?_
  obtain ⟨q2, hq2, h⟩ := Option.bind_eq_some_iff.mp h
  refine g_vi (pc := 2) hC (As := [.int 2]) (st := []) mt_Mo_is lk_Mo_233 rfl (ob_Mo hV) (Nat.le_of_ble_eq_true rfl) ⟨Nat.le_of_ble_eq_true rfl, Nat.le_of_ble_eq_true rfl⟩ rfl d_Mo_unit_2 (c_Mo_is hV hq2) ?_
  refine g_if_eq (pc := 5) hC (tgt := 29) (by decide) d_Mo_unit_5 h (fun h => ?_) (fun h => ?_)
  · refine g_aload_n (pc := 29) hC (i := 0) (x := (V.2.2.1 0 0)) rfl rfl d_Mo_unit_29 ?_
    refine g_getI (pc := 30) hC fo_Mo_215 (ob_Mo hV) rfl d_Mo_unit_30 ?_
    refine g_if_ne (pc := 33) hC (tgt := 88) (by decide) d_Mo_unit_33 h (fun h => ?_) (fun h => ?_)
    · exact w_Mo_unit_b88 hV hC S h
    · refine g_aload_n (pc := 36) hC (i := 0) (x := (V.2.2.1 0 0)) rfl rfl d_Mo_unit_36 ?_
      refine g_getA (pc := 37) hC fo_Mo_20 (ob_Mo hV) rfl d_Mo_unit_37 ?_
      refine g_aload_n (pc := 40) hC (i := 0) (x := (V.2.2.1 0 0)) rfl rfl d_Mo_unit_40 ?_
      refine g_getI (pc := 41) hC fo_Mo_218 (ob_Mo hV) rfl d_Mo_unit_41 ?_
      refine g_iald (pc := 44) hC (ar_Mo_5 hV) d_Mo_unit_44 h (fun h => ?_)
      refine g_bipush (pc := 45) hC kb_34 d_Mo_unit_45 ?_
      refine g_icmp_lt (pc := 47) hC (tgt := 88) (by decide) d_Mo_unit_47 h (fun h => ?_) (fun h => ?_)
      · exact w_Mo_unit_b88 hV hC S h
      · refine g_aload_n (pc := 50) hC (i := 0) (x := (V.2.2.1 0 0)) rfl rfl d_Mo_unit_50 ?_
        refine g_getA (pc := 51) hC fo_Mo_20 (ob_Mo hV) rfl d_Mo_unit_51 ?_
        refine g_aload_n (pc := 54) hC (i := 0) (x := (V.2.2.1 0 0)) rfl rfl d_Mo_unit_54 ?_
        refine g_getI (pc := 55) hC fo_Mo_218 (ob_Mo hV) rfl d_Mo_unit_55 ?_
        refine g_iald (pc := 58) hC (ar_Mo_5 hV) d_Mo_unit_58 h (fun h => ?_)
        refine g_bipush (pc := 59) hC kb_41 d_Mo_unit_59 ?_
        refine g_icmp_gt (pc := 61) hC (tgt := 88) (by decide) d_Mo_unit_61 h (fun h => ?_) (fun h => ?_)
        · exact w_Mo_unit_b88 hV hC S h
        · refine g_aload_n (pc := 64) hC (i := 0) (x := (V.2.2.1 0 0)) rfl rfl d_Mo_unit_64 ?_
          refine g_iconst (pc := 65) hC kc_1 d_Mo_unit_65 ?_
          refine g_aload_n (pc := 66) hC (i := 0) (x := (V.2.2.1 0 0)) rfl rfl d_Mo_unit_66 ?_
          refine g_getA (pc := 67) hC fo_Mo_20 (ob_Mo hV) rfl d_Mo_unit_67 ?_
          refine g_aload_n (pc := 70) hC (i := 0) (x := (V.2.2.1 0 0)) rfl rfl d_Mo_unit_70 ?_
          refine g_getI (pc := 71) hC fo_Mo_218 (ob_Mo hV) rfl d_Mo_unit_71 ?_
          refine g_iald (pc := 74) hC (ar_Mo_5 hV) d_Mo_unit_74 h (fun h => ?_)
          refine g_bipush (pc := 75) hC kb_34 d_Mo_unit_75 ?_
          refine g_isub (pc := 77) hC d_Mo_unit_77 ?_
          obtain ⟨q78, hq78, h⟩ := Option.bind_eq_some_iff.mp h
          refine g_vv (pc := 78) hC (As := [.int 1, .int ((S.2.1 0 5 (S.1 0 11).toNatClampNeg) - 34)]) (st := []) mt_Mo_emit lk_Mo_318 rfl (ob_Mo hV) (Nat.le_of_ble_eq_true rfl) ⟨Nat.le_of_ble_eq_true rfl, Nat.le_of_ble_eq_true rfl⟩ rfl d_Mo_unit_78 (c_Mo_emit hV hq78) ?_
          refine g_aload_n (pc := 81) hC (i := 0) (x := (V.2.2.1 0 0)) rfl rfl d_Mo_unit_81 ?_
          obtain ⟨q82, hq82, h⟩ := Option.bind_eq_some_iff.mp h
          refine g_vv (pc := 82) hC (As := []) (st := []) mt_Mo_goesOn lk_Mo_236 rfl (ob_Mo hV) (Nat.le_of_ble_eq_true rfl) ⟨Nat.le_of_ble_eq_true rfl, Nat.le_of_ble_eq_true rfl⟩ rfl d_Mo_unit_82 (c_Mo_goesOn hV hq82) ?_
          refine g_goto (pc := 85) hC (tgt := 93) (by decide) d_Mo_unit_85 ?_
          exact g_vW (pc := 93) hC d_Mo_unit_93 h
  · refine g_aload_n (pc := 8) hC (i := 0) (x := (V.2.2.1 0 0)) rfl rfl d_Mo_unit_8 ?_
    refine g_iconst (pc := 9) hC kc_0 d_Mo_unit_9 ?_
    refine g_aload_n (pc := 10) hC (i := 0) (x := (V.2.2.1 0 0)) rfl rfl d_Mo_unit_10 ?_
    refine g_getA (pc := 11) hC fo_Mo_27 (ob_Mo hV) rfl d_Mo_unit_11 ?_
    refine g_aload_n (pc := 14) hC (i := 0) (x := (V.2.2.1 0 0)) rfl rfl d_Mo_unit_14 ?_
    refine g_getI (pc := 15) hC fo_Mo_218 (ob_Mo hV) rfl d_Mo_unit_15 ?_
    refine g_iald (pc := 18) hC (ar_Mo_7 hV) d_Mo_unit_18 h (fun h => ?_)
    obtain ⟨q19, hq19, h⟩ := Option.bind_eq_some_iff.mp h
    refine g_vv (pc := 19) hC (As := [.int 0, .int (S.2.1 0 7 (S.1 0 11).toNatClampNeg)]) (st := []) mt_Mo_emit lk_Mo_318 rfl (ob_Mo hV) (Nat.le_of_ble_eq_true rfl) ⟨Nat.le_of_ble_eq_true rfl, Nat.le_of_ble_eq_true rfl⟩ rfl d_Mo_unit_19 (c_Mo_emit hV hq19) ?_
    refine g_aload_n (pc := 22) hC (i := 0) (x := (V.2.2.1 0 0)) rfl rfl d_Mo_unit_22 ?_
    obtain ⟨q23, hq23, h⟩ := Option.bind_eq_some_iff.mp h
    refine g_vv (pc := 23) hC (As := []) (st := []) mt_Mo_goesOn lk_Mo_236 rfl (ob_Mo hV) (Nat.le_of_ble_eq_true rfl) ⟨Nat.le_of_ble_eq_true rfl, Nat.le_of_ble_eq_true rfl⟩ rfl d_Mo_unit_23 (c_Mo_goesOn hV hq23) ?_
    refine g_goto (pc := 26) hC (tgt := 93) (by decide) d_Mo_unit_26 ?_
    exact g_vW (pc := 93) hC d_Mo_unit_93 h
theorem c_Mo_unit {V : WV} {l : Launch} (hV : IsM V) {S : Mem} {z : Mem} (h : f_Mo_unit S = some z) : CV V l y_Mo_unit bc_Mo_unit 1 none 2 41 [.ref (V.2.2.1 0 0)] S z :=
  ct_v rfl (IsM.ok hV) (Nat.le_of_ble_eq_true rfl) (fun _ _ hC => w_Mo_unit_b0 hV hC S h)
def f_Mo_comesOut_b84 (k0 : Int32 → Mem → Option (Mem)) (x1 : Int32) (s0 : Int32) (S : Mem) : Option (Mem) :=
  Option.bind (f_Mo_emit s0 0 S) (fun q85 =>
  k0 x1 q85)
def f_Mo_comesOut_b42 (k0 : Int32 → Mem → Option (Mem)) (x1 : Int32) (x2 : Int32) (S : Mem) : Option (Mem) :=
  letS (pI S 0 52 ((S.1 0 52) - 1)) (fun S49 =>
  if x2 = 8 then
    f_Mo_comesOut_b84 k0 x1 2 S49
  else
    if x2 = 9 then
      f_Mo_comesOut_b84 k0 x1 3 S49
    else
      if x2 = 10 then
        f_Mo_comesOut_b84 k0 x1 4 S49
      else
        f_Mo_comesOut_b84 k0 x1 5 S49)
def f_Mo_comesOut_b0 (k0 : Int32 → Mem → Option (Mem)) (x1 : Int32) (S : Mem) : Option (Mem) :=
  if (S.1 0 52) ≤ 0 then
    some S
  else
    gIn ((S.1 0 52) - 1) 64 (
    letS (S.2.1 0 51 ((S.1 0 52) - 1).toNatClampNeg) (fun y18 =>
    if y18 = 6 then
      some S
    else
      if x1 = 0 then
        f_Mo_comesOut_b42 k0 x1 y18 S
      else
        if y18 = 8 then
          some S
        else
          if y18 = 9 then
            some S
          else
            f_Mo_comesOut_b42 k0 x1 y18 S))
def f_Mo_comesOut_l0 : Nat → Int32 → Mem → Option (Mem)
  | 0 => fun _ _ => none
  | n + 1 => f_Mo_comesOut_b0  (f_Mo_comesOut_l0  n)
def f_Mo_comesOut (x1 : Int32) (S : Mem) : Option (Mem) := f_Mo_comesOut_l0  5000 x1 S
theorem d_Mo_comesOut_0 : decode bc_Mo_comesOut 0 = .ok (.aload_n 0, 1) := by decide +kernel
theorem d_Mo_comesOut_1 : decode bc_Mo_comesOut 1 = .ok (.getfield 315, 3) := by decide +kernel
theorem d_Mo_comesOut_4 : decode bc_Mo_comesOut 4 = .ok (.ifCond .le 87, 3) := by decide +kernel
theorem d_Mo_comesOut_7 : decode bc_Mo_comesOut 7 = .ok (.aload_n 0, 1) := by decide +kernel
theorem d_Mo_comesOut_8 : decode bc_Mo_comesOut 8 = .ok (.getfield 125, 3) := by decide +kernel
theorem d_Mo_comesOut_11 : decode bc_Mo_comesOut 11 = .ok (.aload_n 0, 1) := by decide +kernel
theorem d_Mo_comesOut_12 : decode bc_Mo_comesOut 12 = .ok (.getfield 315, 3) := by decide +kernel
theorem d_Mo_comesOut_15 : decode bc_Mo_comesOut 15 = .ok (.iconst 1, 1) := by decide +kernel
theorem d_Mo_comesOut_16 : decode bc_Mo_comesOut 16 = .ok (.isub, 1) := by decide +kernel
theorem d_Mo_comesOut_17 : decode bc_Mo_comesOut 17 = .ok (.iaload, 1) := by decide +kernel
theorem d_Mo_comesOut_18 : decode bc_Mo_comesOut 18 = .ok (.istore_n 2, 1) := by decide +kernel
theorem d_Mo_comesOut_19 : decode bc_Mo_comesOut 19 = .ok (.iload_n 2, 1) := by decide +kernel
theorem d_Mo_comesOut_20 : decode bc_Mo_comesOut 20 = .ok (.bipush 6, 2) := by decide +kernel
theorem d_Mo_comesOut_22 : decode bc_Mo_comesOut 22 = .ok (.if_icmp .eq 19, 3) := by decide +kernel
theorem d_Mo_comesOut_25 : decode bc_Mo_comesOut 25 = .ok (.iload_n 1, 1) := by decide +kernel
theorem d_Mo_comesOut_26 : decode bc_Mo_comesOut 26 = .ok (.ifCond .eq 16, 3) := by decide +kernel
theorem d_Mo_comesOut_29 : decode bc_Mo_comesOut 29 = .ok (.iload_n 2, 1) := by decide +kernel
theorem d_Mo_comesOut_30 : decode bc_Mo_comesOut 30 = .ok (.bipush 8, 2) := by decide +kernel
theorem d_Mo_comesOut_32 : decode bc_Mo_comesOut 32 = .ok (.if_icmp .eq 9, 3) := by decide +kernel
theorem d_Mo_comesOut_35 : decode bc_Mo_comesOut 35 = .ok (.iload_n 2, 1) := by decide +kernel
theorem d_Mo_comesOut_36 : decode bc_Mo_comesOut 36 = .ok (.bipush 9, 2) := by decide +kernel
theorem d_Mo_comesOut_38 : decode bc_Mo_comesOut 38 = .ok (.if_icmp .ne 4, 3) := by decide +kernel
theorem d_Mo_comesOut_41 : decode bc_Mo_comesOut 41 = .ok (.return_, 1) := by decide +kernel
theorem d_Mo_comesOut_42 : decode bc_Mo_comesOut 42 = .ok (.aload_n 0, 1) := by decide +kernel
theorem d_Mo_comesOut_43 : decode bc_Mo_comesOut 43 = .ok (.dup, 1) := by decide +kernel
theorem d_Mo_comesOut_44 : decode bc_Mo_comesOut 44 = .ok (.getfield 315, 3) := by decide +kernel
theorem d_Mo_comesOut_47 : decode bc_Mo_comesOut 47 = .ok (.iconst 1, 1) := by decide +kernel
theorem d_Mo_comesOut_48 : decode bc_Mo_comesOut 48 = .ok (.isub, 1) := by decide +kernel
theorem d_Mo_comesOut_49 : decode bc_Mo_comesOut 49 = .ok (.putfield 315, 3) := by decide +kernel
theorem d_Mo_comesOut_52 : decode bc_Mo_comesOut 52 = .ok (.aload_n 0, 1) := by decide +kernel
theorem d_Mo_comesOut_53 : decode bc_Mo_comesOut 53 = .ok (.iload_n 2, 1) := by decide +kernel
theorem d_Mo_comesOut_54 : decode bc_Mo_comesOut 54 = .ok (.bipush 8, 2) := by decide +kernel
theorem d_Mo_comesOut_56 : decode bc_Mo_comesOut 56 = .ok (.if_icmp .ne 7, 3) := by decide +kernel
theorem d_Mo_comesOut_59 : decode bc_Mo_comesOut 59 = .ok (.iconst 2, 1) := by decide +kernel
theorem d_Mo_comesOut_60 : decode bc_Mo_comesOut 60 = .ok (.goto 24, 3) := by decide +kernel
theorem d_Mo_comesOut_63 : decode bc_Mo_comesOut 63 = .ok (.iload_n 2, 1) := by decide +kernel
theorem d_Mo_comesOut_64 : decode bc_Mo_comesOut 64 = .ok (.bipush 9, 2) := by decide +kernel
theorem d_Mo_comesOut_66 : decode bc_Mo_comesOut 66 = .ok (.if_icmp .ne 7, 3) := by decide +kernel
theorem d_Mo_comesOut_69 : decode bc_Mo_comesOut 69 = .ok (.iconst 3, 1) := by decide +kernel
theorem d_Mo_comesOut_70 : decode bc_Mo_comesOut 70 = .ok (.goto 14, 3) := by decide +kernel
theorem d_Mo_comesOut_73 : decode bc_Mo_comesOut 73 = .ok (.iload_n 2, 1) := by decide +kernel
theorem d_Mo_comesOut_74 : decode bc_Mo_comesOut 74 = .ok (.bipush 10, 2) := by decide +kernel
theorem d_Mo_comesOut_76 : decode bc_Mo_comesOut 76 = .ok (.if_icmp .ne 7, 3) := by decide +kernel
theorem d_Mo_comesOut_79 : decode bc_Mo_comesOut 79 = .ok (.iconst 4, 1) := by decide +kernel
theorem d_Mo_comesOut_80 : decode bc_Mo_comesOut 80 = .ok (.goto 4, 3) := by decide +kernel
theorem d_Mo_comesOut_83 : decode bc_Mo_comesOut 83 = .ok (.iconst 5, 1) := by decide +kernel
theorem d_Mo_comesOut_84 : decode bc_Mo_comesOut 84 = .ok (.iconst 0, 1) := by decide +kernel
theorem d_Mo_comesOut_85 : decode bc_Mo_comesOut 85 = .ok (.invokevirtual 318, 3) := by decide +kernel
theorem d_Mo_comesOut_88 : decode bc_Mo_comesOut 88 = .ok (.goto (-88), 3) := by decide +kernel
theorem d_Mo_comesOut_91 : decode bc_Mo_comesOut 91 = .ok (.return_, 1) := by decide +kernel
set_option maxRecDepth 20000 in
theorem w_Mo_comesOut_b84 {X : CX} {V : WV} (hV : IsM V) {z : Mem} (hC : Ck X V bc_Mo_comesOut 3 "SecretWellsModel" none 1 22) (k0 : Int32 → Mem → Option (Mem)) (hk0 : ∀ (x1 : Int32) (S : Mem), k0 x1 S = some z → G X V 3 (QV X V z) 0 [some (.ref (V.2.2.1 0 0)), some (.int x1), none] [] S) (x1 : Int32) (s0 : Int32) (S : Mem) (h : f_Mo_comesOut_b84  k0 x1 s0 S = some z) : G X V 3 (QV X V z) 84 [some (.ref (V.2.2.1 0 0)), some (.int x1), none] [.int s0, .ref (V.2.2.1 0 0)] S := by
  unfold f_Mo_comesOut_b84 at h
  refine g_iconst (pc := 84) hC kc_0 d_Mo_comesOut_84 ?_
  obtain ⟨q85, hq85, h⟩ := Option.bind_eq_some_iff.mp h
  refine g_vv (pc := 85) hC (As := [.int s0, .int 0]) (st := []) mt_Mo_emit lk_Mo_318 rfl (ob_Mo hV) (Nat.le_of_ble_eq_true rfl) ⟨Nat.le_of_ble_eq_true rfl, Nat.le_of_ble_eq_true rfl⟩ rfl d_Mo_comesOut_85 (c_Mo_emit hV hq85) ?_
  refine g_goto (pc := 88) hC (tgt := 0) (by decide) d_Mo_comesOut_88 ?_
  exact hk0 x1 q85 h
set_option maxRecDepth 20000 in
theorem w_Mo_comesOut_b42 {X : CX} {V : WV} (hV : IsM V) {z : Mem} (hC : Ck X V bc_Mo_comesOut 3 "SecretWellsModel" none 1 22) (k0 : Int32 → Mem → Option (Mem)) (hk0 : ∀ (x1 : Int32) (S : Mem), k0 x1 S = some z → G X V 3 (QV X V z) 0 [some (.ref (V.2.2.1 0 0)), some (.int x1), none] [] S) (x1 : Int32) (x2 : Int32) (S : Mem) (h : f_Mo_comesOut_b42  k0 x1 x2 S = some z) : G X V 3 (QV X V z) 42 [some (.ref (V.2.2.1 0 0)), some (.int x1), some (.int x2)] [] S := by
  unfold f_Mo_comesOut_b42 at h
  refine g_aload_n (pc := 42) hC (i := 0) (x := (V.2.2.1 0 0)) rfl rfl d_Mo_comesOut_42 ?_
  refine g_dup (pc := 43) hC rfl d_Mo_comesOut_43 ?_
  refine g_getI (pc := 44) hC fo_Mo_315 (ob_Mo hV) rfl d_Mo_comesOut_44 ?_
  refine g_iconst (pc := 47) hC kc_1 d_Mo_comesOut_47 ?_
  refine g_isub (pc := 48) hC d_Mo_comesOut_48 ?_
  refine g_putI (pc := 49) hC po_Mo_315 (ob_Mo hV) rfl rfl rfl d_Mo_comesOut_49 ?_
  refine g_letS h (fun S49 h => ?_)
  refine g_aload_n (pc := 52) hC (i := 0) (x := (V.2.2.1 0 0)) rfl rfl d_Mo_comesOut_52 ?_
  refine g_iload_n (pc := 53) hC (i := 2) (x := x2) rfl rfl d_Mo_comesOut_53 ?_
  refine g_bipush (pc := 54) hC kb_8 d_Mo_comesOut_54 ?_
  refine g_icmp_ne (pc := 56) hC (tgt := 63) (by decide) d_Mo_comesOut_56 h (fun h => ?_) (fun h => ?_)
  · refine g_iload_n (pc := 63) hC (i := 2) (x := x2) rfl rfl d_Mo_comesOut_63 ?_
    refine g_bipush (pc := 64) hC kb_9 d_Mo_comesOut_64 ?_
    refine g_icmp_ne (pc := 66) hC (tgt := 73) (by decide) d_Mo_comesOut_66 h (fun h => ?_) (fun h => ?_)
    · refine g_iload_n (pc := 73) hC (i := 2) (x := x2) rfl rfl d_Mo_comesOut_73 ?_
      refine g_bipush (pc := 74) hC kb_10 d_Mo_comesOut_74 ?_
      refine g_icmp_ne (pc := 76) hC (tgt := 83) (by decide) d_Mo_comesOut_76 h (fun h => ?_) (fun h => ?_)
      · refine g_iconst (pc := 83) hC kc_5 d_Mo_comesOut_83 ?_
        refine g_le (lv2 := [some (.ref (V.2.2.1 0 0)), some (.int x1), none]) (⟨rfl, ⟨rfl, trivial⟩⟩) ?_
        exact w_Mo_comesOut_b84 hV hC k0 hk0 x1 5 S49 h
      · refine g_iconst (pc := 79) hC kc_4 d_Mo_comesOut_79 ?_
        refine g_goto (pc := 80) hC (tgt := 84) (by decide) d_Mo_comesOut_80 ?_
        refine g_le (lv2 := [some (.ref (V.2.2.1 0 0)), some (.int x1), none]) (⟨rfl, ⟨rfl, trivial⟩⟩) ?_
        exact w_Mo_comesOut_b84 hV hC k0 hk0 x1 4 S49 h
    · refine g_iconst (pc := 69) hC kc_3 d_Mo_comesOut_69 ?_
      refine g_goto (pc := 70) hC (tgt := 84) (by decide) d_Mo_comesOut_70 ?_
      refine g_le (lv2 := [some (.ref (V.2.2.1 0 0)), some (.int x1), none]) (⟨rfl, ⟨rfl, trivial⟩⟩) ?_
      exact w_Mo_comesOut_b84 hV hC k0 hk0 x1 3 S49 h
  · refine g_iconst (pc := 59) hC kc_2 d_Mo_comesOut_59 ?_
    refine g_goto (pc := 60) hC (tgt := 84) (by decide) d_Mo_comesOut_60 ?_
    refine g_le (lv2 := [some (.ref (V.2.2.1 0 0)), some (.int x1), none]) (⟨rfl, ⟨rfl, trivial⟩⟩) ?_
    exact w_Mo_comesOut_b84 hV hC k0 hk0 x1 2 S49 h
set_option maxRecDepth 20000 in
theorem w_Mo_comesOut_b0 {X : CX} {V : WV} (hV : IsM V) {z : Mem} (hC : Ck X V bc_Mo_comesOut 3 "SecretWellsModel" none 1 22) (k0 : Int32 → Mem → Option (Mem)) (hk0 : ∀ (x1 : Int32) (S : Mem), k0 x1 S = some z → G X V 3 (QV X V z) 0 [some (.ref (V.2.2.1 0 0)), some (.int x1), none] [] S) (x1 : Int32) (S : Mem) (h : f_Mo_comesOut_b0  k0 x1 S = some z) : G X V 3 (QV X V z) 0 [some (.ref (V.2.2.1 0 0)), some (.int x1), none] [] S := by
  unfold f_Mo_comesOut_b0 at h
  refine g_aload_n (pc := 0) hC (i := 0) (x := (V.2.2.1 0 0)) rfl rfl d_Mo_comesOut_0 ?_
  refine g_getI (pc := 1) hC fo_Mo_315 (ob_Mo hV) rfl d_Mo_comesOut_1 ?_
  refine g_if_le (pc := 4) hC (tgt := 91) (by decide) d_Mo_comesOut_4 h (fun h => ?_) (fun h => ?_)
  · exact g_vW (pc := 91) hC d_Mo_comesOut_91 h
  · refine g_aload_n (pc := 7) hC (i := 0) (x := (V.2.2.1 0 0)) rfl rfl d_Mo_comesOut_7 ?_
    refine g_getA (pc := 8) hC fo_Mo_125 (ob_Mo hV) rfl d_Mo_comesOut_8 ?_
    refine g_aload_n (pc := 11) hC (i := 0) (x := (V.2.2.1 0 0)) rfl rfl d_Mo_comesOut_11 ?_
    refine g_getI (pc := 12) hC fo_Mo_315 (ob_Mo hV) rfl d_Mo_comesOut_12 ?_
    refine g_iconst (pc := 15) hC kc_1 d_Mo_comesOut_15 ?_
    refine g_isub (pc := 16) hC d_Mo_comesOut_16 ?_
    refine g_iald (pc := 17) hC (ar_Mo_51 hV) d_Mo_comesOut_17 h (fun h => ?_)
    refine g_leti h (fun y18 h => ?_)
    refine s_istore_n (pc := 18) hC (i := 2) rfl (by decide) d_Mo_comesOut_18 (lv2 := [some (.ref (V.2.2.1 0 0)), some (.int x1), some (.int y18)]) rfl ?_
    refine g_iload_n (pc := 19) hC (i := 2) (x := y18) rfl rfl d_Mo_comesOut_19 ?_
    refine g_bipush (pc := 20) hC kb_6 d_Mo_comesOut_20 ?_
    refine g_icmp_eq (pc := 22) hC (tgt := 41) (by decide) d_Mo_comesOut_22 h (fun h => ?_) (fun h => ?_)
    · exact g_vW (pc := 41) hC d_Mo_comesOut_41 h
    · refine g_iload_n (pc := 25) hC (i := 1) (x := x1) rfl rfl d_Mo_comesOut_25 ?_
      refine g_if_eq (pc := 26) hC (tgt := 42) (by decide) d_Mo_comesOut_26 h (fun h => ?_) (fun h => ?_)
      · exact w_Mo_comesOut_b42 hV hC k0 hk0 x1 y18 S h
      · refine g_iload_n (pc := 29) hC (i := 2) (x := y18) rfl rfl d_Mo_comesOut_29 ?_
        refine g_bipush (pc := 30) hC kb_8 d_Mo_comesOut_30 ?_
        refine g_icmp_eq (pc := 32) hC (tgt := 41) (by decide) d_Mo_comesOut_32 h (fun h => ?_) (fun h => ?_)
        · exact g_vW (pc := 41) hC d_Mo_comesOut_41 h
        · refine g_iload_n (pc := 35) hC (i := 2) (x := y18) rfl rfl d_Mo_comesOut_35 ?_
          refine g_bipush (pc := 36) hC kb_9 d_Mo_comesOut_36 ?_
          refine g_icmp_ne (pc := 38) hC (tgt := 42) (by decide) d_Mo_comesOut_38 h (fun h => ?_) (fun h => ?_)
          · exact w_Mo_comesOut_b42 hV hC k0 hk0 x1 y18 S h
          · exact g_vW (pc := 41) hC d_Mo_comesOut_41 h
theorem w_Mo_comesOut_l0 {X : CX} {V : WV} (hV : IsM V) {z : Mem} (hC : Ck X V bc_Mo_comesOut 3 "SecretWellsModel" none 1 22) : ∀ (n : Nat) (x1 : Int32) (S : Mem), f_Mo_comesOut_l0  n x1 S = some z → G X V 3 (QV X V z) 0 [some (.ref (V.2.2.1 0 0)), some (.int x1), none] [] S := by
  intro n
  induction n with
  | zero =>
    intro x1 S h
    have h : (none : Option (Mem)) = some z := h
    cases h
  | succ n ih =>
    intro x1 S h
    exact w_Mo_comesOut_b0 hV hC (f_Mo_comesOut_l0  n) ih x1 S h
theorem c_Mo_comesOut {V : WV} {l : Launch} (hV : IsM V) {x1 : Int32} {S : Mem} {z : Mem} (h : f_Mo_comesOut x1 S = some z) : CV V l y_Mo_comesOut bc_Mo_comesOut 3 none 1 22 [.ref (V.2.2.1 0 0), .int x1] S z :=
  ct_v rfl (IsM.ok hV) (Nat.le_of_ble_eq_true rfl) (fun _ _ hC => w_Mo_comesOut_l0 hV hC 5000 x1 S h)
def f_Mo_expression_b46 (k12 : Int32 → Int32 → Mem → Option (Mem)) (k23 : Int32 → Mem → Option (Mem)) (x1 : Int32) (S : Mem) : Option (Mem) :=
  letS (pI S 0 12 ((S.1 0 12) + 1)) (fun S53 =>
  Option.bind (f_Mo_goesOn S53) (fun q57 =>
  gIn (q57.1 0 52) 64 (letS (sA q57 0 51 (q57.1 0 52) 6) (fun S70 =>
  letS (pI S70 0 52 ((S70.1 0 52) + 1)) (fun S78 =>
  k23 x1 S78)))))
def f_Mo_expression_b204 (S : Mem) : Option (Mem) :=
  Option.bind (f_Mo_comesOut 0 S) (fun q206 =>
  some q206)
def f_Mo_expression_b234 (k12 : Int32 → Int32 → Mem → Option (Mem)) (x1 : Int32) (x2 : Int32) (s0 : Int32) (S : Mem) : Option (Mem) :=
  Option.bind (f_Mo_comesOut s0 S) (fun q234 =>
  gIn (q234.1 0 11) 403 (
  gIn (q234.1 0 52) 64 (letS (sA q234 0 51 (q234.1 0 52) (q234.2.1 0 5 (q234.1 0 11).toNatClampNeg)) (fun S254 =>
  letS (pI S254 0 52 ((S254.1 0 52) + 1)) (fun S262 =>
  Option.bind (f_Mo_goesOn S262) (fun q266 =>
  k12 x1 x2 q266))))))
def f_Mo_expression_b186 (k12 : Int32 → Int32 → Mem → Option (Mem)) (x1 : Int32) (s0 : Int32) (S : Mem) : Option (Mem) :=
  if s0 = 0 then
    if (S.1 0 12) ≤ x1 then
      f_Mo_expression_b204 S
    else
      Option.bind (f_Mo_fail 1 S) (fun q201 =>
      f_Mo_expression_b204 q201)
  else
    Option.bind (f_Mo_is 10 S) (fun q214 =>
    if q214 = 0 then
      Option.bind (f_Mo_is 15 S) (fun q223 =>
      if q223 = 0 then
        f_Mo_expression_b234 k12 x1 s0 0 S
      else
        f_Mo_expression_b234 k12 x1 s0 1 S)
    else
      f_Mo_expression_b234 k12 x1 s0 1 S)
def f_Mo_expression_b145 (k12 : Int32 → Int32 → Mem → Option (Mem)) (x1 : Int32) (S : Mem) : Option (Mem) :=
  Option.bind (f_Mo_is 8 S) (fun q148 =>
  if q148 = 0 then
    Option.bind (f_Mo_is 9 S) (fun q157 =>
    if q157 = 0 then
      Option.bind (f_Mo_is 10 S) (fun q166 =>
      if q166 = 0 then
        Option.bind (f_Mo_is 15 S) (fun q175 =>
        if q175 = 0 then
          f_Mo_expression_b186 k12 x1 0 S
        else
          f_Mo_expression_b186 k12 x1 1 S)
      else
        f_Mo_expression_b186 k12 x1 1 S)
    else
      f_Mo_expression_b186 k12 x1 1 S)
  else
    f_Mo_expression_b186 k12 x1 1 S)
def f_Mo_expression_b96 (k12 : Int32 → Int32 → Mem → Option (Mem)) (k96 : Int32 → Mem → Option (Mem)) (x1 : Int32) (S : Mem) : Option (Mem) :=
  Option.bind (f_Mo_is 7 S) (fun q99 =>
  if q99 = 0 then
    f_Mo_expression_b145 k12 x1 S
  else
    if (S.1 0 12) ≤ x1 then
      f_Mo_expression_b145 k12 x1 S
    else
      Option.bind (f_Mo_comesOut 0 S) (fun q115 =>
      letS (pI q115 0 52 ((q115.1 0 52) - 1)) (fun S125 =>
      letS (pI S125 0 12 ((S125.1 0 12) - 1)) (fun S135 =>
      Option.bind (f_Mo_goesOn S135) (fun q139 =>
      k96 x1 q139)))))
def f_Mo_expression_l96 (k12 : Int32 → Int32 → Mem → Option (Mem)) : Nat → Int32 → Mem → Option (Mem)
  | 0 => fun _ _ => none
  | n + 1 => f_Mo_expression_b96  k12 (f_Mo_expression_l96  k12 n)
def f_Mo_expression_b23 (k12 : Int32 → Int32 → Mem → Option (Mem)) (k23 : Int32 → Mem → Option (Mem)) (x1 : Int32) (S : Mem) : Option (Mem) :=
  Option.bind (f_Mo_is 6 S) (fun q26 =>
  if q26 = 0 then
    Option.bind (f_Mo_unit S) (fun q85 =>
    if (q85.1 0 13) ≤ 0 then
      f_Mo_expression_l96 k12 5000 x1 q85
    else
      some q85)
  else
    if (S.1 0 12) = 6 then
      Option.bind (f_Mo_fail 2 S) (fun q43 =>
      f_Mo_expression_b46 k12 k23 x1 q43)
    else
      f_Mo_expression_b46 k12 k23 x1 S)
def f_Mo_expression_l23 (k12 : Int32 → Int32 → Mem → Option (Mem)) : Nat → Int32 → Mem → Option (Mem)
  | 0 => fun _ _ => none
  | n + 1 => f_Mo_expression_b23  k12 (f_Mo_expression_l23  k12 n)
def f_Mo_expression_b12 (k12 : Int32 → Int32 → Mem → Option (Mem)) (x1 : Int32) (x2 : Int32) (S : Mem) : Option (Mem) :=
  if x2 = 0 then
    some S
  else
    if (S.1 0 13) = 0 then
      f_Mo_expression_l23 k12 5000 x1 S
    else
      some S
def f_Mo_expression_l12 : Nat → Int32 → Int32 → Mem → Option (Mem)
  | 0 => fun _ _ _ => none
  | n + 1 => f_Mo_expression_b12  (f_Mo_expression_l12  n)
def f_Mo_expression_b0 (S : Mem) : Option (Mem) :=
  letS (pI S 0 52 0) (fun S2 =>
  letS (S2.1 0 12) (fun y9 =>
  f_Mo_expression_l12 5000 y9 1 S2))
def f_Mo_expression (S : Mem) : Option (Mem) := f_Mo_expression_b0  S
theorem d_Mo_expression_0 : decode bc_Mo_expression 0 = .ok (.aload_n 0, 1) := by decide +kernel
theorem d_Mo_expression_1 : decode bc_Mo_expression 1 = .ok (.iconst 0, 1) := by decide +kernel
theorem d_Mo_expression_2 : decode bc_Mo_expression 2 = .ok (.putfield 315, 3) := by decide +kernel
theorem d_Mo_expression_5 : decode bc_Mo_expression 5 = .ok (.aload_n 0, 1) := by decide +kernel
theorem d_Mo_expression_6 : decode bc_Mo_expression 6 = .ok (.getfield 242, 3) := by decide +kernel
theorem d_Mo_expression_9 : decode bc_Mo_expression 9 = .ok (.istore_n 1, 1) := by decide +kernel
theorem d_Mo_expression_10 : decode bc_Mo_expression 10 = .ok (.iconst 1, 1) := by decide +kernel
theorem d_Mo_expression_11 : decode bc_Mo_expression 11 = .ok (.istore_n 2, 1) := by decide +kernel
theorem d_Mo_expression_12 : decode bc_Mo_expression 12 = .ok (.iload_n 2, 1) := by decide +kernel
theorem d_Mo_expression_13 : decode bc_Mo_expression 13 = .ok (.ifCond .eq 259, 3) := by decide +kernel
theorem d_Mo_expression_16 : decode bc_Mo_expression 16 = .ok (.aload_n 0, 1) := by decide +kernel
theorem d_Mo_expression_17 : decode bc_Mo_expression 17 = .ok (.getfield 215, 3) := by decide +kernel
theorem d_Mo_expression_20 : decode bc_Mo_expression 20 = .ok (.ifCond .ne 252, 3) := by decide +kernel
theorem d_Mo_expression_23 : decode bc_Mo_expression 23 = .ok (.aload_n 0, 1) := by decide +kernel
theorem d_Mo_expression_24 : decode bc_Mo_expression 24 = .ok (.bipush 6, 2) := by decide +kernel
theorem d_Mo_expression_26 : decode bc_Mo_expression 26 = .ok (.invokevirtual 233, 3) := by decide +kernel
theorem d_Mo_expression_29 : decode bc_Mo_expression 29 = .ok (.ifCond .eq 55, 3) := by decide +kernel
theorem d_Mo_expression_32 : decode bc_Mo_expression 32 = .ok (.aload_n 0, 1) := by decide +kernel
theorem d_Mo_expression_33 : decode bc_Mo_expression 33 = .ok (.getfield 242, 3) := by decide +kernel
theorem d_Mo_expression_36 : decode bc_Mo_expression 36 = .ok (.bipush 6, 2) := by decide +kernel
theorem d_Mo_expression_38 : decode bc_Mo_expression 38 = .ok (.if_icmp .ne 8, 3) := by decide +kernel
theorem d_Mo_expression_41 : decode bc_Mo_expression 41 = .ok (.aload_n 0, 1) := by decide +kernel
theorem d_Mo_expression_42 : decode bc_Mo_expression 42 = .ok (.iconst 2, 1) := by decide +kernel
theorem d_Mo_expression_43 : decode bc_Mo_expression 43 = .ok (.invokevirtual 230, 3) := by decide +kernel
theorem d_Mo_expression_46 : decode bc_Mo_expression 46 = .ok (.aload_n 0, 1) := by decide +kernel
theorem d_Mo_expression_47 : decode bc_Mo_expression 47 = .ok (.dup, 1) := by decide +kernel
theorem d_Mo_expression_48 : decode bc_Mo_expression 48 = .ok (.getfield 242, 3) := by decide +kernel
theorem d_Mo_expression_51 : decode bc_Mo_expression 51 = .ok (.iconst 1, 1) := by decide +kernel
theorem d_Mo_expression_52 : decode bc_Mo_expression 52 = .ok (.iadd, 1) := by decide +kernel
theorem d_Mo_expression_53 : decode bc_Mo_expression 53 = .ok (.putfield 242, 3) := by decide +kernel
theorem d_Mo_expression_56 : decode bc_Mo_expression 56 = .ok (.aload_n 0, 1) := by decide +kernel
theorem d_Mo_expression_57 : decode bc_Mo_expression 57 = .ok (.invokevirtual 236, 3) := by decide +kernel
theorem d_Mo_expression_60 : decode bc_Mo_expression 60 = .ok (.aload_n 0, 1) := by decide +kernel
theorem d_Mo_expression_61 : decode bc_Mo_expression 61 = .ok (.getfield 125, 3) := by decide +kernel
theorem d_Mo_expression_64 : decode bc_Mo_expression 64 = .ok (.aload_n 0, 1) := by decide +kernel
theorem d_Mo_expression_65 : decode bc_Mo_expression 65 = .ok (.getfield 315, 3) := by decide +kernel
theorem d_Mo_expression_68 : decode bc_Mo_expression 68 = .ok (.bipush 6, 2) := by decide +kernel
theorem d_Mo_expression_70 : decode bc_Mo_expression 70 = .ok (.iastore, 1) := by decide +kernel
theorem d_Mo_expression_71 : decode bc_Mo_expression 71 = .ok (.aload_n 0, 1) := by decide +kernel
theorem d_Mo_expression_72 : decode bc_Mo_expression 72 = .ok (.dup, 1) := by decide +kernel
theorem d_Mo_expression_73 : decode bc_Mo_expression 73 = .ok (.getfield 315, 3) := by decide +kernel
theorem d_Mo_expression_76 : decode bc_Mo_expression 76 = .ok (.iconst 1, 1) := by decide +kernel
theorem d_Mo_expression_77 : decode bc_Mo_expression 77 = .ok (.iadd, 1) := by decide +kernel
theorem d_Mo_expression_78 : decode bc_Mo_expression 78 = .ok (.putfield 315, 3) := by decide +kernel
theorem d_Mo_expression_81 : decode bc_Mo_expression 81 = .ok (.goto (-58), 3) := by decide +kernel
theorem d_Mo_expression_84 : decode bc_Mo_expression 84 = .ok (.aload_n 0, 1) := by decide +kernel
theorem d_Mo_expression_85 : decode bc_Mo_expression 85 = .ok (.invokevirtual 321, 3) := by decide +kernel
theorem d_Mo_expression_88 : decode bc_Mo_expression 88 = .ok (.aload_n 0, 1) := by decide +kernel
theorem d_Mo_expression_89 : decode bc_Mo_expression 89 = .ok (.getfield 215, 3) := by decide +kernel
theorem d_Mo_expression_92 : decode bc_Mo_expression 92 = .ok (.ifCond .le 4, 3) := by decide +kernel
theorem d_Mo_expression_95 : decode bc_Mo_expression 95 = .ok (.return_, 1) := by decide +kernel
theorem d_Mo_expression_96 : decode bc_Mo_expression 96 = .ok (.aload_n 0, 1) := by decide +kernel
theorem d_Mo_expression_97 : decode bc_Mo_expression 97 = .ok (.bipush 7, 2) := by decide +kernel
theorem d_Mo_expression_99 : decode bc_Mo_expression 99 = .ok (.invokevirtual 233, 3) := by decide +kernel
theorem d_Mo_expression_102 : decode bc_Mo_expression 102 = .ok (.ifCond .eq 43, 3) := by decide +kernel
theorem d_Mo_expression_105 : decode bc_Mo_expression 105 = .ok (.aload_n 0, 1) := by decide +kernel
theorem d_Mo_expression_106 : decode bc_Mo_expression 106 = .ok (.getfield 242, 3) := by decide +kernel
theorem d_Mo_expression_109 : decode bc_Mo_expression 109 = .ok (.iload_n 1, 1) := by decide +kernel
theorem d_Mo_expression_110 : decode bc_Mo_expression 110 = .ok (.if_icmp .le 35, 3) := by decide +kernel
theorem d_Mo_expression_113 : decode bc_Mo_expression 113 = .ok (.aload_n 0, 1) := by decide +kernel
theorem d_Mo_expression_114 : decode bc_Mo_expression 114 = .ok (.iconst 0, 1) := by decide +kernel
theorem d_Mo_expression_115 : decode bc_Mo_expression 115 = .ok (.invokevirtual 324, 3) := by decide +kernel
theorem d_Mo_expression_118 : decode bc_Mo_expression 118 = .ok (.aload_n 0, 1) := by decide +kernel
theorem d_Mo_expression_119 : decode bc_Mo_expression 119 = .ok (.dup, 1) := by decide +kernel
theorem d_Mo_expression_120 : decode bc_Mo_expression 120 = .ok (.getfield 315, 3) := by decide +kernel
theorem d_Mo_expression_123 : decode bc_Mo_expression 123 = .ok (.iconst 1, 1) := by decide +kernel
theorem d_Mo_expression_124 : decode bc_Mo_expression 124 = .ok (.isub, 1) := by decide +kernel
theorem d_Mo_expression_125 : decode bc_Mo_expression 125 = .ok (.putfield 315, 3) := by decide +kernel
theorem d_Mo_expression_128 : decode bc_Mo_expression 128 = .ok (.aload_n 0, 1) := by decide +kernel
theorem d_Mo_expression_129 : decode bc_Mo_expression 129 = .ok (.dup, 1) := by decide +kernel
theorem d_Mo_expression_130 : decode bc_Mo_expression 130 = .ok (.getfield 242, 3) := by decide +kernel
theorem d_Mo_expression_133 : decode bc_Mo_expression 133 = .ok (.iconst 1, 1) := by decide +kernel
theorem d_Mo_expression_134 : decode bc_Mo_expression 134 = .ok (.isub, 1) := by decide +kernel
theorem d_Mo_expression_135 : decode bc_Mo_expression 135 = .ok (.putfield 242, 3) := by decide +kernel
theorem d_Mo_expression_138 : decode bc_Mo_expression 138 = .ok (.aload_n 0, 1) := by decide +kernel
theorem d_Mo_expression_139 : decode bc_Mo_expression 139 = .ok (.invokevirtual 236, 3) := by decide +kernel
theorem d_Mo_expression_142 : decode bc_Mo_expression 142 = .ok (.goto (-46), 3) := by decide +kernel
theorem d_Mo_expression_145 : decode bc_Mo_expression 145 = .ok (.aload_n 0, 1) := by decide +kernel
theorem d_Mo_expression_146 : decode bc_Mo_expression 146 = .ok (.bipush 8, 2) := by decide +kernel
theorem d_Mo_expression_148 : decode bc_Mo_expression 148 = .ok (.invokevirtual 233, 3) := by decide +kernel
theorem d_Mo_expression_151 : decode bc_Mo_expression 151 = .ok (.ifCond .ne 30, 3) := by decide +kernel
theorem d_Mo_expression_154 : decode bc_Mo_expression 154 = .ok (.aload_n 0, 1) := by decide +kernel
theorem d_Mo_expression_155 : decode bc_Mo_expression 155 = .ok (.bipush 9, 2) := by decide +kernel
theorem d_Mo_expression_157 : decode bc_Mo_expression 157 = .ok (.invokevirtual 233, 3) := by decide +kernel
theorem d_Mo_expression_160 : decode bc_Mo_expression 160 = .ok (.ifCond .ne 21, 3) := by decide +kernel
theorem d_Mo_expression_163 : decode bc_Mo_expression 163 = .ok (.aload_n 0, 1) := by decide +kernel
theorem d_Mo_expression_164 : decode bc_Mo_expression 164 = .ok (.bipush 10, 2) := by decide +kernel
theorem d_Mo_expression_166 : decode bc_Mo_expression 166 = .ok (.invokevirtual 233, 3) := by decide +kernel
theorem d_Mo_expression_169 : decode bc_Mo_expression 169 = .ok (.ifCond .ne 12, 3) := by decide +kernel
theorem d_Mo_expression_172 : decode bc_Mo_expression 172 = .ok (.aload_n 0, 1) := by decide +kernel
theorem d_Mo_expression_173 : decode bc_Mo_expression 173 = .ok (.bipush 15, 2) := by decide +kernel
theorem d_Mo_expression_175 : decode bc_Mo_expression 175 = .ok (.invokevirtual 233, 3) := by decide +kernel
theorem d_Mo_expression_178 : decode bc_Mo_expression 178 = .ok (.ifCond .eq 7, 3) := by decide +kernel
theorem d_Mo_expression_181 : decode bc_Mo_expression 181 = .ok (.iconst 1, 1) := by decide +kernel
theorem d_Mo_expression_182 : decode bc_Mo_expression 182 = .ok (.goto 4, 3) := by decide +kernel
theorem d_Mo_expression_185 : decode bc_Mo_expression 185 = .ok (.iconst 0, 1) := by decide +kernel
theorem d_Mo_expression_186 : decode bc_Mo_expression 186 = .ok (.istore_n 2, 1) := by decide +kernel
theorem d_Mo_expression_187 : decode bc_Mo_expression 187 = .ok (.iload_n 2, 1) := by decide +kernel
theorem d_Mo_expression_188 : decode bc_Mo_expression 188 = .ok (.ifCond .ne 22, 3) := by decide +kernel
theorem d_Mo_expression_191 : decode bc_Mo_expression 191 = .ok (.aload_n 0, 1) := by decide +kernel
theorem d_Mo_expression_192 : decode bc_Mo_expression 192 = .ok (.getfield 242, 3) := by decide +kernel
theorem d_Mo_expression_195 : decode bc_Mo_expression 195 = .ok (.iload_n 1, 1) := by decide +kernel
theorem d_Mo_expression_196 : decode bc_Mo_expression 196 = .ok (.if_icmp .le 8, 3) := by decide +kernel
theorem d_Mo_expression_199 : decode bc_Mo_expression 199 = .ok (.aload_n 0, 1) := by decide +kernel
theorem d_Mo_expression_200 : decode bc_Mo_expression 200 = .ok (.iconst 1, 1) := by decide +kernel
theorem d_Mo_expression_201 : decode bc_Mo_expression 201 = .ok (.invokevirtual 230, 3) := by decide +kernel
theorem d_Mo_expression_204 : decode bc_Mo_expression 204 = .ok (.aload_n 0, 1) := by decide +kernel
theorem d_Mo_expression_205 : decode bc_Mo_expression 205 = .ok (.iconst 0, 1) := by decide +kernel
theorem d_Mo_expression_206 : decode bc_Mo_expression 206 = .ok (.invokevirtual 324, 3) := by decide +kernel
theorem d_Mo_expression_209 : decode bc_Mo_expression 209 = .ok (.return_, 1) := by decide +kernel
theorem d_Mo_expression_210 : decode bc_Mo_expression 210 = .ok (.aload_n 0, 1) := by decide +kernel
theorem d_Mo_expression_211 : decode bc_Mo_expression 211 = .ok (.aload_n 0, 1) := by decide +kernel
theorem d_Mo_expression_212 : decode bc_Mo_expression 212 = .ok (.bipush 10, 2) := by decide +kernel
theorem d_Mo_expression_214 : decode bc_Mo_expression 214 = .ok (.invokevirtual 233, 3) := by decide +kernel
theorem d_Mo_expression_217 : decode bc_Mo_expression 217 = .ok (.ifCond .ne 12, 3) := by decide +kernel
theorem d_Mo_expression_220 : decode bc_Mo_expression 220 = .ok (.aload_n 0, 1) := by decide +kernel
theorem d_Mo_expression_221 : decode bc_Mo_expression 221 = .ok (.bipush 15, 2) := by decide +kernel
theorem d_Mo_expression_223 : decode bc_Mo_expression 223 = .ok (.invokevirtual 233, 3) := by decide +kernel
theorem d_Mo_expression_226 : decode bc_Mo_expression 226 = .ok (.ifCond .eq 7, 3) := by decide +kernel
theorem d_Mo_expression_229 : decode bc_Mo_expression 229 = .ok (.iconst 1, 1) := by decide +kernel
theorem d_Mo_expression_230 : decode bc_Mo_expression 230 = .ok (.goto 4, 3) := by decide +kernel
theorem d_Mo_expression_233 : decode bc_Mo_expression 233 = .ok (.iconst 0, 1) := by decide +kernel
theorem d_Mo_expression_234 : decode bc_Mo_expression 234 = .ok (.invokevirtual 324, 3) := by decide +kernel
theorem d_Mo_expression_237 : decode bc_Mo_expression 237 = .ok (.aload_n 0, 1) := by decide +kernel
theorem d_Mo_expression_238 : decode bc_Mo_expression 238 = .ok (.getfield 125, 3) := by decide +kernel
theorem d_Mo_expression_241 : decode bc_Mo_expression 241 = .ok (.aload_n 0, 1) := by decide +kernel
theorem d_Mo_expression_242 : decode bc_Mo_expression 242 = .ok (.getfield 315, 3) := by decide +kernel
theorem d_Mo_expression_245 : decode bc_Mo_expression 245 = .ok (.aload_n 0, 1) := by decide +kernel
theorem d_Mo_expression_246 : decode bc_Mo_expression 246 = .ok (.getfield 20, 3) := by decide +kernel
theorem d_Mo_expression_249 : decode bc_Mo_expression 249 = .ok (.aload_n 0, 1) := by decide +kernel
theorem d_Mo_expression_250 : decode bc_Mo_expression 250 = .ok (.getfield 218, 3) := by decide +kernel
theorem d_Mo_expression_253 : decode bc_Mo_expression 253 = .ok (.iaload, 1) := by decide +kernel
theorem d_Mo_expression_254 : decode bc_Mo_expression 254 = .ok (.iastore, 1) := by decide +kernel
theorem d_Mo_expression_255 : decode bc_Mo_expression 255 = .ok (.aload_n 0, 1) := by decide +kernel
theorem d_Mo_expression_256 : decode bc_Mo_expression 256 = .ok (.dup, 1) := by decide +kernel
theorem d_Mo_expression_257 : decode bc_Mo_expression 257 = .ok (.getfield 315, 3) := by decide +kernel
theorem d_Mo_expression_260 : decode bc_Mo_expression 260 = .ok (.iconst 1, 1) := by decide +kernel
theorem d_Mo_expression_261 : decode bc_Mo_expression 261 = .ok (.iadd, 1) := by decide +kernel
theorem d_Mo_expression_262 : decode bc_Mo_expression 262 = .ok (.putfield 315, 3) := by decide +kernel
theorem d_Mo_expression_265 : decode bc_Mo_expression 265 = .ok (.aload_n 0, 1) := by decide +kernel
theorem d_Mo_expression_266 : decode bc_Mo_expression 266 = .ok (.invokevirtual 236, 3) := by decide +kernel
theorem d_Mo_expression_269 : decode bc_Mo_expression 269 = .ok (.goto (-257), 3) := by decide +kernel
theorem d_Mo_expression_272 : decode bc_Mo_expression 272 = .ok (.return_, 1) := by decide +kernel
set_option maxRecDepth 20000 in
theorem w_Mo_expression_b46 {X : CX} {V : WV} (hV : IsM V) {z : Mem} (hC : Ck X V bc_Mo_expression 3 "SecretWellsModel" none 3 61) (k12 : Int32 → Int32 → Mem → Option (Mem)) (hk12 : ∀ (x1 : Int32) (x2 : Int32) (S : Mem), k12 x1 x2 S = some z → G X V 3 (QV X V z) 12 [some (.ref (V.2.2.1 0 0)), some (.int x1), some (.int x2)] [] S) (k23 : Int32 → Mem → Option (Mem)) (hk23 : ∀ (x1 : Int32) (S : Mem), k23 x1 S = some z → G X V 3 (QV X V z) 23 [some (.ref (V.2.2.1 0 0)), some (.int x1), none] [] S) (x1 : Int32) (S : Mem) (h : f_Mo_expression_b46  k12 k23 x1 S = some z) : G X V 3 (QV X V z) 46 [some (.ref (V.2.2.1 0 0)), some (.int x1), none] [] S := by
  unfold f_Mo_expression_b46 at h
  refine g_aload_n (pc := 46) hC (i := 0) (x := (V.2.2.1 0 0)) rfl rfl d_Mo_expression_46 ?_
  refine g_dup (pc := 47) hC rfl d_Mo_expression_47 ?_
  refine g_getI (pc := 48) hC fo_Mo_242 (ob_Mo hV) rfl d_Mo_expression_48 ?_
  refine g_iconst (pc := 51) hC kc_1 d_Mo_expression_51 ?_
  refine g_iadd (pc := 52) hC d_Mo_expression_52 ?_
  refine g_putI (pc := 53) hC po_Mo_242 (ob_Mo hV) rfl rfl rfl d_Mo_expression_53 ?_
  refine g_letS h (fun S53 h => ?_)
  refine g_aload_n (pc := 56) hC (i := 0) (x := (V.2.2.1 0 0)) rfl rfl d_Mo_expression_56 ?_
  obtain ⟨q57, hq57, h⟩ := Option.bind_eq_some_iff.mp h
  refine g_vv (pc := 57) hC (As := []) (st := []) mt_Mo_goesOn lk_Mo_236 rfl (ob_Mo hV) (Nat.le_of_ble_eq_true rfl) ⟨Nat.le_of_ble_eq_true rfl, Nat.le_of_ble_eq_true rfl⟩ rfl d_Mo_expression_57 (c_Mo_goesOn hV hq57) ?_
  refine g_aload_n (pc := 60) hC (i := 0) (x := (V.2.2.1 0 0)) rfl rfl d_Mo_expression_60 ?_
  refine g_getA (pc := 61) hC fo_Mo_125 (ob_Mo hV) rfl d_Mo_expression_61 ?_
  refine g_aload_n (pc := 64) hC (i := 0) (x := (V.2.2.1 0 0)) rfl rfl d_Mo_expression_64 ?_
  refine g_getI (pc := 65) hC fo_Mo_315 (ob_Mo hV) rfl d_Mo_expression_65 ?_
  refine g_bipush (pc := 68) hC kb_6 d_Mo_expression_68 ?_
  refine g_iast (pc := 70) hC (ar_Mo_51 hV) d_Mo_expression_70 h (fun h => ?_)
  refine g_letS h (fun S70 h => ?_)
  refine g_aload_n (pc := 71) hC (i := 0) (x := (V.2.2.1 0 0)) rfl rfl d_Mo_expression_71 ?_
  refine g_dup (pc := 72) hC rfl d_Mo_expression_72 ?_
  refine g_getI (pc := 73) hC fo_Mo_315 (ob_Mo hV) rfl d_Mo_expression_73 ?_
  refine g_iconst (pc := 76) hC kc_1 d_Mo_expression_76 ?_
  refine g_iadd (pc := 77) hC d_Mo_expression_77 ?_
  refine g_putI (pc := 78) hC po_Mo_315 (ob_Mo hV) rfl rfl rfl d_Mo_expression_78 ?_
  refine g_letS h (fun S78 h => ?_)
  refine g_goto (pc := 81) hC (tgt := 23) (by decide) d_Mo_expression_81 ?_
  exact hk23 x1 S78 h
set_option maxRecDepth 20000 in
theorem w_Mo_expression_b204 {X : CX} {V : WV} (hV : IsM V) {z : Mem} (hC : Ck X V bc_Mo_expression 3 "SecretWellsModel" none 3 61) (S : Mem) (h : f_Mo_expression_b204  S = some z) : G X V 3 (QV X V z) 204 [some (.ref (V.2.2.1 0 0)), none, none] [] S := by
  unfold f_Mo_expression_b204 at h
  refine g_aload_n (pc := 204) hC (i := 0) (x := (V.2.2.1 0 0)) rfl rfl d_Mo_expression_204 ?_
  refine g_iconst (pc := 205) hC kc_0 d_Mo_expression_205 ?_
  obtain ⟨q206, hq206, h⟩ := Option.bind_eq_some_iff.mp h
  refine g_vv (pc := 206) hC (As := [.int 0]) (st := []) mt_Mo_comesOut lk_Mo_324 rfl (ob_Mo hV) (Nat.le_of_ble_eq_true rfl) ⟨Nat.le_of_ble_eq_true rfl, Nat.le_of_ble_eq_true rfl⟩ rfl d_Mo_expression_206 (c_Mo_comesOut hV hq206) ?_
  exact g_vW (pc := 209) hC d_Mo_expression_209 h
set_option maxRecDepth 20000 in
theorem w_Mo_expression_b234 {X : CX} {V : WV} (hV : IsM V) {z : Mem} (hC : Ck X V bc_Mo_expression 3 "SecretWellsModel" none 3 61) (k12 : Int32 → Int32 → Mem → Option (Mem)) (hk12 : ∀ (x1 : Int32) (x2 : Int32) (S : Mem), k12 x1 x2 S = some z → G X V 3 (QV X V z) 12 [some (.ref (V.2.2.1 0 0)), some (.int x1), some (.int x2)] [] S) (x1 : Int32) (x2 : Int32) (s0 : Int32) (S : Mem) (h : f_Mo_expression_b234  k12 x1 x2 s0 S = some z) : G X V 3 (QV X V z) 234 [some (.ref (V.2.2.1 0 0)), some (.int x1), some (.int x2)] [.int s0, .ref (V.2.2.1 0 0)] S := by
  unfold f_Mo_expression_b234 at h
  obtain ⟨q234, hq234, h⟩ := Option.bind_eq_some_iff.mp h
  refine g_vv (pc := 234) hC (As := [.int s0]) (st := []) mt_Mo_comesOut lk_Mo_324 rfl (ob_Mo hV) (Nat.le_of_ble_eq_true rfl) ⟨Nat.le_of_ble_eq_true rfl, Nat.le_of_ble_eq_true rfl⟩ rfl d_Mo_expression_234 (c_Mo_comesOut hV hq234) ?_
  refine g_aload_n (pc := 237) hC (i := 0) (x := (V.2.2.1 0 0)) rfl rfl d_Mo_expression_237 ?_
  refine g_getA (pc := 238) hC fo_Mo_125 (ob_Mo hV) rfl d_Mo_expression_238 ?_
  refine g_aload_n (pc := 241) hC (i := 0) (x := (V.2.2.1 0 0)) rfl rfl d_Mo_expression_241 ?_
  refine g_getI (pc := 242) hC fo_Mo_315 (ob_Mo hV) rfl d_Mo_expression_242 ?_
  refine g_aload_n (pc := 245) hC (i := 0) (x := (V.2.2.1 0 0)) rfl rfl d_Mo_expression_245 ?_
  refine g_getA (pc := 246) hC fo_Mo_20 (ob_Mo hV) rfl d_Mo_expression_246 ?_
  refine g_aload_n (pc := 249) hC (i := 0) (x := (V.2.2.1 0 0)) rfl rfl d_Mo_expression_249 ?_
  refine g_getI (pc := 250) hC fo_Mo_218 (ob_Mo hV) rfl d_Mo_expression_250 ?_
  refine g_iald (pc := 253) hC (ar_Mo_5 hV) d_Mo_expression_253 h (fun h => ?_)
  refine g_iast (pc := 254) hC (ar_Mo_51 hV) d_Mo_expression_254 h (fun h => ?_)
  refine g_letS h (fun S254 h => ?_)
  refine g_aload_n (pc := 255) hC (i := 0) (x := (V.2.2.1 0 0)) rfl rfl d_Mo_expression_255 ?_
  refine g_dup (pc := 256) hC rfl d_Mo_expression_256 ?_
  refine g_getI (pc := 257) hC fo_Mo_315 (ob_Mo hV) rfl d_Mo_expression_257 ?_
  refine g_iconst (pc := 260) hC kc_1 d_Mo_expression_260 ?_
  refine g_iadd (pc := 261) hC d_Mo_expression_261 ?_
  refine g_putI (pc := 262) hC po_Mo_315 (ob_Mo hV) rfl rfl rfl d_Mo_expression_262 ?_
  refine g_letS h (fun S262 h => ?_)
  refine g_aload_n (pc := 265) hC (i := 0) (x := (V.2.2.1 0 0)) rfl rfl d_Mo_expression_265 ?_
  obtain ⟨q266, hq266, h⟩ := Option.bind_eq_some_iff.mp h
  refine g_vv (pc := 266) hC (As := []) (st := []) mt_Mo_goesOn lk_Mo_236 rfl (ob_Mo hV) (Nat.le_of_ble_eq_true rfl) ⟨Nat.le_of_ble_eq_true rfl, Nat.le_of_ble_eq_true rfl⟩ rfl d_Mo_expression_266 (c_Mo_goesOn hV hq266) ?_
  refine g_goto (pc := 269) hC (tgt := 12) (by decide) d_Mo_expression_269 ?_
  exact hk12 x1 x2 q266 h
set_option maxRecDepth 20000 in
theorem w_Mo_expression_b186 {X : CX} {V : WV} (hV : IsM V) {z : Mem} (hC : Ck X V bc_Mo_expression 3 "SecretWellsModel" none 3 61) (k12 : Int32 → Int32 → Mem → Option (Mem)) (hk12 : ∀ (x1 : Int32) (x2 : Int32) (S : Mem), k12 x1 x2 S = some z → G X V 3 (QV X V z) 12 [some (.ref (V.2.2.1 0 0)), some (.int x1), some (.int x2)] [] S) (x1 : Int32) (s0 : Int32) (S : Mem) (h : f_Mo_expression_b186  k12 x1 s0 S = some z) : G X V 3 (QV X V z) 186 [some (.ref (V.2.2.1 0 0)), some (.int x1), none] [.int s0] S := by
  unfold f_Mo_expression_b186 at h
  refine s_istore_n (pc := 186) hC (i := 2) rfl (by decide) d_Mo_expression_186 (lv2 := [some (.ref (V.2.2.1 0 0)), some (.int x1), some (.int s0)]) rfl ?_
  refine g_iload_n (pc := 187) hC (i := 2) (x := s0) rfl rfl d_Mo_expression_187 ?_
  refine g_if_ne (pc := 188) hC (tgt := 210) (by decide) d_Mo_expression_188 h (fun h => ?_) (fun h => ?_)
  · refine g_aload_n (pc := 210) hC (i := 0) (x := (V.2.2.1 0 0)) rfl rfl d_Mo_expression_210 ?_
    refine g_aload_n (pc := 211) hC (i := 0) (x := (V.2.2.1 0 0)) rfl rfl d_Mo_expression_211 ?_
    refine g_bipush (pc := 212) hC kb_10 d_Mo_expression_212 ?_
    obtain ⟨q214, hq214, h⟩ := Option.bind_eq_some_iff.mp h
    refine g_vi (pc := 214) hC (As := [.int 10]) (st := [.ref (V.2.2.1 0 0)]) mt_Mo_is lk_Mo_233 rfl (ob_Mo hV) (Nat.le_of_ble_eq_true rfl) ⟨Nat.le_of_ble_eq_true rfl, Nat.le_of_ble_eq_true rfl⟩ rfl d_Mo_expression_214 (c_Mo_is hV hq214) ?_
    refine g_if_ne (pc := 217) hC (tgt := 229) (by decide) d_Mo_expression_217 h (fun h => ?_) (fun h => ?_)
    · refine g_iconst (pc := 229) hC kc_1 d_Mo_expression_229 ?_
      refine g_goto (pc := 230) hC (tgt := 234) (by decide) d_Mo_expression_230 ?_
      exact w_Mo_expression_b234 hV hC k12 hk12 x1 s0 1 S h
    · refine g_aload_n (pc := 220) hC (i := 0) (x := (V.2.2.1 0 0)) rfl rfl d_Mo_expression_220 ?_
      refine g_bipush (pc := 221) hC kb_15 d_Mo_expression_221 ?_
      obtain ⟨q223, hq223, h⟩ := Option.bind_eq_some_iff.mp h
      refine g_vi (pc := 223) hC (As := [.int 15]) (st := [.ref (V.2.2.1 0 0)]) mt_Mo_is lk_Mo_233 rfl (ob_Mo hV) (Nat.le_of_ble_eq_true rfl) ⟨Nat.le_of_ble_eq_true rfl, Nat.le_of_ble_eq_true rfl⟩ rfl d_Mo_expression_223 (c_Mo_is hV hq223) ?_
      refine g_if_eq (pc := 226) hC (tgt := 233) (by decide) d_Mo_expression_226 h (fun h => ?_) (fun h => ?_)
      · refine g_iconst (pc := 233) hC kc_0 d_Mo_expression_233 ?_
        exact w_Mo_expression_b234 hV hC k12 hk12 x1 s0 0 S h
      · refine g_iconst (pc := 229) hC kc_1 d_Mo_expression_229 ?_
        refine g_goto (pc := 230) hC (tgt := 234) (by decide) d_Mo_expression_230 ?_
        exact w_Mo_expression_b234 hV hC k12 hk12 x1 s0 1 S h
  · refine g_aload_n (pc := 191) hC (i := 0) (x := (V.2.2.1 0 0)) rfl rfl d_Mo_expression_191 ?_
    refine g_getI (pc := 192) hC fo_Mo_242 (ob_Mo hV) rfl d_Mo_expression_192 ?_
    refine g_iload_n (pc := 195) hC (i := 1) (x := x1) rfl rfl d_Mo_expression_195 ?_
    refine g_icmp_le (pc := 196) hC (tgt := 204) (by decide) d_Mo_expression_196 h (fun h => ?_) (fun h => ?_)
    · refine g_le (lv2 := [some (.ref (V.2.2.1 0 0)), none, none]) (⟨rfl, trivial⟩) ?_
      exact w_Mo_expression_b204 hV hC S h
    · refine g_aload_n (pc := 199) hC (i := 0) (x := (V.2.2.1 0 0)) rfl rfl d_Mo_expression_199 ?_
      refine g_iconst (pc := 200) hC kc_1 d_Mo_expression_200 ?_
      obtain ⟨q201, hq201, h⟩ := Option.bind_eq_some_iff.mp h
      refine g_vv (pc := 201) hC (As := [.int 1]) (st := []) mt_Mo_fail lk_Mo_230 rfl (ob_Mo hV) (Nat.le_of_ble_eq_true rfl) ⟨Nat.le_of_ble_eq_true rfl, Nat.le_of_ble_eq_true rfl⟩ rfl d_Mo_expression_201 (c_Mo_fail hV hq201) ?_
      refine g_le (lv2 := [some (.ref (V.2.2.1 0 0)), none, none]) (⟨rfl, trivial⟩) ?_
      exact w_Mo_expression_b204 hV hC q201 h
set_option maxRecDepth 20000 in
theorem w_Mo_expression_b145 {X : CX} {V : WV} (hV : IsM V) {z : Mem} (hC : Ck X V bc_Mo_expression 3 "SecretWellsModel" none 3 61) (k12 : Int32 → Int32 → Mem → Option (Mem)) (hk12 : ∀ (x1 : Int32) (x2 : Int32) (S : Mem), k12 x1 x2 S = some z → G X V 3 (QV X V z) 12 [some (.ref (V.2.2.1 0 0)), some (.int x1), some (.int x2)] [] S) (x1 : Int32) (S : Mem) (h : f_Mo_expression_b145  k12 x1 S = some z) : G X V 3 (QV X V z) 145 [some (.ref (V.2.2.1 0 0)), some (.int x1), none] [] S := by
  unfold f_Mo_expression_b145 at h
  refine g_aload_n (pc := 145) hC (i := 0) (x := (V.2.2.1 0 0)) rfl rfl d_Mo_expression_145 ?_
  refine g_bipush (pc := 146) hC kb_8 d_Mo_expression_146 ?_
  obtain ⟨q148, hq148, h⟩ := Option.bind_eq_some_iff.mp h
  refine g_vi (pc := 148) hC (As := [.int 8]) (st := []) mt_Mo_is lk_Mo_233 rfl (ob_Mo hV) (Nat.le_of_ble_eq_true rfl) ⟨Nat.le_of_ble_eq_true rfl, Nat.le_of_ble_eq_true rfl⟩ rfl d_Mo_expression_148 (c_Mo_is hV hq148) ?_
  refine g_if_ne (pc := 151) hC (tgt := 181) (by decide) d_Mo_expression_151 h (fun h => ?_) (fun h => ?_)
  · refine g_iconst (pc := 181) hC kc_1 d_Mo_expression_181 ?_
    refine g_goto (pc := 182) hC (tgt := 186) (by decide) d_Mo_expression_182 ?_
    exact w_Mo_expression_b186 hV hC k12 hk12 x1 1 S h
  · refine g_aload_n (pc := 154) hC (i := 0) (x := (V.2.2.1 0 0)) rfl rfl d_Mo_expression_154 ?_
    refine g_bipush (pc := 155) hC kb_9 d_Mo_expression_155 ?_
    obtain ⟨q157, hq157, h⟩ := Option.bind_eq_some_iff.mp h
    refine g_vi (pc := 157) hC (As := [.int 9]) (st := []) mt_Mo_is lk_Mo_233 rfl (ob_Mo hV) (Nat.le_of_ble_eq_true rfl) ⟨Nat.le_of_ble_eq_true rfl, Nat.le_of_ble_eq_true rfl⟩ rfl d_Mo_expression_157 (c_Mo_is hV hq157) ?_
    refine g_if_ne (pc := 160) hC (tgt := 181) (by decide) d_Mo_expression_160 h (fun h => ?_) (fun h => ?_)
    · refine g_iconst (pc := 181) hC kc_1 d_Mo_expression_181 ?_
      refine g_goto (pc := 182) hC (tgt := 186) (by decide) d_Mo_expression_182 ?_
      exact w_Mo_expression_b186 hV hC k12 hk12 x1 1 S h
    · refine g_aload_n (pc := 163) hC (i := 0) (x := (V.2.2.1 0 0)) rfl rfl d_Mo_expression_163 ?_
      refine g_bipush (pc := 164) hC kb_10 d_Mo_expression_164 ?_
      obtain ⟨q166, hq166, h⟩ := Option.bind_eq_some_iff.mp h
      refine g_vi (pc := 166) hC (As := [.int 10]) (st := []) mt_Mo_is lk_Mo_233 rfl (ob_Mo hV) (Nat.le_of_ble_eq_true rfl) ⟨Nat.le_of_ble_eq_true rfl, Nat.le_of_ble_eq_true rfl⟩ rfl d_Mo_expression_166 (c_Mo_is hV hq166) ?_
      refine g_if_ne (pc := 169) hC (tgt := 181) (by decide) d_Mo_expression_169 h (fun h => ?_) (fun h => ?_)
      · refine g_iconst (pc := 181) hC kc_1 d_Mo_expression_181 ?_
        refine g_goto (pc := 182) hC (tgt := 186) (by decide) d_Mo_expression_182 ?_
        exact w_Mo_expression_b186 hV hC k12 hk12 x1 1 S h
      · refine g_aload_n (pc := 172) hC (i := 0) (x := (V.2.2.1 0 0)) rfl rfl d_Mo_expression_172 ?_
        refine g_bipush (pc := 173) hC kb_15 d_Mo_expression_173 ?_
        obtain ⟨q175, hq175, h⟩ := Option.bind_eq_some_iff.mp h
        refine g_vi (pc := 175) hC (As := [.int 15]) (st := []) mt_Mo_is lk_Mo_233 rfl (ob_Mo hV) (Nat.le_of_ble_eq_true rfl) ⟨Nat.le_of_ble_eq_true rfl, Nat.le_of_ble_eq_true rfl⟩ rfl d_Mo_expression_175 (c_Mo_is hV hq175) ?_
        refine g_if_eq (pc := 178) hC (tgt := 185) (by decide) d_Mo_expression_178 h (fun h => ?_) (fun h => ?_)
        · refine g_iconst (pc := 185) hC kc_0 d_Mo_expression_185 ?_
          exact w_Mo_expression_b186 hV hC k12 hk12 x1 0 S h
        · refine g_iconst (pc := 181) hC kc_1 d_Mo_expression_181 ?_
          refine g_goto (pc := 182) hC (tgt := 186) (by decide) d_Mo_expression_182 ?_
          exact w_Mo_expression_b186 hV hC k12 hk12 x1 1 S h
set_option maxRecDepth 20000 in
theorem w_Mo_expression_b96 {X : CX} {V : WV} (hV : IsM V) {z : Mem} (hC : Ck X V bc_Mo_expression 3 "SecretWellsModel" none 3 61) (k12 : Int32 → Int32 → Mem → Option (Mem)) (hk12 : ∀ (x1 : Int32) (x2 : Int32) (S : Mem), k12 x1 x2 S = some z → G X V 3 (QV X V z) 12 [some (.ref (V.2.2.1 0 0)), some (.int x1), some (.int x2)] [] S) (k96 : Int32 → Mem → Option (Mem)) (hk96 : ∀ (x1 : Int32) (S : Mem), k96 x1 S = some z → G X V 3 (QV X V z) 96 [some (.ref (V.2.2.1 0 0)), some (.int x1), none] [] S) (x1 : Int32) (S : Mem) (h : f_Mo_expression_b96  k12 k96 x1 S = some z) : G X V 3 (QV X V z) 96 [some (.ref (V.2.2.1 0 0)), some (.int x1), none] [] S := by
  unfold f_Mo_expression_b96 at h
  refine g_aload_n (pc := 96) hC (i := 0) (x := (V.2.2.1 0 0)) rfl rfl d_Mo_expression_96 ?_
  refine g_bipush (pc := 97) hC kb_7 d_Mo_expression_97 ?_
  obtain ⟨q99, hq99, h⟩ := Option.bind_eq_some_iff.mp h
  refine g_vi (pc := 99) hC (As := [.int 7]) (st := []) mt_Mo_is lk_Mo_233 rfl (ob_Mo hV) (Nat.le_of_ble_eq_true rfl) ⟨Nat.le_of_ble_eq_true rfl, Nat.le_of_ble_eq_true rfl⟩ rfl d_Mo_expression_99 (c_Mo_is hV hq99) ?_
  refine g_if_eq (pc := 102) hC (tgt := 145) (by decide) d_Mo_expression_102 h (fun h => ?_) (fun h => ?_)
  · exact w_Mo_expression_b145 hV hC k12 hk12 x1 S h
  · refine g_aload_n (pc := 105) hC (i := 0) (x := (V.2.2.1 0 0)) rfl rfl d_Mo_expression_105 ?_
    refine g_getI (pc := 106) hC fo_Mo_242 (ob_Mo hV) rfl d_Mo_expression_106 ?_
    refine g_iload_n (pc := 109) hC (i := 1) (x := x1) rfl rfl d_Mo_expression_109 ?_
    refine g_icmp_le (pc := 110) hC (tgt := 145) (by decide) d_Mo_expression_110 h (fun h => ?_) (fun h => ?_)
    · exact w_Mo_expression_b145 hV hC k12 hk12 x1 S h
    · refine g_aload_n (pc := 113) hC (i := 0) (x := (V.2.2.1 0 0)) rfl rfl d_Mo_expression_113 ?_
      refine g_iconst (pc := 114) hC kc_0 d_Mo_expression_114 ?_
      obtain ⟨q115, hq115, h⟩ := Option.bind_eq_some_iff.mp h
      refine g_vv (pc := 115) hC (As := [.int 0]) (st := []) mt_Mo_comesOut lk_Mo_324 rfl (ob_Mo hV) (Nat.le_of_ble_eq_true rfl) ⟨Nat.le_of_ble_eq_true rfl, Nat.le_of_ble_eq_true rfl⟩ rfl d_Mo_expression_115 (c_Mo_comesOut hV hq115) ?_
      refine g_aload_n (pc := 118) hC (i := 0) (x := (V.2.2.1 0 0)) rfl rfl d_Mo_expression_118 ?_
      refine g_dup (pc := 119) hC rfl d_Mo_expression_119 ?_
      refine g_getI (pc := 120) hC fo_Mo_315 (ob_Mo hV) rfl d_Mo_expression_120 ?_
      refine g_iconst (pc := 123) hC kc_1 d_Mo_expression_123 ?_
      refine g_isub (pc := 124) hC d_Mo_expression_124 ?_
      refine g_putI (pc := 125) hC po_Mo_315 (ob_Mo hV) rfl rfl rfl d_Mo_expression_125 ?_
      refine g_letS h (fun S125 h => ?_)
      refine g_aload_n (pc := 128) hC (i := 0) (x := (V.2.2.1 0 0)) rfl rfl d_Mo_expression_128 ?_
      refine g_dup (pc := 129) hC rfl d_Mo_expression_129 ?_
      refine g_getI (pc := 130) hC fo_Mo_242 (ob_Mo hV) rfl d_Mo_expression_130 ?_
      refine g_iconst (pc := 133) hC kc_1 d_Mo_expression_133 ?_
      refine g_isub (pc := 134) hC d_Mo_expression_134 ?_
      refine g_putI (pc := 135) hC po_Mo_242 (ob_Mo hV) rfl rfl rfl d_Mo_expression_135 ?_
      refine g_letS h (fun S135 h => ?_)
      refine g_aload_n (pc := 138) hC (i := 0) (x := (V.2.2.1 0 0)) rfl rfl d_Mo_expression_138 ?_
      obtain ⟨q139, hq139, h⟩ := Option.bind_eq_some_iff.mp h
      refine g_vv (pc := 139) hC (As := []) (st := []) mt_Mo_goesOn lk_Mo_236 rfl (ob_Mo hV) (Nat.le_of_ble_eq_true rfl) ⟨Nat.le_of_ble_eq_true rfl, Nat.le_of_ble_eq_true rfl⟩ rfl d_Mo_expression_139 (c_Mo_goesOn hV hq139) ?_
      refine g_goto (pc := 142) hC (tgt := 96) (by decide) d_Mo_expression_142 ?_
      exact hk96 x1 q139 h
theorem w_Mo_expression_l96 {X : CX} {V : WV} (hV : IsM V) {z : Mem} (hC : Ck X V bc_Mo_expression 3 "SecretWellsModel" none 3 61) (k12 : Int32 → Int32 → Mem → Option (Mem)) (hk12 : ∀ (x1 : Int32) (x2 : Int32) (S : Mem), k12 x1 x2 S = some z → G X V 3 (QV X V z) 12 [some (.ref (V.2.2.1 0 0)), some (.int x1), some (.int x2)] [] S) : ∀ (n : Nat) (x1 : Int32) (S : Mem), f_Mo_expression_l96  k12 n x1 S = some z → G X V 3 (QV X V z) 96 [some (.ref (V.2.2.1 0 0)), some (.int x1), none] [] S := by
  intro n
  induction n with
  | zero =>
    intro x1 S h
    have h : (none : Option (Mem)) = some z := h
    cases h
  | succ n ih =>
    intro x1 S h
    exact w_Mo_expression_b96 hV hC k12 hk12 (f_Mo_expression_l96  k12 n) ih x1 S h
set_option maxRecDepth 20000 in
theorem w_Mo_expression_b23 {X : CX} {V : WV} (hV : IsM V) {z : Mem} (hC : Ck X V bc_Mo_expression 3 "SecretWellsModel" none 3 61) (k12 : Int32 → Int32 → Mem → Option (Mem)) (hk12 : ∀ (x1 : Int32) (x2 : Int32) (S : Mem), k12 x1 x2 S = some z → G X V 3 (QV X V z) 12 [some (.ref (V.2.2.1 0 0)), some (.int x1), some (.int x2)] [] S) (k23 : Int32 → Mem → Option (Mem)) (hk23 : ∀ (x1 : Int32) (S : Mem), k23 x1 S = some z → G X V 3 (QV X V z) 23 [some (.ref (V.2.2.1 0 0)), some (.int x1), none] [] S) (x1 : Int32) (S : Mem) (h : f_Mo_expression_b23  k12 k23 x1 S = some z) : G X V 3 (QV X V z) 23 [some (.ref (V.2.2.1 0 0)), some (.int x1), none] [] S := by
  unfold f_Mo_expression_b23 at h
  refine g_aload_n (pc := 23) hC (i := 0) (x := (V.2.2.1 0 0)) rfl rfl d_Mo_expression_23 ?_
  refine g_bipush (pc := 24) hC kb_6 d_Mo_expression_24 ?_
  obtain ⟨q26, hq26, h⟩ := Option.bind_eq_some_iff.mp h
  refine g_vi (pc := 26) hC (As := [.int 6]) (st := []) mt_Mo_is lk_Mo_233 rfl (ob_Mo hV) (Nat.le_of_ble_eq_true rfl) ⟨Nat.le_of_ble_eq_true rfl, Nat.le_of_ble_eq_true rfl⟩ rfl d_Mo_expression_26 (c_Mo_is hV hq26) ?_
  refine g_if_eq (pc := 29) hC (tgt := 84) (by decide) d_Mo_expression_29 h (fun h => ?_) (fun h => ?_)
  · refine g_aload_n (pc := 84) hC (i := 0) (x := (V.2.2.1 0 0)) rfl rfl d_Mo_expression_84 ?_
    obtain ⟨q85, hq85, h⟩ := Option.bind_eq_some_iff.mp h
    refine g_vv (pc := 85) hC (As := []) (st := []) mt_Mo_unit lk_Mo_321 rfl (ob_Mo hV) (Nat.le_of_ble_eq_true rfl) ⟨Nat.le_of_ble_eq_true rfl, Nat.le_of_ble_eq_true rfl⟩ rfl d_Mo_expression_85 (c_Mo_unit hV hq85) ?_
    refine g_aload_n (pc := 88) hC (i := 0) (x := (V.2.2.1 0 0)) rfl rfl d_Mo_expression_88 ?_
    refine g_getI (pc := 89) hC fo_Mo_215 (ob_Mo hV) rfl d_Mo_expression_89 ?_
    refine g_if_le (pc := 92) hC (tgt := 96) (by decide) d_Mo_expression_92 h (fun h => ?_) (fun h => ?_)
    · exact w_Mo_expression_l96 hV hC k12 hk12 5000 x1 q85 h
    · exact g_vW (pc := 95) hC d_Mo_expression_95 h
  · refine g_aload_n (pc := 32) hC (i := 0) (x := (V.2.2.1 0 0)) rfl rfl d_Mo_expression_32 ?_
    refine g_getI (pc := 33) hC fo_Mo_242 (ob_Mo hV) rfl d_Mo_expression_33 ?_
    refine g_bipush (pc := 36) hC kb_6 d_Mo_expression_36 ?_
    refine g_icmp_ne (pc := 38) hC (tgt := 46) (by decide) d_Mo_expression_38 h (fun h => ?_) (fun h => ?_)
    · exact w_Mo_expression_b46 hV hC k12 hk12 k23 hk23 x1 S h
    · refine g_aload_n (pc := 41) hC (i := 0) (x := (V.2.2.1 0 0)) rfl rfl d_Mo_expression_41 ?_
      refine g_iconst (pc := 42) hC kc_2 d_Mo_expression_42 ?_
      obtain ⟨q43, hq43, h⟩ := Option.bind_eq_some_iff.mp h
      refine g_vv (pc := 43) hC (As := [.int 2]) (st := []) mt_Mo_fail lk_Mo_230 rfl (ob_Mo hV) (Nat.le_of_ble_eq_true rfl) ⟨Nat.le_of_ble_eq_true rfl, Nat.le_of_ble_eq_true rfl⟩ rfl d_Mo_expression_43 (c_Mo_fail hV hq43) ?_
      exact w_Mo_expression_b46 hV hC k12 hk12 k23 hk23 x1 q43 h
theorem w_Mo_expression_l23 {X : CX} {V : WV} (hV : IsM V) {z : Mem} (hC : Ck X V bc_Mo_expression 3 "SecretWellsModel" none 3 61) (k12 : Int32 → Int32 → Mem → Option (Mem)) (hk12 : ∀ (x1 : Int32) (x2 : Int32) (S : Mem), k12 x1 x2 S = some z → G X V 3 (QV X V z) 12 [some (.ref (V.2.2.1 0 0)), some (.int x1), some (.int x2)] [] S) : ∀ (n : Nat) (x1 : Int32) (S : Mem), f_Mo_expression_l23  k12 n x1 S = some z → G X V 3 (QV X V z) 23 [some (.ref (V.2.2.1 0 0)), some (.int x1), none] [] S := by
  intro n
  induction n with
  | zero =>
    intro x1 S h
    have h : (none : Option (Mem)) = some z := h
    cases h
  | succ n ih =>
    intro x1 S h
    exact w_Mo_expression_b23 hV hC k12 hk12 (f_Mo_expression_l23  k12 n) ih x1 S h
set_option maxRecDepth 20000 in
theorem w_Mo_expression_b12 {X : CX} {V : WV} (hV : IsM V) {z : Mem} (hC : Ck X V bc_Mo_expression 3 "SecretWellsModel" none 3 61) (k12 : Int32 → Int32 → Mem → Option (Mem)) (hk12 : ∀ (x1 : Int32) (x2 : Int32) (S : Mem), k12 x1 x2 S = some z → G X V 3 (QV X V z) 12 [some (.ref (V.2.2.1 0 0)), some (.int x1), some (.int x2)] [] S) (x1 : Int32) (x2 : Int32) (S : Mem) (h : f_Mo_expression_b12  k12 x1 x2 S = some z) : G X V 3 (QV X V z) 12 [some (.ref (V.2.2.1 0 0)), some (.int x1), some (.int x2)] [] S := by
  unfold f_Mo_expression_b12 at h
  refine g_iload_n (pc := 12) hC (i := 2) (x := x2) rfl rfl d_Mo_expression_12 ?_
  refine g_if_eq (pc := 13) hC (tgt := 272) (by decide) d_Mo_expression_13 h (fun h => ?_) (fun h => ?_)
  · exact g_vW (pc := 272) hC d_Mo_expression_272 h
  · refine g_aload_n (pc := 16) hC (i := 0) (x := (V.2.2.1 0 0)) rfl rfl d_Mo_expression_16 ?_
    refine g_getI (pc := 17) hC fo_Mo_215 (ob_Mo hV) rfl d_Mo_expression_17 ?_
    refine g_if_ne (pc := 20) hC (tgt := 272) (by decide) d_Mo_expression_20 h (fun h => ?_) (fun h => ?_)
    · exact g_vW (pc := 272) hC d_Mo_expression_272 h
    · refine g_le (lv2 := [some (.ref (V.2.2.1 0 0)), some (.int x1), none]) (⟨rfl, ⟨rfl, trivial⟩⟩) ?_
      exact w_Mo_expression_l23 hV hC k12 hk12 5000 x1 S h
theorem w_Mo_expression_l12 {X : CX} {V : WV} (hV : IsM V) {z : Mem} (hC : Ck X V bc_Mo_expression 3 "SecretWellsModel" none 3 61) : ∀ (n : Nat) (x1 : Int32) (x2 : Int32) (S : Mem), f_Mo_expression_l12  n x1 x2 S = some z → G X V 3 (QV X V z) 12 [some (.ref (V.2.2.1 0 0)), some (.int x1), some (.int x2)] [] S := by
  intro n
  induction n with
  | zero =>
    intro x1 x2 S h
    have h : (none : Option (Mem)) = some z := h
    cases h
  | succ n ih =>
    intro x1 x2 S h
    exact w_Mo_expression_b12 hV hC (f_Mo_expression_l12  n) ih x1 x2 S h
set_option maxRecDepth 20000 in
theorem w_Mo_expression_b0 {X : CX} {V : WV} (hV : IsM V) {z : Mem} (hC : Ck X V bc_Mo_expression 3 "SecretWellsModel" none 3 61) (S : Mem) (h : f_Mo_expression_b0  S = some z) : G X V 3 (QV X V z) 0 [some (.ref (V.2.2.1 0 0)), none, none] [] S := by
  unfold f_Mo_expression_b0 at h
  refine g_aload_n (pc := 0) hC (i := 0) (x := (V.2.2.1 0 0)) rfl rfl d_Mo_expression_0 ?_
  refine g_iconst (pc := 1) hC kc_0 d_Mo_expression_1 ?_
  refine g_putI (pc := 2) hC po_Mo_315 (ob_Mo hV) rfl rfl rfl d_Mo_expression_2 ?_
  refine g_letS h (fun S2 h => ?_)
  refine g_aload_n (pc := 5) hC (i := 0) (x := (V.2.2.1 0 0)) rfl rfl d_Mo_expression_5 ?_
  refine g_getI (pc := 6) hC fo_Mo_242 (ob_Mo hV) rfl d_Mo_expression_6 ?_
  refine g_leti h (fun y9 h => ?_)
  refine s_istore_n (pc := 9) hC (i := 1) rfl (by decide) d_Mo_expression_9 (lv2 := [some (.ref (V.2.2.1 0 0)), some (.int y9), none]) rfl ?_
  refine g_iconst (pc := 10) hC kc_1 d_Mo_expression_10 ?_
  refine s_istore_n (pc := 11) hC (i := 2) rfl (by decide) d_Mo_expression_11 (lv2 := [some (.ref (V.2.2.1 0 0)), some (.int y9), some (.int 1)]) rfl ?_
  exact w_Mo_expression_l12 hV hC 5000 y9 1 S2 h
theorem c_Mo_expression {V : WV} {l : Launch} (hV : IsM V) {S : Mem} {z : Mem} (h : f_Mo_expression S = some z) : CV V l y_Mo_expression bc_Mo_expression 3 none 3 61 [.ref (V.2.2.1 0 0)] S z :=
  ct_v rfl (IsM.ok hV) (Nat.le_of_ble_eq_true rfl) (fun _ _ hC => w_Mo_expression_b0 hV hC S h)
def f_Mo_term_b24 (S : Mem) : Option (Mem) :=
  gIn (S.1 0 42) 260 (letS (sA S 0 47 (S.1 0 42) (S.1 0 48)) (fun S36 =>
  letS (pI S36 0 42 ((S36.1 0 42) + 1)) (fun S44 =>
  some S44)))
def f_Mo_term_b0 (S : Mem) : Option (Mem) :=
  gIn (S.1 0 42) 260 (letS (sA S 0 46 (S.1 0 42) (S.1 0 48)) (fun S12 =>
  if (S12.1 0 13) = 0 then
    Option.bind (f_Mo_expression S12) (fun q21 =>
    f_Mo_term_b24 q21)
  else
    f_Mo_term_b24 S12))
def f_Mo_term (S : Mem) : Option (Mem) := f_Mo_term_b0  S
theorem d_Mo_term_0 : decode bc_Mo_term 0 = .ok (.aload_n 0, 1) := by decide +kernel
theorem d_Mo_term_1 : decode bc_Mo_term 1 = .ok (.getfield 113, 3) := by decide +kernel
theorem d_Mo_term_4 : decode bc_Mo_term 4 = .ok (.aload_n 0, 1) := by decide +kernel
theorem d_Mo_term_5 : decode bc_Mo_term 5 = .ok (.getfield 254, 3) := by decide +kernel
theorem d_Mo_term_8 : decode bc_Mo_term 8 = .ok (.aload_n 0, 1) := by decide +kernel
theorem d_Mo_term_9 : decode bc_Mo_term 9 = .ok (.getfield 257, 3) := by decide +kernel
theorem d_Mo_term_12 : decode bc_Mo_term 12 = .ok (.iastore, 1) := by decide +kernel
theorem d_Mo_term_13 : decode bc_Mo_term 13 = .ok (.aload_n 0, 1) := by decide +kernel
theorem d_Mo_term_14 : decode bc_Mo_term 14 = .ok (.getfield 215, 3) := by decide +kernel
theorem d_Mo_term_17 : decode bc_Mo_term 17 = .ok (.ifCond .ne 7, 3) := by decide +kernel
theorem d_Mo_term_20 : decode bc_Mo_term 20 = .ok (.aload_n 0, 1) := by decide +kernel
theorem d_Mo_term_21 : decode bc_Mo_term 21 = .ok (.invokevirtual 309, 3) := by decide +kernel
theorem d_Mo_term_24 : decode bc_Mo_term 24 = .ok (.aload_n 0, 1) := by decide +kernel
theorem d_Mo_term_25 : decode bc_Mo_term 25 = .ok (.getfield 116, 3) := by decide +kernel
theorem d_Mo_term_28 : decode bc_Mo_term 28 = .ok (.aload_n 0, 1) := by decide +kernel
theorem d_Mo_term_29 : decode bc_Mo_term 29 = .ok (.getfield 254, 3) := by decide +kernel
theorem d_Mo_term_32 : decode bc_Mo_term 32 = .ok (.aload_n 0, 1) := by decide +kernel
theorem d_Mo_term_33 : decode bc_Mo_term 33 = .ok (.getfield 257, 3) := by decide +kernel
theorem d_Mo_term_36 : decode bc_Mo_term 36 = .ok (.iastore, 1) := by decide +kernel
theorem d_Mo_term_37 : decode bc_Mo_term 37 = .ok (.aload_n 0, 1) := by decide +kernel
theorem d_Mo_term_38 : decode bc_Mo_term 38 = .ok (.dup, 1) := by decide +kernel
theorem d_Mo_term_39 : decode bc_Mo_term 39 = .ok (.getfield 254, 3) := by decide +kernel
theorem d_Mo_term_42 : decode bc_Mo_term 42 = .ok (.iconst 1, 1) := by decide +kernel
theorem d_Mo_term_43 : decode bc_Mo_term 43 = .ok (.iadd, 1) := by decide +kernel
theorem d_Mo_term_44 : decode bc_Mo_term 44 = .ok (.putfield 254, 3) := by decide +kernel
theorem d_Mo_term_47 : decode bc_Mo_term 47 = .ok (.return_, 1) := by decide +kernel
set_option maxRecDepth 20000 in
theorem w_Mo_term_b24 {X : CX} {V : WV} (hV : IsM V) {z : Mem} (hC : Ck X V bc_Mo_term 1 "SecretWellsModel" none 4 83) (S : Mem) (h : f_Mo_term_b24  S = some z) : G X V 1 (QV X V z) 24 [some (.ref (V.2.2.1 0 0))] [] S := by
  unfold f_Mo_term_b24 at h
  refine g_aload_n (pc := 24) hC (i := 0) (x := (V.2.2.1 0 0)) rfl rfl d_Mo_term_24 ?_
  refine g_getA (pc := 25) hC fo_Mo_116 (ob_Mo hV) rfl d_Mo_term_25 ?_
  refine g_aload_n (pc := 28) hC (i := 0) (x := (V.2.2.1 0 0)) rfl rfl d_Mo_term_28 ?_
  refine g_getI (pc := 29) hC fo_Mo_254 (ob_Mo hV) rfl d_Mo_term_29 ?_
  refine g_aload_n (pc := 32) hC (i := 0) (x := (V.2.2.1 0 0)) rfl rfl d_Mo_term_32 ?_
  refine g_getI (pc := 33) hC fo_Mo_257 (ob_Mo hV) rfl d_Mo_term_33 ?_
  refine g_iast (pc := 36) hC (ar_Mo_47 hV) d_Mo_term_36 h (fun h => ?_)
  refine g_letS h (fun S36 h => ?_)
  refine g_aload_n (pc := 37) hC (i := 0) (x := (V.2.2.1 0 0)) rfl rfl d_Mo_term_37 ?_
  refine g_dup (pc := 38) hC rfl d_Mo_term_38 ?_
  refine g_getI (pc := 39) hC fo_Mo_254 (ob_Mo hV) rfl d_Mo_term_39 ?_
  refine g_iconst (pc := 42) hC kc_1 d_Mo_term_42 ?_
  refine g_iadd (pc := 43) hC d_Mo_term_43 ?_
  refine g_putI (pc := 44) hC po_Mo_254 (ob_Mo hV) rfl rfl rfl d_Mo_term_44 ?_
  refine g_letS h (fun S44 h => ?_)
  exact g_vW (pc := 47) hC d_Mo_term_47 h
set_option maxRecDepth 20000 in
theorem w_Mo_term_b0 {X : CX} {V : WV} (hV : IsM V) {z : Mem} (hC : Ck X V bc_Mo_term 1 "SecretWellsModel" none 4 83) (S : Mem) (h : f_Mo_term_b0  S = some z) : G X V 1 (QV X V z) 0 [some (.ref (V.2.2.1 0 0))] [] S := by
  unfold f_Mo_term_b0 at h
  refine g_aload_n (pc := 0) hC (i := 0) (x := (V.2.2.1 0 0)) rfl rfl d_Mo_term_0 ?_
  refine g_getA (pc := 1) hC fo_Mo_113 (ob_Mo hV) rfl d_Mo_term_1 ?_
  refine g_aload_n (pc := 4) hC (i := 0) (x := (V.2.2.1 0 0)) rfl rfl d_Mo_term_4 ?_
  refine g_getI (pc := 5) hC fo_Mo_254 (ob_Mo hV) rfl d_Mo_term_5 ?_
  refine g_aload_n (pc := 8) hC (i := 0) (x := (V.2.2.1 0 0)) rfl rfl d_Mo_term_8 ?_
  refine g_getI (pc := 9) hC fo_Mo_257 (ob_Mo hV) rfl d_Mo_term_9 ?_
  refine g_iast (pc := 12) hC (ar_Mo_46 hV) d_Mo_term_12 h (fun h => ?_)
  refine g_letS h (fun S12 h => ?_)
  refine g_aload_n (pc := 13) hC (i := 0) (x := (V.2.2.1 0 0)) rfl rfl d_Mo_term_13 ?_
  refine g_getI (pc := 14) hC fo_Mo_215 (ob_Mo hV) rfl d_Mo_term_14 ?_
  refine g_if_ne (pc := 17) hC (tgt := 24) (by decide) d_Mo_term_17 h (fun h => ?_) (fun h => ?_)
  · exact w_Mo_term_b24 hV hC S12 h
  · refine g_aload_n (pc := 20) hC (i := 0) (x := (V.2.2.1 0 0)) rfl rfl d_Mo_term_20 ?_
    obtain ⟨q21, hq21, h⟩ := Option.bind_eq_some_iff.mp h
    refine g_vv (pc := 21) hC (As := []) (st := []) mt_Mo_expression lk_Mo_309 rfl (ob_Mo hV) (Nat.le_of_ble_eq_true rfl) ⟨Nat.le_of_ble_eq_true rfl, Nat.le_of_ble_eq_true rfl⟩ rfl d_Mo_term_21 (c_Mo_expression hV hq21) ?_
    exact w_Mo_term_b24 hV hC q21 h
theorem c_Mo_term {V : WV} {l : Launch} (hV : IsM V) {S : Mem} {z : Mem} (h : f_Mo_term S = some z) : CV V l y_Mo_term bc_Mo_term 1 none 4 83 [.ref (V.2.2.1 0 0)] S z :=
  ct_v rfl (IsM.ok hV) (Nat.le_of_ble_eq_true rfl) (fun _ _ hC => w_Mo_term_b0 hV hC S h)
def f_Mo_tellLaw_b110 (k12 : Int32 → Int32 → Int32 → Mem → Option (Mem)) (x1 : Int32) (x2 : Int32) (x3 : Int32) (S : Mem) : Option (Mem) :=
  Option.bind (f_Mo_must 32 S) (fun q113 =>
  Option.bind (f_Mo_term q113) (fun q117 =>
  Option.bind (f_Mo_must 33 q117) (fun q123 =>
  k12 x1 x2 x3 q123)))
def f_Mo_tellLaw_b38 (k12 : Int32 → Int32 → Int32 → Mem → Option (Mem)) (x1 : Int32) (x2 : Int32) (x3 : Int32) (S : Mem) : Option (Mem) :=
  if (S.1 0 13) ≤ 0 then
    Option.bind (f_Mo_goesOn S) (fun q50 =>
    gIn (q50.1 0 42) 260 (letS (sA q50 0 43 (q50.1 0 42) (vp_nar .boolean 1)) (fun S62 =>
    gIn (S62.1 0 42) 260 (letS (sA S62 0 44 (S62.1 0 42) (S62.1 0 48)) (fun S75 =>
    Option.bind (f_Mo_expression S75) (fun q77 =>
    Option.bind (f_Mo_must 13 q77) (fun q83 =>
    gIn (q83.1 0 42) 260 (letS (sA q83 0 45 (q83.1 0 42) (q83.1 0 48)) (fun S98 =>
    if (S98.1 0 13) = 0 then
      Option.bind (f_Mo_expression S98) (fun q107 =>
      f_Mo_tellLaw_b110 k12 x1 x2 (x3 + 1) q107)
    else
      f_Mo_tellLaw_b110 k12 x1 x2 (x3 + 1) S98)))))))))
  else
    some S
def f_Mo_tellLaw_b129 (x1 : Int32) (x2 : Int32) (S : Mem) : Option (Mem) :=
  gIn (S.1 0 42) 260 (letS (sA S 0 43 (S.1 0 42) (vp_nar .boolean 0)) (fun S138 =>
  Option.bind (f_Mo_term S138) (fun q140 =>
  Option.bind (f_Mo_must 4 q140) (fun q145 =>
  if (q145.1 0 13) ≤ 0 then
    gIn ((3 * (q145.1 0 19)) + x1) 6 (letS (sA q145 0 40 ((3 * (q145.1 0 19)) + x1) x2) (fun S169 =>
    gIn ((3 * (S169.1 0 19)) + x1) 6 (letS (sA S169 0 41 ((3 * (S169.1 0 19)) + x1) (S169.1 0 42)) (fun S186 =>
    some S186))))
  else
    some q145))))
def f_Mo_tellLaw_b12 (k12 : Int32 → Int32 → Int32 → Mem → Option (Mem)) (x1 : Int32) (x2 : Int32) (x3 : Int32) (S : Mem) : Option (Mem) :=
  if (S.1 0 13) = 0 then
    Option.bind (f_Mo_is 31 S) (fun q22 =>
    if q22 = 0 then
      f_Mo_tellLaw_b129 x1 x2 S
    else
      if x3 = 4 then
        Option.bind (f_Mo_fail 2 S) (fun q35 =>
        f_Mo_tellLaw_b38 k12 x1 x2 x3 q35)
      else
        f_Mo_tellLaw_b38 k12 x1 x2 x3 S)
  else
    f_Mo_tellLaw_b129 x1 x2 S
def f_Mo_tellLaw_l12 : Nat → Int32 → Int32 → Int32 → Mem → Option (Mem)
  | 0 => fun _ _ _ _ => none
  | n + 1 => f_Mo_tellLaw_b12  (f_Mo_tellLaw_l12  n)
def f_Mo_tellLaw_b0 (x1 : Int32) (S : Mem) : Option (Mem) :=
  Option.bind (f_Mo_must 5 S) (fun q2 =>
  letS (q2.1 0 42) (fun y9 =>
  f_Mo_tellLaw_l12 5000 x1 y9 0 q2))
def f_Mo_tellLaw (x1 : Int32) (S : Mem) : Option (Mem) := f_Mo_tellLaw_b0  x1 S
theorem d_Mo_tellLaw_0 : decode bc_Mo_tellLaw 0 = .ok (.aload_n 0, 1) := by decide +kernel
theorem d_Mo_tellLaw_1 : decode bc_Mo_tellLaw 1 = .ok (.iconst 5, 1) := by decide +kernel
theorem d_Mo_tellLaw_2 : decode bc_Mo_tellLaw 2 = .ok (.invokevirtual 289, 3) := by decide +kernel
theorem d_Mo_tellLaw_5 : decode bc_Mo_tellLaw 5 = .ok (.aload_n 0, 1) := by decide +kernel
theorem d_Mo_tellLaw_6 : decode bc_Mo_tellLaw 6 = .ok (.getfield 254, 3) := by decide +kernel
theorem d_Mo_tellLaw_9 : decode bc_Mo_tellLaw 9 = .ok (.istore_n 2, 1) := by decide +kernel
theorem d_Mo_tellLaw_10 : decode bc_Mo_tellLaw 10 = .ok (.iconst 0, 1) := by decide +kernel
theorem d_Mo_tellLaw_11 : decode bc_Mo_tellLaw 11 = .ok (.istore_n 3, 1) := by decide +kernel
theorem d_Mo_tellLaw_12 : decode bc_Mo_tellLaw 12 = .ok (.aload_n 0, 1) := by decide +kernel
theorem d_Mo_tellLaw_13 : decode bc_Mo_tellLaw 13 = .ok (.getfield 215, 3) := by decide +kernel
theorem d_Mo_tellLaw_16 : decode bc_Mo_tellLaw 16 = .ok (.ifCond .ne 113, 3) := by decide +kernel
theorem d_Mo_tellLaw_19 : decode bc_Mo_tellLaw 19 = .ok (.aload_n 0, 1) := by decide +kernel
theorem d_Mo_tellLaw_20 : decode bc_Mo_tellLaw 20 = .ok (.bipush 31, 2) := by decide +kernel
theorem d_Mo_tellLaw_22 : decode bc_Mo_tellLaw 22 = .ok (.invokevirtual 233, 3) := by decide +kernel
theorem d_Mo_tellLaw_25 : decode bc_Mo_tellLaw 25 = .ok (.ifCond .eq 104, 3) := by decide +kernel
theorem d_Mo_tellLaw_28 : decode bc_Mo_tellLaw 28 = .ok (.iload_n 3, 1) := by decide +kernel
theorem d_Mo_tellLaw_29 : decode bc_Mo_tellLaw 29 = .ok (.iconst 4, 1) := by decide +kernel
theorem d_Mo_tellLaw_30 : decode bc_Mo_tellLaw 30 = .ok (.if_icmp .ne 8, 3) := by decide +kernel
theorem d_Mo_tellLaw_33 : decode bc_Mo_tellLaw 33 = .ok (.aload_n 0, 1) := by decide +kernel
theorem d_Mo_tellLaw_34 : decode bc_Mo_tellLaw 34 = .ok (.iconst 2, 1) := by decide +kernel
theorem d_Mo_tellLaw_35 : decode bc_Mo_tellLaw 35 = .ok (.invokevirtual 230, 3) := by decide +kernel
theorem d_Mo_tellLaw_38 : decode bc_Mo_tellLaw 38 = .ok (.aload_n 0, 1) := by decide +kernel
theorem d_Mo_tellLaw_39 : decode bc_Mo_tellLaw 39 = .ok (.getfield 215, 3) := by decide +kernel
theorem d_Mo_tellLaw_42 : decode bc_Mo_tellLaw 42 = .ok (.ifCond .le 4, 3) := by decide +kernel
theorem d_Mo_tellLaw_45 : decode bc_Mo_tellLaw 45 = .ok (.return_, 1) := by decide +kernel
theorem d_Mo_tellLaw_46 : decode bc_Mo_tellLaw 46 = .ok (.iinc 3 1, 3) := by decide +kernel
theorem d_Mo_tellLaw_49 : decode bc_Mo_tellLaw 49 = .ok (.aload_n 0, 1) := by decide +kernel
theorem d_Mo_tellLaw_50 : decode bc_Mo_tellLaw 50 = .ok (.invokevirtual 236, 3) := by decide +kernel
theorem d_Mo_tellLaw_53 : decode bc_Mo_tellLaw 53 = .ok (.aload_n 0, 1) := by decide +kernel
theorem d_Mo_tellLaw_54 : decode bc_Mo_tellLaw 54 = .ok (.getfield 104, 3) := by decide +kernel
theorem d_Mo_tellLaw_57 : decode bc_Mo_tellLaw 57 = .ok (.aload_n 0, 1) := by decide +kernel
theorem d_Mo_tellLaw_58 : decode bc_Mo_tellLaw 58 = .ok (.getfield 254, 3) := by decide +kernel
theorem d_Mo_tellLaw_61 : decode bc_Mo_tellLaw 61 = .ok (.iconst 1, 1) := by decide +kernel
theorem d_Mo_tellLaw_62 : decode bc_Mo_tellLaw 62 = .ok (.bastore, 1) := by decide +kernel
theorem d_Mo_tellLaw_63 : decode bc_Mo_tellLaw 63 = .ok (.aload_n 0, 1) := by decide +kernel
theorem d_Mo_tellLaw_64 : decode bc_Mo_tellLaw 64 = .ok (.getfield 107, 3) := by decide +kernel
theorem d_Mo_tellLaw_67 : decode bc_Mo_tellLaw 67 = .ok (.aload_n 0, 1) := by decide +kernel
theorem d_Mo_tellLaw_68 : decode bc_Mo_tellLaw 68 = .ok (.getfield 254, 3) := by decide +kernel
theorem d_Mo_tellLaw_71 : decode bc_Mo_tellLaw 71 = .ok (.aload_n 0, 1) := by decide +kernel
theorem d_Mo_tellLaw_72 : decode bc_Mo_tellLaw 72 = .ok (.getfield 257, 3) := by decide +kernel
theorem d_Mo_tellLaw_75 : decode bc_Mo_tellLaw 75 = .ok (.iastore, 1) := by decide +kernel
theorem d_Mo_tellLaw_76 : decode bc_Mo_tellLaw 76 = .ok (.aload_n 0, 1) := by decide +kernel
theorem d_Mo_tellLaw_77 : decode bc_Mo_tellLaw 77 = .ok (.invokevirtual 309, 3) := by decide +kernel
theorem d_Mo_tellLaw_80 : decode bc_Mo_tellLaw 80 = .ok (.aload_n 0, 1) := by decide +kernel
theorem d_Mo_tellLaw_81 : decode bc_Mo_tellLaw 81 = .ok (.bipush 13, 2) := by decide +kernel
theorem d_Mo_tellLaw_83 : decode bc_Mo_tellLaw 83 = .ok (.invokevirtual 289, 3) := by decide +kernel
theorem d_Mo_tellLaw_86 : decode bc_Mo_tellLaw 86 = .ok (.aload_n 0, 1) := by decide +kernel
theorem d_Mo_tellLaw_87 : decode bc_Mo_tellLaw 87 = .ok (.getfield 110, 3) := by decide +kernel
theorem d_Mo_tellLaw_90 : decode bc_Mo_tellLaw 90 = .ok (.aload_n 0, 1) := by decide +kernel
theorem d_Mo_tellLaw_91 : decode bc_Mo_tellLaw 91 = .ok (.getfield 254, 3) := by decide +kernel
theorem d_Mo_tellLaw_94 : decode bc_Mo_tellLaw 94 = .ok (.aload_n 0, 1) := by decide +kernel
theorem d_Mo_tellLaw_95 : decode bc_Mo_tellLaw 95 = .ok (.getfield 257, 3) := by decide +kernel
theorem d_Mo_tellLaw_98 : decode bc_Mo_tellLaw 98 = .ok (.iastore, 1) := by decide +kernel
theorem d_Mo_tellLaw_99 : decode bc_Mo_tellLaw 99 = .ok (.aload_n 0, 1) := by decide +kernel
theorem d_Mo_tellLaw_100 : decode bc_Mo_tellLaw 100 = .ok (.getfield 215, 3) := by decide +kernel
theorem d_Mo_tellLaw_103 : decode bc_Mo_tellLaw 103 = .ok (.ifCond .ne 7, 3) := by decide +kernel
theorem d_Mo_tellLaw_106 : decode bc_Mo_tellLaw 106 = .ok (.aload_n 0, 1) := by decide +kernel
theorem d_Mo_tellLaw_107 : decode bc_Mo_tellLaw 107 = .ok (.invokevirtual 309, 3) := by decide +kernel
theorem d_Mo_tellLaw_110 : decode bc_Mo_tellLaw 110 = .ok (.aload_n 0, 1) := by decide +kernel
theorem d_Mo_tellLaw_111 : decode bc_Mo_tellLaw 111 = .ok (.bipush 32, 2) := by decide +kernel
theorem d_Mo_tellLaw_113 : decode bc_Mo_tellLaw 113 = .ok (.invokevirtual 289, 3) := by decide +kernel
theorem d_Mo_tellLaw_116 : decode bc_Mo_tellLaw 116 = .ok (.aload_n 0, 1) := by decide +kernel
theorem d_Mo_tellLaw_117 : decode bc_Mo_tellLaw 117 = .ok (.invokevirtual 312, 3) := by decide +kernel
theorem d_Mo_tellLaw_120 : decode bc_Mo_tellLaw 120 = .ok (.aload_n 0, 1) := by decide +kernel
theorem d_Mo_tellLaw_121 : decode bc_Mo_tellLaw 121 = .ok (.bipush 33, 2) := by decide +kernel
theorem d_Mo_tellLaw_123 : decode bc_Mo_tellLaw 123 = .ok (.invokevirtual 289, 3) := by decide +kernel
theorem d_Mo_tellLaw_126 : decode bc_Mo_tellLaw 126 = .ok (.goto (-114), 3) := by decide +kernel
theorem d_Mo_tellLaw_129 : decode bc_Mo_tellLaw 129 = .ok (.aload_n 0, 1) := by decide +kernel
theorem d_Mo_tellLaw_130 : decode bc_Mo_tellLaw 130 = .ok (.getfield 104, 3) := by decide +kernel
theorem d_Mo_tellLaw_133 : decode bc_Mo_tellLaw 133 = .ok (.aload_n 0, 1) := by decide +kernel
theorem d_Mo_tellLaw_134 : decode bc_Mo_tellLaw 134 = .ok (.getfield 254, 3) := by decide +kernel
theorem d_Mo_tellLaw_137 : decode bc_Mo_tellLaw 137 = .ok (.iconst 0, 1) := by decide +kernel
theorem d_Mo_tellLaw_138 : decode bc_Mo_tellLaw 138 = .ok (.bastore, 1) := by decide +kernel
theorem d_Mo_tellLaw_139 : decode bc_Mo_tellLaw 139 = .ok (.aload_n 0, 1) := by decide +kernel
theorem d_Mo_tellLaw_140 : decode bc_Mo_tellLaw 140 = .ok (.invokevirtual 312, 3) := by decide +kernel
theorem d_Mo_tellLaw_143 : decode bc_Mo_tellLaw 143 = .ok (.aload_n 0, 1) := by decide +kernel
theorem d_Mo_tellLaw_144 : decode bc_Mo_tellLaw 144 = .ok (.iconst 4, 1) := by decide +kernel
theorem d_Mo_tellLaw_145 : decode bc_Mo_tellLaw 145 = .ok (.invokevirtual 289, 3) := by decide +kernel
theorem d_Mo_tellLaw_148 : decode bc_Mo_tellLaw 148 = .ok (.aload_n 0, 1) := by decide +kernel
theorem d_Mo_tellLaw_149 : decode bc_Mo_tellLaw 149 = .ok (.getfield 215, 3) := by decide +kernel
theorem d_Mo_tellLaw_152 : decode bc_Mo_tellLaw 152 = .ok (.ifCond .le 4, 3) := by decide +kernel
theorem d_Mo_tellLaw_155 : decode bc_Mo_tellLaw 155 = .ok (.return_, 1) := by decide +kernel
theorem d_Mo_tellLaw_156 : decode bc_Mo_tellLaw 156 = .ok (.aload_n 0, 1) := by decide +kernel
theorem d_Mo_tellLaw_157 : decode bc_Mo_tellLaw 157 = .ok (.getfield 98, 3) := by decide +kernel
theorem d_Mo_tellLaw_160 : decode bc_Mo_tellLaw 160 = .ok (.iconst 3, 1) := by decide +kernel
theorem d_Mo_tellLaw_161 : decode bc_Mo_tellLaw 161 = .ok (.aload_n 0, 1) := by decide +kernel
theorem d_Mo_tellLaw_162 : decode bc_Mo_tellLaw 162 = .ok (.getfield 248, 3) := by decide +kernel
theorem d_Mo_tellLaw_165 : decode bc_Mo_tellLaw 165 = .ok (.imul, 1) := by decide +kernel
theorem d_Mo_tellLaw_166 : decode bc_Mo_tellLaw 166 = .ok (.iload_n 1, 1) := by decide +kernel
theorem d_Mo_tellLaw_167 : decode bc_Mo_tellLaw 167 = .ok (.iadd, 1) := by decide +kernel
theorem d_Mo_tellLaw_168 : decode bc_Mo_tellLaw 168 = .ok (.iload_n 2, 1) := by decide +kernel
theorem d_Mo_tellLaw_169 : decode bc_Mo_tellLaw 169 = .ok (.iastore, 1) := by decide +kernel
theorem d_Mo_tellLaw_170 : decode bc_Mo_tellLaw 170 = .ok (.aload_n 0, 1) := by decide +kernel
theorem d_Mo_tellLaw_171 : decode bc_Mo_tellLaw 171 = .ok (.getfield 101, 3) := by decide +kernel
theorem d_Mo_tellLaw_174 : decode bc_Mo_tellLaw 174 = .ok (.iconst 3, 1) := by decide +kernel
theorem d_Mo_tellLaw_175 : decode bc_Mo_tellLaw 175 = .ok (.aload_n 0, 1) := by decide +kernel
theorem d_Mo_tellLaw_176 : decode bc_Mo_tellLaw 176 = .ok (.getfield 248, 3) := by decide +kernel
theorem d_Mo_tellLaw_179 : decode bc_Mo_tellLaw 179 = .ok (.imul, 1) := by decide +kernel
theorem d_Mo_tellLaw_180 : decode bc_Mo_tellLaw 180 = .ok (.iload_n 1, 1) := by decide +kernel
theorem d_Mo_tellLaw_181 : decode bc_Mo_tellLaw 181 = .ok (.iadd, 1) := by decide +kernel
theorem d_Mo_tellLaw_182 : decode bc_Mo_tellLaw 182 = .ok (.aload_n 0, 1) := by decide +kernel
theorem d_Mo_tellLaw_183 : decode bc_Mo_tellLaw 183 = .ok (.getfield 254, 3) := by decide +kernel
theorem d_Mo_tellLaw_186 : decode bc_Mo_tellLaw 186 = .ok (.iastore, 1) := by decide +kernel
theorem d_Mo_tellLaw_187 : decode bc_Mo_tellLaw 187 = .ok (.return_, 1) := by decide +kernel
set_option maxRecDepth 20000 in
theorem w_Mo_tellLaw_b110 {X : CX} {V : WV} (hV : IsM V) {z : Mem} (hC : Ck X V bc_Mo_tellLaw 4 "SecretWellsModel" none 5 103) (k12 : Int32 → Int32 → Int32 → Mem → Option (Mem)) (hk12 : ∀ (x1 : Int32) (x2 : Int32) (x3 : Int32) (S : Mem), k12 x1 x2 x3 S = some z → G X V 4 (QV X V z) 12 [some (.ref (V.2.2.1 0 0)), some (.int x1), some (.int x2), some (.int x3)] [] S) (x1 : Int32) (x2 : Int32) (x3 : Int32) (S : Mem) (h : f_Mo_tellLaw_b110  k12 x1 x2 x3 S = some z) : G X V 4 (QV X V z) 110 [some (.ref (V.2.2.1 0 0)), some (.int x1), some (.int x2), some (.int x3)] [] S := by
  unfold f_Mo_tellLaw_b110 at h
  refine g_aload_n (pc := 110) hC (i := 0) (x := (V.2.2.1 0 0)) rfl rfl d_Mo_tellLaw_110 ?_
  refine g_bipush (pc := 111) hC kb_32 d_Mo_tellLaw_111 ?_
  obtain ⟨q113, hq113, h⟩ := Option.bind_eq_some_iff.mp h
  refine g_vv (pc := 113) hC (As := [.int 32]) (st := []) mt_Mo_must lk_Mo_289 rfl (ob_Mo hV) (Nat.le_of_ble_eq_true rfl) ⟨Nat.le_of_ble_eq_true rfl, Nat.le_of_ble_eq_true rfl⟩ rfl d_Mo_tellLaw_113 (c_Mo_must hV hq113) ?_
  refine g_aload_n (pc := 116) hC (i := 0) (x := (V.2.2.1 0 0)) rfl rfl d_Mo_tellLaw_116 ?_
  obtain ⟨q117, hq117, h⟩ := Option.bind_eq_some_iff.mp h
  refine g_vv (pc := 117) hC (As := []) (st := []) mt_Mo_term lk_Mo_312 rfl (ob_Mo hV) (Nat.le_of_ble_eq_true rfl) ⟨Nat.le_of_ble_eq_true rfl, Nat.le_of_ble_eq_true rfl⟩ rfl d_Mo_tellLaw_117 (c_Mo_term hV hq117) ?_
  refine g_aload_n (pc := 120) hC (i := 0) (x := (V.2.2.1 0 0)) rfl rfl d_Mo_tellLaw_120 ?_
  refine g_bipush (pc := 121) hC kb_33 d_Mo_tellLaw_121 ?_
  obtain ⟨q123, hq123, h⟩ := Option.bind_eq_some_iff.mp h
  refine g_vv (pc := 123) hC (As := [.int 33]) (st := []) mt_Mo_must lk_Mo_289 rfl (ob_Mo hV) (Nat.le_of_ble_eq_true rfl) ⟨Nat.le_of_ble_eq_true rfl, Nat.le_of_ble_eq_true rfl⟩ rfl d_Mo_tellLaw_123 (c_Mo_must hV hq123) ?_
  refine g_goto (pc := 126) hC (tgt := 12) (by decide) d_Mo_tellLaw_126 ?_
  exact hk12 x1 x2 x3 q123 h
set_option maxRecDepth 20000 in
theorem w_Mo_tellLaw_b38 {X : CX} {V : WV} (hV : IsM V) {z : Mem} (hC : Ck X V bc_Mo_tellLaw 4 "SecretWellsModel" none 5 103) (k12 : Int32 → Int32 → Int32 → Mem → Option (Mem)) (hk12 : ∀ (x1 : Int32) (x2 : Int32) (x3 : Int32) (S : Mem), k12 x1 x2 x3 S = some z → G X V 4 (QV X V z) 12 [some (.ref (V.2.2.1 0 0)), some (.int x1), some (.int x2), some (.int x3)] [] S) (x1 : Int32) (x2 : Int32) (x3 : Int32) (S : Mem) (h : f_Mo_tellLaw_b38  k12 x1 x2 x3 S = some z) : G X V 4 (QV X V z) 38 [some (.ref (V.2.2.1 0 0)), some (.int x1), some (.int x2), some (.int x3)] [] S := by
  unfold f_Mo_tellLaw_b38 at h
  refine g_aload_n (pc := 38) hC (i := 0) (x := (V.2.2.1 0 0)) rfl rfl d_Mo_tellLaw_38 ?_
  refine g_getI (pc := 39) hC fo_Mo_215 (ob_Mo hV) rfl d_Mo_tellLaw_39 ?_
  refine g_if_le (pc := 42) hC (tgt := 46) (by decide) d_Mo_tellLaw_42 h (fun h => ?_) (fun h => ?_)
  · refine s_iinc (pc := 46) hC (i := 3) (x := x3) (v := x3 + 1) rfl (by rw [kc_1]) (by decide) d_Mo_tellLaw_46 (lv2 := [some (.ref (V.2.2.1 0 0)), some (.int x1), some (.int x2), some (.int (x3 + 1))]) rfl ?_
    refine g_aload_n (pc := 49) hC (i := 0) (x := (V.2.2.1 0 0)) rfl rfl d_Mo_tellLaw_49 ?_
    obtain ⟨q50, hq50, h⟩ := Option.bind_eq_some_iff.mp h
    refine g_vv (pc := 50) hC (As := []) (st := []) mt_Mo_goesOn lk_Mo_236 rfl (ob_Mo hV) (Nat.le_of_ble_eq_true rfl) ⟨Nat.le_of_ble_eq_true rfl, Nat.le_of_ble_eq_true rfl⟩ rfl d_Mo_tellLaw_50 (c_Mo_goesOn hV hq50) ?_
    refine g_aload_n (pc := 53) hC (i := 0) (x := (V.2.2.1 0 0)) rfl rfl d_Mo_tellLaw_53 ?_
    refine g_getA (pc := 54) hC fo_Mo_104 (ob_Mo hV) rfl d_Mo_tellLaw_54 ?_
    refine g_aload_n (pc := 57) hC (i := 0) (x := (V.2.2.1 0 0)) rfl rfl d_Mo_tellLaw_57 ?_
    refine g_getI (pc := 58) hC fo_Mo_254 (ob_Mo hV) rfl d_Mo_tellLaw_58 ?_
    refine g_iconst (pc := 61) hC kc_1 d_Mo_tellLaw_61 ?_
    refine g_zast (pc := 62) hC (ar_Mo_43 hV) d_Mo_tellLaw_62 h (fun h => ?_)
    refine g_letS h (fun S62 h => ?_)
    refine g_aload_n (pc := 63) hC (i := 0) (x := (V.2.2.1 0 0)) rfl rfl d_Mo_tellLaw_63 ?_
    refine g_getA (pc := 64) hC fo_Mo_107 (ob_Mo hV) rfl d_Mo_tellLaw_64 ?_
    refine g_aload_n (pc := 67) hC (i := 0) (x := (V.2.2.1 0 0)) rfl rfl d_Mo_tellLaw_67 ?_
    refine g_getI (pc := 68) hC fo_Mo_254 (ob_Mo hV) rfl d_Mo_tellLaw_68 ?_
    refine g_aload_n (pc := 71) hC (i := 0) (x := (V.2.2.1 0 0)) rfl rfl d_Mo_tellLaw_71 ?_
    refine g_getI (pc := 72) hC fo_Mo_257 (ob_Mo hV) rfl d_Mo_tellLaw_72 ?_
    refine g_iast (pc := 75) hC (ar_Mo_44 hV) d_Mo_tellLaw_75 h (fun h => ?_)
    refine g_letS h (fun S75 h => ?_)
    refine g_aload_n (pc := 76) hC (i := 0) (x := (V.2.2.1 0 0)) rfl rfl d_Mo_tellLaw_76 ?_
    obtain ⟨q77, hq77, h⟩ := Option.bind_eq_some_iff.mp h
    refine g_vv (pc := 77) hC (As := []) (st := []) mt_Mo_expression lk_Mo_309 rfl (ob_Mo hV) (Nat.le_of_ble_eq_true rfl) ⟨Nat.le_of_ble_eq_true rfl, Nat.le_of_ble_eq_true rfl⟩ rfl d_Mo_tellLaw_77 (c_Mo_expression hV hq77) ?_
    refine g_aload_n (pc := 80) hC (i := 0) (x := (V.2.2.1 0 0)) rfl rfl d_Mo_tellLaw_80 ?_
    refine g_bipush (pc := 81) hC kb_13 d_Mo_tellLaw_81 ?_
    obtain ⟨q83, hq83, h⟩ := Option.bind_eq_some_iff.mp h
    refine g_vv (pc := 83) hC (As := [.int 13]) (st := []) mt_Mo_must lk_Mo_289 rfl (ob_Mo hV) (Nat.le_of_ble_eq_true rfl) ⟨Nat.le_of_ble_eq_true rfl, Nat.le_of_ble_eq_true rfl⟩ rfl d_Mo_tellLaw_83 (c_Mo_must hV hq83) ?_
    refine g_aload_n (pc := 86) hC (i := 0) (x := (V.2.2.1 0 0)) rfl rfl d_Mo_tellLaw_86 ?_
    refine g_getA (pc := 87) hC fo_Mo_110 (ob_Mo hV) rfl d_Mo_tellLaw_87 ?_
    refine g_aload_n (pc := 90) hC (i := 0) (x := (V.2.2.1 0 0)) rfl rfl d_Mo_tellLaw_90 ?_
    refine g_getI (pc := 91) hC fo_Mo_254 (ob_Mo hV) rfl d_Mo_tellLaw_91 ?_
    refine g_aload_n (pc := 94) hC (i := 0) (x := (V.2.2.1 0 0)) rfl rfl d_Mo_tellLaw_94 ?_
    refine g_getI (pc := 95) hC fo_Mo_257 (ob_Mo hV) rfl d_Mo_tellLaw_95 ?_
    refine g_iast (pc := 98) hC (ar_Mo_45 hV) d_Mo_tellLaw_98 h (fun h => ?_)
    refine g_letS h (fun S98 h => ?_)
    refine g_aload_n (pc := 99) hC (i := 0) (x := (V.2.2.1 0 0)) rfl rfl d_Mo_tellLaw_99 ?_
    refine g_getI (pc := 100) hC fo_Mo_215 (ob_Mo hV) rfl d_Mo_tellLaw_100 ?_
    refine g_if_ne (pc := 103) hC (tgt := 110) (by decide) d_Mo_tellLaw_103 h (fun h => ?_) (fun h => ?_)
    · exact w_Mo_tellLaw_b110 hV hC k12 hk12 x1 x2 (x3 + 1) S98 h
    · refine g_aload_n (pc := 106) hC (i := 0) (x := (V.2.2.1 0 0)) rfl rfl d_Mo_tellLaw_106 ?_
      obtain ⟨q107, hq107, h⟩ := Option.bind_eq_some_iff.mp h
      refine g_vv (pc := 107) hC (As := []) (st := []) mt_Mo_expression lk_Mo_309 rfl (ob_Mo hV) (Nat.le_of_ble_eq_true rfl) ⟨Nat.le_of_ble_eq_true rfl, Nat.le_of_ble_eq_true rfl⟩ rfl d_Mo_tellLaw_107 (c_Mo_expression hV hq107) ?_
      exact w_Mo_tellLaw_b110 hV hC k12 hk12 x1 x2 (x3 + 1) q107 h
  · exact g_vW (pc := 45) hC d_Mo_tellLaw_45 h
set_option maxRecDepth 20000 in
theorem w_Mo_tellLaw_b129 {X : CX} {V : WV} (hV : IsM V) {z : Mem} (hC : Ck X V bc_Mo_tellLaw 4 "SecretWellsModel" none 5 103) (x1 : Int32) (x2 : Int32) (S : Mem) (h : f_Mo_tellLaw_b129  x1 x2 S = some z) : G X V 4 (QV X V z) 129 [some (.ref (V.2.2.1 0 0)), some (.int x1), some (.int x2), none] [] S := by
  unfold f_Mo_tellLaw_b129 at h
  refine g_aload_n (pc := 129) hC (i := 0) (x := (V.2.2.1 0 0)) rfl rfl d_Mo_tellLaw_129 ?_
  refine g_getA (pc := 130) hC fo_Mo_104 (ob_Mo hV) rfl d_Mo_tellLaw_130 ?_
  refine g_aload_n (pc := 133) hC (i := 0) (x := (V.2.2.1 0 0)) rfl rfl d_Mo_tellLaw_133 ?_
  refine g_getI (pc := 134) hC fo_Mo_254 (ob_Mo hV) rfl d_Mo_tellLaw_134 ?_
  refine g_iconst (pc := 137) hC kc_0 d_Mo_tellLaw_137 ?_
  refine g_zast (pc := 138) hC (ar_Mo_43 hV) d_Mo_tellLaw_138 h (fun h => ?_)
  refine g_letS h (fun S138 h => ?_)
  refine g_aload_n (pc := 139) hC (i := 0) (x := (V.2.2.1 0 0)) rfl rfl d_Mo_tellLaw_139 ?_
  obtain ⟨q140, hq140, h⟩ := Option.bind_eq_some_iff.mp h
  refine g_vv (pc := 140) hC (As := []) (st := []) mt_Mo_term lk_Mo_312 rfl (ob_Mo hV) (Nat.le_of_ble_eq_true rfl) ⟨Nat.le_of_ble_eq_true rfl, Nat.le_of_ble_eq_true rfl⟩ rfl d_Mo_tellLaw_140 (c_Mo_term hV hq140) ?_
  refine g_aload_n (pc := 143) hC (i := 0) (x := (V.2.2.1 0 0)) rfl rfl d_Mo_tellLaw_143 ?_
  refine g_iconst (pc := 144) hC kc_4 d_Mo_tellLaw_144 ?_
  obtain ⟨q145, hq145, h⟩ := Option.bind_eq_some_iff.mp h
  refine g_vv (pc := 145) hC (As := [.int 4]) (st := []) mt_Mo_must lk_Mo_289 rfl (ob_Mo hV) (Nat.le_of_ble_eq_true rfl) ⟨Nat.le_of_ble_eq_true rfl, Nat.le_of_ble_eq_true rfl⟩ rfl d_Mo_tellLaw_145 (c_Mo_must hV hq145) ?_
  refine g_aload_n (pc := 148) hC (i := 0) (x := (V.2.2.1 0 0)) rfl rfl d_Mo_tellLaw_148 ?_
  refine g_getI (pc := 149) hC fo_Mo_215 (ob_Mo hV) rfl d_Mo_tellLaw_149 ?_
  refine g_if_le (pc := 152) hC (tgt := 156) (by decide) d_Mo_tellLaw_152 h (fun h => ?_) (fun h => ?_)
  · refine g_aload_n (pc := 156) hC (i := 0) (x := (V.2.2.1 0 0)) rfl rfl d_Mo_tellLaw_156 ?_
    refine g_getA (pc := 157) hC fo_Mo_98 (ob_Mo hV) rfl d_Mo_tellLaw_157 ?_
    refine g_iconst (pc := 160) hC kc_3 d_Mo_tellLaw_160 ?_
    refine g_aload_n (pc := 161) hC (i := 0) (x := (V.2.2.1 0 0)) rfl rfl d_Mo_tellLaw_161 ?_
    refine g_getI (pc := 162) hC fo_Mo_248 (ob_Mo hV) rfl d_Mo_tellLaw_162 ?_
    refine g_imul (pc := 165) hC d_Mo_tellLaw_165 ?_
    refine g_iload_n (pc := 166) hC (i := 1) (x := x1) rfl rfl d_Mo_tellLaw_166 ?_
    refine g_iadd (pc := 167) hC d_Mo_tellLaw_167 ?_
    refine g_iload_n (pc := 168) hC (i := 2) (x := x2) rfl rfl d_Mo_tellLaw_168 ?_
    refine g_iast (pc := 169) hC (ar_Mo_40 hV) d_Mo_tellLaw_169 h (fun h => ?_)
    refine g_letS h (fun S169 h => ?_)
    refine g_aload_n (pc := 170) hC (i := 0) (x := (V.2.2.1 0 0)) rfl rfl d_Mo_tellLaw_170 ?_
    refine g_getA (pc := 171) hC fo_Mo_101 (ob_Mo hV) rfl d_Mo_tellLaw_171 ?_
    refine g_iconst (pc := 174) hC kc_3 d_Mo_tellLaw_174 ?_
    refine g_aload_n (pc := 175) hC (i := 0) (x := (V.2.2.1 0 0)) rfl rfl d_Mo_tellLaw_175 ?_
    refine g_getI (pc := 176) hC fo_Mo_248 (ob_Mo hV) rfl d_Mo_tellLaw_176 ?_
    refine g_imul (pc := 179) hC d_Mo_tellLaw_179 ?_
    refine g_iload_n (pc := 180) hC (i := 1) (x := x1) rfl rfl d_Mo_tellLaw_180 ?_
    refine g_iadd (pc := 181) hC d_Mo_tellLaw_181 ?_
    refine g_aload_n (pc := 182) hC (i := 0) (x := (V.2.2.1 0 0)) rfl rfl d_Mo_tellLaw_182 ?_
    refine g_getI (pc := 183) hC fo_Mo_254 (ob_Mo hV) rfl d_Mo_tellLaw_183 ?_
    refine g_iast (pc := 186) hC (ar_Mo_41 hV) d_Mo_tellLaw_186 h (fun h => ?_)
    refine g_letS h (fun S186 h => ?_)
    exact g_vW (pc := 187) hC d_Mo_tellLaw_187 h
  · exact g_vW (pc := 155) hC d_Mo_tellLaw_155 h
set_option maxRecDepth 20000 in
theorem w_Mo_tellLaw_b12 {X : CX} {V : WV} (hV : IsM V) {z : Mem} (hC : Ck X V bc_Mo_tellLaw 4 "SecretWellsModel" none 5 103) (k12 : Int32 → Int32 → Int32 → Mem → Option (Mem)) (hk12 : ∀ (x1 : Int32) (x2 : Int32) (x3 : Int32) (S : Mem), k12 x1 x2 x3 S = some z → G X V 4 (QV X V z) 12 [some (.ref (V.2.2.1 0 0)), some (.int x1), some (.int x2), some (.int x3)] [] S) (x1 : Int32) (x2 : Int32) (x3 : Int32) (S : Mem) (h : f_Mo_tellLaw_b12  k12 x1 x2 x3 S = some z) : G X V 4 (QV X V z) 12 [some (.ref (V.2.2.1 0 0)), some (.int x1), some (.int x2), some (.int x3)] [] S := by
  unfold f_Mo_tellLaw_b12 at h
  refine g_aload_n (pc := 12) hC (i := 0) (x := (V.2.2.1 0 0)) rfl rfl d_Mo_tellLaw_12 ?_
  refine g_getI (pc := 13) hC fo_Mo_215 (ob_Mo hV) rfl d_Mo_tellLaw_13 ?_
  refine g_if_ne (pc := 16) hC (tgt := 129) (by decide) d_Mo_tellLaw_16 h (fun h => ?_) (fun h => ?_)
  · refine g_le (lv2 := [some (.ref (V.2.2.1 0 0)), some (.int x1), some (.int x2), none]) (⟨rfl, ⟨rfl, ⟨rfl, trivial⟩⟩⟩) ?_
    exact w_Mo_tellLaw_b129 hV hC x1 x2 S h
  · refine g_aload_n (pc := 19) hC (i := 0) (x := (V.2.2.1 0 0)) rfl rfl d_Mo_tellLaw_19 ?_
    refine g_bipush (pc := 20) hC kb_31 d_Mo_tellLaw_20 ?_
    obtain ⟨q22, hq22, h⟩ := Option.bind_eq_some_iff.mp h
    refine g_vi (pc := 22) hC (As := [.int 31]) (st := []) mt_Mo_is lk_Mo_233 rfl (ob_Mo hV) (Nat.le_of_ble_eq_true rfl) ⟨Nat.le_of_ble_eq_true rfl, Nat.le_of_ble_eq_true rfl⟩ rfl d_Mo_tellLaw_22 (c_Mo_is hV hq22) ?_
    refine g_if_eq (pc := 25) hC (tgt := 129) (by decide) d_Mo_tellLaw_25 h (fun h => ?_) (fun h => ?_)
    · refine g_le (lv2 := [some (.ref (V.2.2.1 0 0)), some (.int x1), some (.int x2), none]) (⟨rfl, ⟨rfl, ⟨rfl, trivial⟩⟩⟩) ?_
      exact w_Mo_tellLaw_b129 hV hC x1 x2 S h
    · refine g_iload_n (pc := 28) hC (i := 3) (x := x3) rfl rfl d_Mo_tellLaw_28 ?_
      refine g_iconst (pc := 29) hC kc_4 d_Mo_tellLaw_29 ?_
      refine g_icmp_ne (pc := 30) hC (tgt := 38) (by decide) d_Mo_tellLaw_30 h (fun h => ?_) (fun h => ?_)
      · exact w_Mo_tellLaw_b38 hV hC k12 hk12 x1 x2 x3 S h
      · refine g_aload_n (pc := 33) hC (i := 0) (x := (V.2.2.1 0 0)) rfl rfl d_Mo_tellLaw_33 ?_
        refine g_iconst (pc := 34) hC kc_2 d_Mo_tellLaw_34 ?_
        obtain ⟨q35, hq35, h⟩ := Option.bind_eq_some_iff.mp h
        refine g_vv (pc := 35) hC (As := [.int 2]) (st := []) mt_Mo_fail lk_Mo_230 rfl (ob_Mo hV) (Nat.le_of_ble_eq_true rfl) ⟨Nat.le_of_ble_eq_true rfl, Nat.le_of_ble_eq_true rfl⟩ rfl d_Mo_tellLaw_35 (c_Mo_fail hV hq35) ?_
        exact w_Mo_tellLaw_b38 hV hC k12 hk12 x1 x2 x3 q35 h
theorem w_Mo_tellLaw_l12 {X : CX} {V : WV} (hV : IsM V) {z : Mem} (hC : Ck X V bc_Mo_tellLaw 4 "SecretWellsModel" none 5 103) : ∀ (n : Nat) (x1 : Int32) (x2 : Int32) (x3 : Int32) (S : Mem), f_Mo_tellLaw_l12  n x1 x2 x3 S = some z → G X V 4 (QV X V z) 12 [some (.ref (V.2.2.1 0 0)), some (.int x1), some (.int x2), some (.int x3)] [] S := by
  intro n
  induction n with
  | zero =>
    intro x1 x2 x3 S h
    have h : (none : Option (Mem)) = some z := h
    cases h
  | succ n ih =>
    intro x1 x2 x3 S h
    exact w_Mo_tellLaw_b12 hV hC (f_Mo_tellLaw_l12  n) ih x1 x2 x3 S h
set_option maxRecDepth 20000 in
theorem w_Mo_tellLaw_b0 {X : CX} {V : WV} (hV : IsM V) {z : Mem} (hC : Ck X V bc_Mo_tellLaw 4 "SecretWellsModel" none 5 103) (x1 : Int32) (S : Mem) (h : f_Mo_tellLaw_b0  x1 S = some z) : G X V 4 (QV X V z) 0 [some (.ref (V.2.2.1 0 0)), some (.int x1), none, none] [] S := by
  unfold f_Mo_tellLaw_b0 at h
  refine g_aload_n (pc := 0) hC (i := 0) (x := (V.2.2.1 0 0)) rfl rfl d_Mo_tellLaw_0 ?_
  refine g_iconst (pc := 1) hC kc_5 d_Mo_tellLaw_1 ?_
  obtain ⟨q2, hq2, h⟩ := Option.bind_eq_some_iff.mp h
  refine g_vv (pc := 2) hC (As := [.int 5]) (st := []) mt_Mo_must lk_Mo_289 rfl (ob_Mo hV) (Nat.le_of_ble_eq_true rfl) ⟨Nat.le_of_ble_eq_true rfl, Nat.le_of_ble_eq_true rfl⟩ rfl d_Mo_tellLaw_2 (c_Mo_must hV hq2) ?_
  refine g_aload_n (pc := 5) hC (i := 0) (x := (V.2.2.1 0 0)) rfl rfl d_Mo_tellLaw_5 ?_
  refine g_getI (pc := 6) hC fo_Mo_254 (ob_Mo hV) rfl d_Mo_tellLaw_6 ?_
  refine g_leti h (fun y9 h => ?_)
  refine s_istore_n (pc := 9) hC (i := 2) rfl (by decide) d_Mo_tellLaw_9 (lv2 := [some (.ref (V.2.2.1 0 0)), some (.int x1), some (.int y9), none]) rfl ?_
  refine g_iconst (pc := 10) hC kc_0 d_Mo_tellLaw_10 ?_
  refine s_istore_n (pc := 11) hC (i := 3) rfl (by decide) d_Mo_tellLaw_11 (lv2 := [some (.ref (V.2.2.1 0 0)), some (.int x1), some (.int y9), some (.int 0)]) rfl ?_
  exact w_Mo_tellLaw_l12 hV hC 5000 x1 y9 0 q2 h
theorem c_Mo_tellLaw {V : WV} {l : Launch} (hV : IsM V) {x1 : Int32} {S : Mem} {z : Mem} (h : f_Mo_tellLaw x1 S = some z) : CV V l y_Mo_tellLaw bc_Mo_tellLaw 4 none 5 103 [.ref (V.2.2.1 0 0), .int x1] S z :=
  ct_v rfl (IsM.ok hV) (Nat.le_of_ble_eq_true rfl) (fun _ _ hC => w_Mo_tellLaw_b0 hV hC x1 S h)
def f_Mo_tellOne_b304 (x1 : Int32) (S : Mem) : Option (Mem) :=
  if (S.1 0 13) ≤ 0 then
    Option.bind (f_Mo_goesOn S) (fun q313 =>
    Option.bind (f_Mo_tellLaw x1 q313) (fun q318 =>
    some q318))
  else
    some S
def f_Mo_tellOne_b299 (x1 : Int32) (S : Mem) : Option (Mem) :=
  Option.bind (f_Mo_fail 1 S) (fun q301 =>
  f_Mo_tellOne_b304 x1 q301)
def f_Mo_tellOne_b0 (S : Mem) : Option (Mem) :=
  gIn (S.1 0 11) 403 (
  if (S.2.1 0 5 (S.1 0 11).toNatClampNeg) = 20 then
    gIn (S.1 0 19) 2 (
    Option.bind (f_Mo_roomFor (S.2.1 0 24 (S.1 0 19).toNatClampNeg) 4 S) (fun q79 =>
    if (q79.1 0 13) = 0 then
      Option.bind (f_Mo_tellWell q79) (fun q90 =>
      some q90)
    else
      some q79))
  else if (S.2.1 0 5 (S.1 0 11).toNatClampNeg) = 21 then
    gIn (S.1 0 19) 2 (
    Option.bind (f_Mo_roomFor (S.2.1 0 27 (S.1 0 19).toNatClampNeg) 7 S) (fun q108 =>
    if (q108.1 0 13) = 0 then
      Option.bind (f_Mo_tellMan q108) (fun q119 =>
      some q119)
    else
      some q108))
  else if (S.2.1 0 5 (S.1 0 11).toNatClampNeg) = 22 then
    gIn (S.1 0 19) 2 (
    Option.bind (f_Mo_roomFor (S.2.1 0 30 (S.1 0 19).toNatClampNeg) 8 S) (fun q137 =>
    if (q137.1 0 13) = 0 then
      Option.bind (f_Mo_tellSecret q137) (fun q148 =>
      some q148)
    else
      some q137))
  else if (S.2.1 0 5 (S.1 0 11).toNatClampNeg) = 24 then
    gIn (S.1 0 19) 2 (
    Option.bind (f_Mo_roomFor (S.2.1 0 34 (S.1 0 19).toNatClampNeg) 12 S) (fun q166 =>
    if (q166.1 0 13) = 0 then
      Option.bind (f_Mo_tellTie q166) (fun q177 =>
      some q177)
    else
      some q166))
  else if (S.2.1 0 5 (S.1 0 11).toNatClampNeg) = 28 then
    Option.bind (f_Mo_goesOn S) (fun q184 =>
    Option.bind (f_Mo_bounded 1 99 q184) (fun q199 =>
    gIn (q184.1 0 19) 2 (letS (sA q199.2 0 37 (q184.1 0 19) q199.1) (fun S202 =>
    Option.bind (f_Mo_must 4 S202) (fun q205 =>
    some q205)))))
  else if (S.2.1 0 5 (S.1 0 11).toNatClampNeg) = 29 then
    Option.bind (f_Mo_goesOn S) (fun q212 =>
    Option.bind (f_Mo_bounded 0 99 q212) (fun q227 =>
    gIn (q212.1 0 19) 2 (letS (sA q227.2 0 38 (q212.1 0 19) q227.1) (fun S230 =>
    Option.bind (f_Mo_must 4 S230) (fun q233 =>
    some q233)))))
  else if (S.2.1 0 5 (S.1 0 11).toNatClampNeg) = 30 then
    Option.bind (f_Mo_goesOn S) (fun q240 =>
    Option.bind (f_Mo_bounded 0 9999 q240) (fun q256 =>
    gIn (q240.1 0 19) 2 (letS (sA q256.2 0 39 (q240.1 0 19) q256.1) (fun S259 =>
    Option.bind (f_Mo_must 4 S259) (fun q262 =>
    some q262)))))
  else 
    gIn (S.1 0 11) 403 (
    letS ((S.2.1 0 5 (S.1 0 11).toNatClampNeg) - 25) (fun y280 =>
    if y280 < 0 then
      f_Mo_tellOne_b299 y280 S
    else
      gIn (S.1 0 11) 403 (
      if (S.2.1 0 5 (S.1 0 11).toNatClampNeg) ≤ 27 then
        f_Mo_tellOne_b304 y280 S
      else
        f_Mo_tellOne_b299 y280 S))))
def f_Mo_tellOne (S : Mem) : Option (Mem) := f_Mo_tellOne_b0  S
theorem d_Mo_tellOne_0 : decode bc_Mo_tellOne 0 = .ok (.aload_n 0, 1) := by decide +kernel
theorem d_Mo_tellOne_1 : decode bc_Mo_tellOne 1 = .ok (.getfield 20, 3) := by decide +kernel
theorem d_Mo_tellOne_4 : decode bc_Mo_tellOne 4 = .ok (.aload_n 0, 1) := by decide +kernel
theorem d_Mo_tellOne_5 : decode bc_Mo_tellOne 5 = .ok (.getfield 218, 3) := by decide +kernel
theorem d_Mo_tellOne_8 : decode bc_Mo_tellOne 8 = .ok (.iaload, 1) := by decide +kernel
theorem d_Mo_tellOne_9 : decode bc_Mo_tellOne 9 = .ok (.tableswitch 259 20 30 #[59, 87, 116, 259, 145, 259, 259, 259, 174, 202, 230], 59) := by decide +kernel
theorem d_Mo_tellOne_68 : decode bc_Mo_tellOne 68 = .ok (.aload_n 0, 1) := by decide +kernel
theorem d_Mo_tellOne_69 : decode bc_Mo_tellOne 69 = .ok (.aload_n 0, 1) := by decide +kernel
theorem d_Mo_tellOne_70 : decode bc_Mo_tellOne 70 = .ok (.getfield 49, 3) := by decide +kernel
theorem d_Mo_tellOne_73 : decode bc_Mo_tellOne 73 = .ok (.aload_n 0, 1) := by decide +kernel
theorem d_Mo_tellOne_74 : decode bc_Mo_tellOne 74 = .ok (.getfield 248, 3) := by decide +kernel
theorem d_Mo_tellOne_77 : decode bc_Mo_tellOne 77 = .ok (.iaload, 1) := by decide +kernel
theorem d_Mo_tellOne_78 : decode bc_Mo_tellOne 78 = .ok (.iconst 4, 1) := by decide +kernel
theorem d_Mo_tellOne_79 : decode bc_Mo_tellOne 79 = .ok (.invokevirtual 269, 3) := by decide +kernel
theorem d_Mo_tellOne_82 : decode bc_Mo_tellOne 82 = .ok (.aload_n 0, 1) := by decide +kernel
theorem d_Mo_tellOne_83 : decode bc_Mo_tellOne 83 = .ok (.getfield 215, 3) := by decide +kernel
theorem d_Mo_tellOne_86 : decode bc_Mo_tellOne 86 = .ok (.ifCond .ne 235, 3) := by decide +kernel
theorem d_Mo_tellOne_89 : decode bc_Mo_tellOne 89 = .ok (.aload_n 0, 1) := by decide +kernel
theorem d_Mo_tellOne_90 : decode bc_Mo_tellOne 90 = .ok (.invokevirtual 273, 3) := by decide +kernel
theorem d_Mo_tellOne_93 : decode bc_Mo_tellOne 93 = .ok (.goto 228, 3) := by decide +kernel
theorem d_Mo_tellOne_96 : decode bc_Mo_tellOne 96 = .ok (.aload_n 0, 1) := by decide +kernel
theorem d_Mo_tellOne_97 : decode bc_Mo_tellOne 97 = .ok (.aload_n 0, 1) := by decide +kernel
theorem d_Mo_tellOne_98 : decode bc_Mo_tellOne 98 = .ok (.getfield 58, 3) := by decide +kernel
theorem d_Mo_tellOne_101 : decode bc_Mo_tellOne 101 = .ok (.aload_n 0, 1) := by decide +kernel
theorem d_Mo_tellOne_102 : decode bc_Mo_tellOne 102 = .ok (.getfield 248, 3) := by decide +kernel
theorem d_Mo_tellOne_105 : decode bc_Mo_tellOne 105 = .ok (.iaload, 1) := by decide +kernel
theorem d_Mo_tellOne_106 : decode bc_Mo_tellOne 106 = .ok (.bipush 7, 2) := by decide +kernel
theorem d_Mo_tellOne_108 : decode bc_Mo_tellOne 108 = .ok (.invokevirtual 269, 3) := by decide +kernel
theorem d_Mo_tellOne_111 : decode bc_Mo_tellOne 111 = .ok (.aload_n 0, 1) := by decide +kernel
theorem d_Mo_tellOne_112 : decode bc_Mo_tellOne 112 = .ok (.getfield 215, 3) := by decide +kernel
theorem d_Mo_tellOne_115 : decode bc_Mo_tellOne 115 = .ok (.ifCond .ne 206, 3) := by decide +kernel
theorem d_Mo_tellOne_118 : decode bc_Mo_tellOne 118 = .ok (.aload_n 0, 1) := by decide +kernel
theorem d_Mo_tellOne_119 : decode bc_Mo_tellOne 119 = .ok (.invokevirtual 276, 3) := by decide +kernel
theorem d_Mo_tellOne_122 : decode bc_Mo_tellOne 122 = .ok (.goto 199, 3) := by decide +kernel
theorem d_Mo_tellOne_125 : decode bc_Mo_tellOne 125 = .ok (.aload_n 0, 1) := by decide +kernel
theorem d_Mo_tellOne_126 : decode bc_Mo_tellOne 126 = .ok (.aload_n 0, 1) := by decide +kernel
theorem d_Mo_tellOne_127 : decode bc_Mo_tellOne 127 = .ok (.getfield 67, 3) := by decide +kernel
theorem d_Mo_tellOne_130 : decode bc_Mo_tellOne 130 = .ok (.aload_n 0, 1) := by decide +kernel
theorem d_Mo_tellOne_131 : decode bc_Mo_tellOne 131 = .ok (.getfield 248, 3) := by decide +kernel
theorem d_Mo_tellOne_134 : decode bc_Mo_tellOne 134 = .ok (.iaload, 1) := by decide +kernel
theorem d_Mo_tellOne_135 : decode bc_Mo_tellOne 135 = .ok (.bipush 8, 2) := by decide +kernel
theorem d_Mo_tellOne_137 : decode bc_Mo_tellOne 137 = .ok (.invokevirtual 269, 3) := by decide +kernel
theorem d_Mo_tellOne_140 : decode bc_Mo_tellOne 140 = .ok (.aload_n 0, 1) := by decide +kernel
theorem d_Mo_tellOne_141 : decode bc_Mo_tellOne 141 = .ok (.getfield 215, 3) := by decide +kernel
theorem d_Mo_tellOne_144 : decode bc_Mo_tellOne 144 = .ok (.ifCond .ne 177, 3) := by decide +kernel
theorem d_Mo_tellOne_147 : decode bc_Mo_tellOne 147 = .ok (.aload_n 0, 1) := by decide +kernel
theorem d_Mo_tellOne_148 : decode bc_Mo_tellOne 148 = .ok (.invokevirtual 279, 3) := by decide +kernel
theorem d_Mo_tellOne_151 : decode bc_Mo_tellOne 151 = .ok (.goto 170, 3) := by decide +kernel
theorem d_Mo_tellOne_154 : decode bc_Mo_tellOne 154 = .ok (.aload_n 0, 1) := by decide +kernel
theorem d_Mo_tellOne_155 : decode bc_Mo_tellOne 155 = .ok (.aload_n 0, 1) := by decide +kernel
theorem d_Mo_tellOne_156 : decode bc_Mo_tellOne 156 = .ok (.getfield 80, 3) := by decide +kernel
theorem d_Mo_tellOne_159 : decode bc_Mo_tellOne 159 = .ok (.aload_n 0, 1) := by decide +kernel
theorem d_Mo_tellOne_160 : decode bc_Mo_tellOne 160 = .ok (.getfield 248, 3) := by decide +kernel
theorem d_Mo_tellOne_163 : decode bc_Mo_tellOne 163 = .ok (.iaload, 1) := by decide +kernel
theorem d_Mo_tellOne_164 : decode bc_Mo_tellOne 164 = .ok (.bipush 12, 2) := by decide +kernel
theorem d_Mo_tellOne_166 : decode bc_Mo_tellOne 166 = .ok (.invokevirtual 269, 3) := by decide +kernel
theorem d_Mo_tellOne_169 : decode bc_Mo_tellOne 169 = .ok (.aload_n 0, 1) := by decide +kernel
theorem d_Mo_tellOne_170 : decode bc_Mo_tellOne 170 = .ok (.getfield 215, 3) := by decide +kernel
theorem d_Mo_tellOne_173 : decode bc_Mo_tellOne 173 = .ok (.ifCond .ne 148, 3) := by decide +kernel
theorem d_Mo_tellOne_176 : decode bc_Mo_tellOne 176 = .ok (.aload_n 0, 1) := by decide +kernel
theorem d_Mo_tellOne_177 : decode bc_Mo_tellOne 177 = .ok (.invokevirtual 282, 3) := by decide +kernel
theorem d_Mo_tellOne_180 : decode bc_Mo_tellOne 180 = .ok (.goto 141, 3) := by decide +kernel
theorem d_Mo_tellOne_183 : decode bc_Mo_tellOne 183 = .ok (.aload_n 0, 1) := by decide +kernel
theorem d_Mo_tellOne_184 : decode bc_Mo_tellOne 184 = .ok (.invokevirtual 236, 3) := by decide +kernel
theorem d_Mo_tellOne_187 : decode bc_Mo_tellOne 187 = .ok (.aload_n 0, 1) := by decide +kernel
theorem d_Mo_tellOne_188 : decode bc_Mo_tellOne 188 = .ok (.getfield 89, 3) := by decide +kernel
theorem d_Mo_tellOne_191 : decode bc_Mo_tellOne 191 = .ok (.aload_n 0, 1) := by decide +kernel
theorem d_Mo_tellOne_192 : decode bc_Mo_tellOne 192 = .ok (.getfield 248, 3) := by decide +kernel
theorem d_Mo_tellOne_195 : decode bc_Mo_tellOne 195 = .ok (.aload_n 0, 1) := by decide +kernel
theorem d_Mo_tellOne_196 : decode bc_Mo_tellOne 196 = .ok (.iconst 1, 1) := by decide +kernel
theorem d_Mo_tellOne_197 : decode bc_Mo_tellOne 197 = .ok (.bipush 99, 2) := by decide +kernel
theorem d_Mo_tellOne_199 : decode bc_Mo_tellOne 199 = .ok (.invokevirtual 285, 3) := by decide +kernel
theorem d_Mo_tellOne_202 : decode bc_Mo_tellOne 202 = .ok (.iastore, 1) := by decide +kernel
theorem d_Mo_tellOne_203 : decode bc_Mo_tellOne 203 = .ok (.aload_n 0, 1) := by decide +kernel
theorem d_Mo_tellOne_204 : decode bc_Mo_tellOne 204 = .ok (.iconst 4, 1) := by decide +kernel
theorem d_Mo_tellOne_205 : decode bc_Mo_tellOne 205 = .ok (.invokevirtual 289, 3) := by decide +kernel
theorem d_Mo_tellOne_208 : decode bc_Mo_tellOne 208 = .ok (.goto 113, 3) := by decide +kernel
theorem d_Mo_tellOne_211 : decode bc_Mo_tellOne 211 = .ok (.aload_n 0, 1) := by decide +kernel
theorem d_Mo_tellOne_212 : decode bc_Mo_tellOne 212 = .ok (.invokevirtual 236, 3) := by decide +kernel
theorem d_Mo_tellOne_215 : decode bc_Mo_tellOne 215 = .ok (.aload_n 0, 1) := by decide +kernel
theorem d_Mo_tellOne_216 : decode bc_Mo_tellOne 216 = .ok (.getfield 92, 3) := by decide +kernel
theorem d_Mo_tellOne_219 : decode bc_Mo_tellOne 219 = .ok (.aload_n 0, 1) := by decide +kernel
theorem d_Mo_tellOne_220 : decode bc_Mo_tellOne 220 = .ok (.getfield 248, 3) := by decide +kernel
theorem d_Mo_tellOne_223 : decode bc_Mo_tellOne 223 = .ok (.aload_n 0, 1) := by decide +kernel
theorem d_Mo_tellOne_224 : decode bc_Mo_tellOne 224 = .ok (.iconst 0, 1) := by decide +kernel
theorem d_Mo_tellOne_225 : decode bc_Mo_tellOne 225 = .ok (.bipush 99, 2) := by decide +kernel
theorem d_Mo_tellOne_227 : decode bc_Mo_tellOne 227 = .ok (.invokevirtual 285, 3) := by decide +kernel
theorem d_Mo_tellOne_230 : decode bc_Mo_tellOne 230 = .ok (.iastore, 1) := by decide +kernel
theorem d_Mo_tellOne_231 : decode bc_Mo_tellOne 231 = .ok (.aload_n 0, 1) := by decide +kernel
theorem d_Mo_tellOne_232 : decode bc_Mo_tellOne 232 = .ok (.iconst 4, 1) := by decide +kernel
theorem d_Mo_tellOne_233 : decode bc_Mo_tellOne 233 = .ok (.invokevirtual 289, 3) := by decide +kernel
theorem d_Mo_tellOne_236 : decode bc_Mo_tellOne 236 = .ok (.goto 85, 3) := by decide +kernel
theorem d_Mo_tellOne_239 : decode bc_Mo_tellOne 239 = .ok (.aload_n 0, 1) := by decide +kernel
theorem d_Mo_tellOne_240 : decode bc_Mo_tellOne 240 = .ok (.invokevirtual 236, 3) := by decide +kernel
theorem d_Mo_tellOne_243 : decode bc_Mo_tellOne 243 = .ok (.aload_n 0, 1) := by decide +kernel
theorem d_Mo_tellOne_244 : decode bc_Mo_tellOne 244 = .ok (.getfield 95, 3) := by decide +kernel
theorem d_Mo_tellOne_247 : decode bc_Mo_tellOne 247 = .ok (.aload_n 0, 1) := by decide +kernel
theorem d_Mo_tellOne_248 : decode bc_Mo_tellOne 248 = .ok (.getfield 248, 3) := by decide +kernel
theorem d_Mo_tellOne_251 : decode bc_Mo_tellOne 251 = .ok (.aload_n 0, 1) := by decide +kernel
theorem d_Mo_tellOne_252 : decode bc_Mo_tellOne 252 = .ok (.iconst 0, 1) := by decide +kernel
theorem d_Mo_tellOne_253 : decode bc_Mo_tellOne 253 = .ok (.sipush 9999, 3) := by decide +kernel
theorem d_Mo_tellOne_256 : decode bc_Mo_tellOne 256 = .ok (.invokevirtual 285, 3) := by decide +kernel
theorem d_Mo_tellOne_259 : decode bc_Mo_tellOne 259 = .ok (.iastore, 1) := by decide +kernel
theorem d_Mo_tellOne_260 : decode bc_Mo_tellOne 260 = .ok (.aload_n 0, 1) := by decide +kernel
theorem d_Mo_tellOne_261 : decode bc_Mo_tellOne 261 = .ok (.iconst 4, 1) := by decide +kernel
theorem d_Mo_tellOne_262 : decode bc_Mo_tellOne 262 = .ok (.invokevirtual 289, 3) := by decide +kernel
theorem d_Mo_tellOne_265 : decode bc_Mo_tellOne 265 = .ok (.goto 56, 3) := by decide +kernel
theorem d_Mo_tellOne_268 : decode bc_Mo_tellOne 268 = .ok (.aload_n 0, 1) := by decide +kernel
theorem d_Mo_tellOne_269 : decode bc_Mo_tellOne 269 = .ok (.getfield 20, 3) := by decide +kernel
theorem d_Mo_tellOne_272 : decode bc_Mo_tellOne 272 = .ok (.aload_n 0, 1) := by decide +kernel
theorem d_Mo_tellOne_273 : decode bc_Mo_tellOne 273 = .ok (.getfield 218, 3) := by decide +kernel
theorem d_Mo_tellOne_276 : decode bc_Mo_tellOne 276 = .ok (.iaload, 1) := by decide +kernel
theorem d_Mo_tellOne_277 : decode bc_Mo_tellOne 277 = .ok (.bipush 25, 2) := by decide +kernel
theorem d_Mo_tellOne_279 : decode bc_Mo_tellOne 279 = .ok (.isub, 1) := by decide +kernel
theorem d_Mo_tellOne_280 : decode bc_Mo_tellOne 280 = .ok (.istore_n 1, 1) := by decide +kernel
theorem d_Mo_tellOne_281 : decode bc_Mo_tellOne 281 = .ok (.iload_n 1, 1) := by decide +kernel
theorem d_Mo_tellOne_282 : decode bc_Mo_tellOne 282 = .ok (.ifCond .lt 17, 3) := by decide +kernel
theorem d_Mo_tellOne_285 : decode bc_Mo_tellOne 285 = .ok (.aload_n 0, 1) := by decide +kernel
theorem d_Mo_tellOne_286 : decode bc_Mo_tellOne 286 = .ok (.getfield 20, 3) := by decide +kernel
theorem d_Mo_tellOne_289 : decode bc_Mo_tellOne 289 = .ok (.aload_n 0, 1) := by decide +kernel
theorem d_Mo_tellOne_290 : decode bc_Mo_tellOne 290 = .ok (.getfield 218, 3) := by decide +kernel
theorem d_Mo_tellOne_293 : decode bc_Mo_tellOne 293 = .ok (.iaload, 1) := by decide +kernel
theorem d_Mo_tellOne_294 : decode bc_Mo_tellOne 294 = .ok (.bipush 27, 2) := by decide +kernel
theorem d_Mo_tellOne_296 : decode bc_Mo_tellOne 296 = .ok (.if_icmp .le 8, 3) := by decide +kernel
theorem d_Mo_tellOne_299 : decode bc_Mo_tellOne 299 = .ok (.aload_n 0, 1) := by decide +kernel
theorem d_Mo_tellOne_300 : decode bc_Mo_tellOne 300 = .ok (.iconst 1, 1) := by decide +kernel
theorem d_Mo_tellOne_301 : decode bc_Mo_tellOne 301 = .ok (.invokevirtual 230, 3) := by decide +kernel
theorem d_Mo_tellOne_304 : decode bc_Mo_tellOne 304 = .ok (.aload_n 0, 1) := by decide +kernel
theorem d_Mo_tellOne_305 : decode bc_Mo_tellOne 305 = .ok (.getfield 215, 3) := by decide +kernel
theorem d_Mo_tellOne_308 : decode bc_Mo_tellOne 308 = .ok (.ifCond .le 4, 3) := by decide +kernel
theorem d_Mo_tellOne_311 : decode bc_Mo_tellOne 311 = .ok (.return_, 1) := by decide +kernel
theorem d_Mo_tellOne_312 : decode bc_Mo_tellOne 312 = .ok (.aload_n 0, 1) := by decide +kernel
theorem d_Mo_tellOne_313 : decode bc_Mo_tellOne 313 = .ok (.invokevirtual 236, 3) := by decide +kernel
theorem d_Mo_tellOne_316 : decode bc_Mo_tellOne 316 = .ok (.aload_n 0, 1) := by decide +kernel
theorem d_Mo_tellOne_317 : decode bc_Mo_tellOne 317 = .ok (.iload_n 1, 1) := by decide +kernel
theorem d_Mo_tellOne_318 : decode bc_Mo_tellOne 318 = .ok (.invokevirtual 292, 3) := by decide +kernel
theorem d_Mo_tellOne_321 : decode bc_Mo_tellOne 321 = .ok (.return_, 1) := by decide +kernel
set_option maxRecDepth 20000 in
theorem w_Mo_tellOne_b304 {X : CX} {V : WV} (hV : IsM V) {z : Mem} (hC : Ck X V bc_Mo_tellOne 2 "SecretWellsModel" none 6 126) (x1 : Int32) (S : Mem) (h : f_Mo_tellOne_b304  x1 S = some z) : G X V 2 (QV X V z) 304 [some (.ref (V.2.2.1 0 0)), some (.int x1)] [] S := by
  unfold f_Mo_tellOne_b304 at h
  refine g_aload_n (pc := 304) hC (i := 0) (x := (V.2.2.1 0 0)) rfl rfl d_Mo_tellOne_304 ?_
  refine g_getI (pc := 305) hC fo_Mo_215 (ob_Mo hV) rfl d_Mo_tellOne_305 ?_
  refine g_if_le (pc := 308) hC (tgt := 312) (by decide) d_Mo_tellOne_308 h (fun h => ?_) (fun h => ?_)
  · refine g_aload_n (pc := 312) hC (i := 0) (x := (V.2.2.1 0 0)) rfl rfl d_Mo_tellOne_312 ?_
    obtain ⟨q313, hq313, h⟩ := Option.bind_eq_some_iff.mp h
    refine g_vv (pc := 313) hC (As := []) (st := []) mt_Mo_goesOn lk_Mo_236 rfl (ob_Mo hV) (Nat.le_of_ble_eq_true rfl) ⟨Nat.le_of_ble_eq_true rfl, Nat.le_of_ble_eq_true rfl⟩ rfl d_Mo_tellOne_313 (c_Mo_goesOn hV hq313) ?_
    refine g_aload_n (pc := 316) hC (i := 0) (x := (V.2.2.1 0 0)) rfl rfl d_Mo_tellOne_316 ?_
    refine g_iload_n (pc := 317) hC (i := 1) (x := x1) rfl rfl d_Mo_tellOne_317 ?_
    obtain ⟨q318, hq318, h⟩ := Option.bind_eq_some_iff.mp h
    refine g_vv (pc := 318) hC (As := [.int x1]) (st := []) mt_Mo_tellLaw lk_Mo_292 rfl (ob_Mo hV) (Nat.le_of_ble_eq_true rfl) ⟨Nat.le_of_ble_eq_true rfl, Nat.le_of_ble_eq_true rfl⟩ rfl d_Mo_tellOne_318 (c_Mo_tellLaw hV hq318) ?_
    exact g_vW (pc := 321) hC d_Mo_tellOne_321 h
  · exact g_vW (pc := 311) hC d_Mo_tellOne_311 h
set_option maxRecDepth 20000 in
theorem w_Mo_tellOne_b299 {X : CX} {V : WV} (hV : IsM V) {z : Mem} (hC : Ck X V bc_Mo_tellOne 2 "SecretWellsModel" none 6 126) (x1 : Int32) (S : Mem) (h : f_Mo_tellOne_b299  x1 S = some z) : G X V 2 (QV X V z) 299 [some (.ref (V.2.2.1 0 0)), some (.int x1)] [] S := by
  unfold f_Mo_tellOne_b299 at h
  refine g_aload_n (pc := 299) hC (i := 0) (x := (V.2.2.1 0 0)) rfl rfl d_Mo_tellOne_299 ?_
  refine g_iconst (pc := 300) hC kc_1 d_Mo_tellOne_300 ?_
  obtain ⟨q301, hq301, h⟩ := Option.bind_eq_some_iff.mp h
  refine g_vv (pc := 301) hC (As := [.int 1]) (st := []) mt_Mo_fail lk_Mo_230 rfl (ob_Mo hV) (Nat.le_of_ble_eq_true rfl) ⟨Nat.le_of_ble_eq_true rfl, Nat.le_of_ble_eq_true rfl⟩ rfl d_Mo_tellOne_301 (c_Mo_fail hV hq301) ?_
  exact w_Mo_tellOne_b304 hV hC x1 q301 h
set_option maxRecDepth 20000 in
theorem w_Mo_tellOne_b0 {X : CX} {V : WV} (hV : IsM V) {z : Mem} (hC : Ck X V bc_Mo_tellOne 2 "SecretWellsModel" none 6 126) (S : Mem) (h : f_Mo_tellOne_b0  S = some z) : G X V 2 (QV X V z) 0 [some (.ref (V.2.2.1 0 0)), none] [] S := by
  unfold f_Mo_tellOne_b0 at h
  refine g_aload_n (pc := 0) hC (i := 0) (x := (V.2.2.1 0 0)) rfl rfl d_Mo_tellOne_0 ?_
  refine g_getA (pc := 1) hC fo_Mo_20 (ob_Mo hV) rfl d_Mo_tellOne_1 ?_
  refine g_aload_n (pc := 4) hC (i := 0) (x := (V.2.2.1 0 0)) rfl rfl d_Mo_tellOne_4 ?_
  refine g_getI (pc := 5) hC fo_Mo_218 (ob_Mo hV) rfl d_Mo_tellOne_5 ?_
  refine g_iald (pc := 8) hC (ar_Mo_5 hV) d_Mo_tellOne_8 h (fun h => ?_)
  by_cases hs9_20 : (S.2.1 0 5 (S.1 0 11).toNatClampNeg) = 20
  · rw [if_pos hs9_20] at h
    refine g_table (pc := 9) hC (tgt := 68) d_Mo_tellOne_9 rfl (by rw [hs9_20]; decide) ?_
    refine g_aload_n (pc := 68) hC (i := 0) (x := (V.2.2.1 0 0)) rfl rfl d_Mo_tellOne_68 ?_
    refine g_aload_n (pc := 69) hC (i := 0) (x := (V.2.2.1 0 0)) rfl rfl d_Mo_tellOne_69 ?_
    refine g_getA (pc := 70) hC fo_Mo_49 (ob_Mo hV) rfl d_Mo_tellOne_70 ?_
    refine g_aload_n (pc := 73) hC (i := 0) (x := (V.2.2.1 0 0)) rfl rfl d_Mo_tellOne_73 ?_
    refine g_getI (pc := 74) hC fo_Mo_248 (ob_Mo hV) rfl d_Mo_tellOne_74 ?_
    refine g_iald (pc := 77) hC (ar_Mo_24 hV) d_Mo_tellOne_77 h (fun h => ?_)
    refine g_iconst (pc := 78) hC kc_4 d_Mo_tellOne_78 ?_
    obtain ⟨q79, hq79, h⟩ := Option.bind_eq_some_iff.mp h
    refine g_vv (pc := 79) hC (As := [.int (S.2.1 0 24 (S.1 0 19).toNatClampNeg), .int 4]) (st := []) mt_Mo_roomFor lk_Mo_269 rfl (ob_Mo hV) (Nat.le_of_ble_eq_true rfl) ⟨Nat.le_of_ble_eq_true rfl, Nat.le_of_ble_eq_true rfl⟩ rfl d_Mo_tellOne_79 (c_Mo_roomFor hV hq79) ?_
    refine g_aload_n (pc := 82) hC (i := 0) (x := (V.2.2.1 0 0)) rfl rfl d_Mo_tellOne_82 ?_
    refine g_getI (pc := 83) hC fo_Mo_215 (ob_Mo hV) rfl d_Mo_tellOne_83 ?_
    refine g_if_ne (pc := 86) hC (tgt := 321) (by decide) d_Mo_tellOne_86 h (fun h => ?_) (fun h => ?_)
    · exact g_vW (pc := 321) hC d_Mo_tellOne_321 h
    · refine g_aload_n (pc := 89) hC (i := 0) (x := (V.2.2.1 0 0)) rfl rfl d_Mo_tellOne_89 ?_
      obtain ⟨q90, hq90, h⟩ := Option.bind_eq_some_iff.mp h
      refine g_vv (pc := 90) hC (As := []) (st := []) mt_Mo_tellWell lk_Mo_273 rfl (ob_Mo hV) (Nat.le_of_ble_eq_true rfl) ⟨Nat.le_of_ble_eq_true rfl, Nat.le_of_ble_eq_true rfl⟩ rfl d_Mo_tellOne_90 (c_Mo_tellWell hV hq90) ?_
      refine g_goto (pc := 93) hC (tgt := 321) (by decide) d_Mo_tellOne_93 ?_
      exact g_vW (pc := 321) hC d_Mo_tellOne_321 h
  rw [if_neg hs9_20] at h
  by_cases hs9_21 : (S.2.1 0 5 (S.1 0 11).toNatClampNeg) = 21
  · rw [if_pos hs9_21] at h
    refine g_table (pc := 9) hC (tgt := 96) d_Mo_tellOne_9 rfl (by rw [hs9_21]; decide) ?_
    refine g_aload_n (pc := 96) hC (i := 0) (x := (V.2.2.1 0 0)) rfl rfl d_Mo_tellOne_96 ?_
    refine g_aload_n (pc := 97) hC (i := 0) (x := (V.2.2.1 0 0)) rfl rfl d_Mo_tellOne_97 ?_
    refine g_getA (pc := 98) hC fo_Mo_58 (ob_Mo hV) rfl d_Mo_tellOne_98 ?_
    refine g_aload_n (pc := 101) hC (i := 0) (x := (V.2.2.1 0 0)) rfl rfl d_Mo_tellOne_101 ?_
    refine g_getI (pc := 102) hC fo_Mo_248 (ob_Mo hV) rfl d_Mo_tellOne_102 ?_
    refine g_iald (pc := 105) hC (ar_Mo_27 hV) d_Mo_tellOne_105 h (fun h => ?_)
    refine g_bipush (pc := 106) hC kb_7 d_Mo_tellOne_106 ?_
    obtain ⟨q108, hq108, h⟩ := Option.bind_eq_some_iff.mp h
    refine g_vv (pc := 108) hC (As := [.int (S.2.1 0 27 (S.1 0 19).toNatClampNeg), .int 7]) (st := []) mt_Mo_roomFor lk_Mo_269 rfl (ob_Mo hV) (Nat.le_of_ble_eq_true rfl) ⟨Nat.le_of_ble_eq_true rfl, Nat.le_of_ble_eq_true rfl⟩ rfl d_Mo_tellOne_108 (c_Mo_roomFor hV hq108) ?_
    refine g_aload_n (pc := 111) hC (i := 0) (x := (V.2.2.1 0 0)) rfl rfl d_Mo_tellOne_111 ?_
    refine g_getI (pc := 112) hC fo_Mo_215 (ob_Mo hV) rfl d_Mo_tellOne_112 ?_
    refine g_if_ne (pc := 115) hC (tgt := 321) (by decide) d_Mo_tellOne_115 h (fun h => ?_) (fun h => ?_)
    · exact g_vW (pc := 321) hC d_Mo_tellOne_321 h
    · refine g_aload_n (pc := 118) hC (i := 0) (x := (V.2.2.1 0 0)) rfl rfl d_Mo_tellOne_118 ?_
      obtain ⟨q119, hq119, h⟩ := Option.bind_eq_some_iff.mp h
      refine g_vv (pc := 119) hC (As := []) (st := []) mt_Mo_tellMan lk_Mo_276 rfl (ob_Mo hV) (Nat.le_of_ble_eq_true rfl) ⟨Nat.le_of_ble_eq_true rfl, Nat.le_of_ble_eq_true rfl⟩ rfl d_Mo_tellOne_119 (c_Mo_tellMan hV hq119) ?_
      refine g_goto (pc := 122) hC (tgt := 321) (by decide) d_Mo_tellOne_122 ?_
      exact g_vW (pc := 321) hC d_Mo_tellOne_321 h
  rw [if_neg hs9_21] at h
  by_cases hs9_22 : (S.2.1 0 5 (S.1 0 11).toNatClampNeg) = 22
  · rw [if_pos hs9_22] at h
    refine g_table (pc := 9) hC (tgt := 125) d_Mo_tellOne_9 rfl (by rw [hs9_22]; decide) ?_
    refine g_aload_n (pc := 125) hC (i := 0) (x := (V.2.2.1 0 0)) rfl rfl d_Mo_tellOne_125 ?_
    refine g_aload_n (pc := 126) hC (i := 0) (x := (V.2.2.1 0 0)) rfl rfl d_Mo_tellOne_126 ?_
    refine g_getA (pc := 127) hC fo_Mo_67 (ob_Mo hV) rfl d_Mo_tellOne_127 ?_
    refine g_aload_n (pc := 130) hC (i := 0) (x := (V.2.2.1 0 0)) rfl rfl d_Mo_tellOne_130 ?_
    refine g_getI (pc := 131) hC fo_Mo_248 (ob_Mo hV) rfl d_Mo_tellOne_131 ?_
    refine g_iald (pc := 134) hC (ar_Mo_30 hV) d_Mo_tellOne_134 h (fun h => ?_)
    refine g_bipush (pc := 135) hC kb_8 d_Mo_tellOne_135 ?_
    obtain ⟨q137, hq137, h⟩ := Option.bind_eq_some_iff.mp h
    refine g_vv (pc := 137) hC (As := [.int (S.2.1 0 30 (S.1 0 19).toNatClampNeg), .int 8]) (st := []) mt_Mo_roomFor lk_Mo_269 rfl (ob_Mo hV) (Nat.le_of_ble_eq_true rfl) ⟨Nat.le_of_ble_eq_true rfl, Nat.le_of_ble_eq_true rfl⟩ rfl d_Mo_tellOne_137 (c_Mo_roomFor hV hq137) ?_
    refine g_aload_n (pc := 140) hC (i := 0) (x := (V.2.2.1 0 0)) rfl rfl d_Mo_tellOne_140 ?_
    refine g_getI (pc := 141) hC fo_Mo_215 (ob_Mo hV) rfl d_Mo_tellOne_141 ?_
    refine g_if_ne (pc := 144) hC (tgt := 321) (by decide) d_Mo_tellOne_144 h (fun h => ?_) (fun h => ?_)
    · exact g_vW (pc := 321) hC d_Mo_tellOne_321 h
    · refine g_aload_n (pc := 147) hC (i := 0) (x := (V.2.2.1 0 0)) rfl rfl d_Mo_tellOne_147 ?_
      obtain ⟨q148, hq148, h⟩ := Option.bind_eq_some_iff.mp h
      refine g_vv (pc := 148) hC (As := []) (st := []) mt_Mo_tellSecret lk_Mo_279 rfl (ob_Mo hV) (Nat.le_of_ble_eq_true rfl) ⟨Nat.le_of_ble_eq_true rfl, Nat.le_of_ble_eq_true rfl⟩ rfl d_Mo_tellOne_148 (c_Mo_tellSecret hV hq148) ?_
      refine g_goto (pc := 151) hC (tgt := 321) (by decide) d_Mo_tellOne_151 ?_
      exact g_vW (pc := 321) hC d_Mo_tellOne_321 h
  rw [if_neg hs9_22] at h
  by_cases hs9_24 : (S.2.1 0 5 (S.1 0 11).toNatClampNeg) = 24
  · rw [if_pos hs9_24] at h
    refine g_table (pc := 9) hC (tgt := 154) d_Mo_tellOne_9 rfl (by rw [hs9_24]; decide) ?_
    refine g_aload_n (pc := 154) hC (i := 0) (x := (V.2.2.1 0 0)) rfl rfl d_Mo_tellOne_154 ?_
    refine g_aload_n (pc := 155) hC (i := 0) (x := (V.2.2.1 0 0)) rfl rfl d_Mo_tellOne_155 ?_
    refine g_getA (pc := 156) hC fo_Mo_80 (ob_Mo hV) rfl d_Mo_tellOne_156 ?_
    refine g_aload_n (pc := 159) hC (i := 0) (x := (V.2.2.1 0 0)) rfl rfl d_Mo_tellOne_159 ?_
    refine g_getI (pc := 160) hC fo_Mo_248 (ob_Mo hV) rfl d_Mo_tellOne_160 ?_
    refine g_iald (pc := 163) hC (ar_Mo_34 hV) d_Mo_tellOne_163 h (fun h => ?_)
    refine g_bipush (pc := 164) hC kb_12 d_Mo_tellOne_164 ?_
    obtain ⟨q166, hq166, h⟩ := Option.bind_eq_some_iff.mp h
    refine g_vv (pc := 166) hC (As := [.int (S.2.1 0 34 (S.1 0 19).toNatClampNeg), .int 12]) (st := []) mt_Mo_roomFor lk_Mo_269 rfl (ob_Mo hV) (Nat.le_of_ble_eq_true rfl) ⟨Nat.le_of_ble_eq_true rfl, Nat.le_of_ble_eq_true rfl⟩ rfl d_Mo_tellOne_166 (c_Mo_roomFor hV hq166) ?_
    refine g_aload_n (pc := 169) hC (i := 0) (x := (V.2.2.1 0 0)) rfl rfl d_Mo_tellOne_169 ?_
    refine g_getI (pc := 170) hC fo_Mo_215 (ob_Mo hV) rfl d_Mo_tellOne_170 ?_
    refine g_if_ne (pc := 173) hC (tgt := 321) (by decide) d_Mo_tellOne_173 h (fun h => ?_) (fun h => ?_)
    · exact g_vW (pc := 321) hC d_Mo_tellOne_321 h
    · refine g_aload_n (pc := 176) hC (i := 0) (x := (V.2.2.1 0 0)) rfl rfl d_Mo_tellOne_176 ?_
      obtain ⟨q177, hq177, h⟩ := Option.bind_eq_some_iff.mp h
      refine g_vv (pc := 177) hC (As := []) (st := []) mt_Mo_tellTie lk_Mo_282 rfl (ob_Mo hV) (Nat.le_of_ble_eq_true rfl) ⟨Nat.le_of_ble_eq_true rfl, Nat.le_of_ble_eq_true rfl⟩ rfl d_Mo_tellOne_177 (c_Mo_tellTie hV hq177) ?_
      refine g_goto (pc := 180) hC (tgt := 321) (by decide) d_Mo_tellOne_180 ?_
      exact g_vW (pc := 321) hC d_Mo_tellOne_321 h
  rw [if_neg hs9_24] at h
  by_cases hs9_28 : (S.2.1 0 5 (S.1 0 11).toNatClampNeg) = 28
  · rw [if_pos hs9_28] at h
    refine g_table (pc := 9) hC (tgt := 183) d_Mo_tellOne_9 rfl (by rw [hs9_28]; decide) ?_
    refine g_aload_n (pc := 183) hC (i := 0) (x := (V.2.2.1 0 0)) rfl rfl d_Mo_tellOne_183 ?_
    obtain ⟨q184, hq184, h⟩ := Option.bind_eq_some_iff.mp h
    refine g_vv (pc := 184) hC (As := []) (st := []) mt_Mo_goesOn lk_Mo_236 rfl (ob_Mo hV) (Nat.le_of_ble_eq_true rfl) ⟨Nat.le_of_ble_eq_true rfl, Nat.le_of_ble_eq_true rfl⟩ rfl d_Mo_tellOne_184 (c_Mo_goesOn hV hq184) ?_
    refine g_aload_n (pc := 187) hC (i := 0) (x := (V.2.2.1 0 0)) rfl rfl d_Mo_tellOne_187 ?_
    refine g_getA (pc := 188) hC fo_Mo_89 (ob_Mo hV) rfl d_Mo_tellOne_188 ?_
    refine g_aload_n (pc := 191) hC (i := 0) (x := (V.2.2.1 0 0)) rfl rfl d_Mo_tellOne_191 ?_
    refine g_getI (pc := 192) hC fo_Mo_248 (ob_Mo hV) rfl d_Mo_tellOne_192 ?_
    refine g_aload_n (pc := 195) hC (i := 0) (x := (V.2.2.1 0 0)) rfl rfl d_Mo_tellOne_195 ?_
    refine g_iconst (pc := 196) hC kc_1 d_Mo_tellOne_196 ?_
    refine g_bipush (pc := 197) hC kb_99 d_Mo_tellOne_197 ?_
    obtain ⟨q199, hq199, h⟩ := Option.bind_eq_some_iff.mp h
    refine g_vi (pc := 199) hC (As := [.int 1, .int 99]) (st := [.int (q184.1 0 19), .ref (V.2.2.1 0 (37 + 1))]) mt_Mo_bounded lk_Mo_285 rfl (ob_Mo hV) (Nat.le_of_ble_eq_true rfl) ⟨Nat.le_of_ble_eq_true rfl, Nat.le_of_ble_eq_true rfl⟩ rfl d_Mo_tellOne_199 (c_Mo_bounded hV hq199) ?_
    refine g_iast (pc := 202) hC (ar_Mo_37 hV) d_Mo_tellOne_202 h (fun h => ?_)
    refine g_letS h (fun S202 h => ?_)
    refine g_aload_n (pc := 203) hC (i := 0) (x := (V.2.2.1 0 0)) rfl rfl d_Mo_tellOne_203 ?_
    refine g_iconst (pc := 204) hC kc_4 d_Mo_tellOne_204 ?_
    obtain ⟨q205, hq205, h⟩ := Option.bind_eq_some_iff.mp h
    refine g_vv (pc := 205) hC (As := [.int 4]) (st := []) mt_Mo_must lk_Mo_289 rfl (ob_Mo hV) (Nat.le_of_ble_eq_true rfl) ⟨Nat.le_of_ble_eq_true rfl, Nat.le_of_ble_eq_true rfl⟩ rfl d_Mo_tellOne_205 (c_Mo_must hV hq205) ?_
    refine g_goto (pc := 208) hC (tgt := 321) (by decide) d_Mo_tellOne_208 ?_
    exact g_vW (pc := 321) hC d_Mo_tellOne_321 h
  rw [if_neg hs9_28] at h
  by_cases hs9_29 : (S.2.1 0 5 (S.1 0 11).toNatClampNeg) = 29
  · rw [if_pos hs9_29] at h
    refine g_table (pc := 9) hC (tgt := 211) d_Mo_tellOne_9 rfl (by rw [hs9_29]; decide) ?_
    refine g_aload_n (pc := 211) hC (i := 0) (x := (V.2.2.1 0 0)) rfl rfl d_Mo_tellOne_211 ?_
    obtain ⟨q212, hq212, h⟩ := Option.bind_eq_some_iff.mp h
    refine g_vv (pc := 212) hC (As := []) (st := []) mt_Mo_goesOn lk_Mo_236 rfl (ob_Mo hV) (Nat.le_of_ble_eq_true rfl) ⟨Nat.le_of_ble_eq_true rfl, Nat.le_of_ble_eq_true rfl⟩ rfl d_Mo_tellOne_212 (c_Mo_goesOn hV hq212) ?_
    refine g_aload_n (pc := 215) hC (i := 0) (x := (V.2.2.1 0 0)) rfl rfl d_Mo_tellOne_215 ?_
    refine g_getA (pc := 216) hC fo_Mo_92 (ob_Mo hV) rfl d_Mo_tellOne_216 ?_
    refine g_aload_n (pc := 219) hC (i := 0) (x := (V.2.2.1 0 0)) rfl rfl d_Mo_tellOne_219 ?_
    refine g_getI (pc := 220) hC fo_Mo_248 (ob_Mo hV) rfl d_Mo_tellOne_220 ?_
    refine g_aload_n (pc := 223) hC (i := 0) (x := (V.2.2.1 0 0)) rfl rfl d_Mo_tellOne_223 ?_
    refine g_iconst (pc := 224) hC kc_0 d_Mo_tellOne_224 ?_
    refine g_bipush (pc := 225) hC kb_99 d_Mo_tellOne_225 ?_
    obtain ⟨q227, hq227, h⟩ := Option.bind_eq_some_iff.mp h
    refine g_vi (pc := 227) hC (As := [.int 0, .int 99]) (st := [.int (q212.1 0 19), .ref (V.2.2.1 0 (38 + 1))]) mt_Mo_bounded lk_Mo_285 rfl (ob_Mo hV) (Nat.le_of_ble_eq_true rfl) ⟨Nat.le_of_ble_eq_true rfl, Nat.le_of_ble_eq_true rfl⟩ rfl d_Mo_tellOne_227 (c_Mo_bounded hV hq227) ?_
    refine g_iast (pc := 230) hC (ar_Mo_38 hV) d_Mo_tellOne_230 h (fun h => ?_)
    refine g_letS h (fun S230 h => ?_)
    refine g_aload_n (pc := 231) hC (i := 0) (x := (V.2.2.1 0 0)) rfl rfl d_Mo_tellOne_231 ?_
    refine g_iconst (pc := 232) hC kc_4 d_Mo_tellOne_232 ?_
    obtain ⟨q233, hq233, h⟩ := Option.bind_eq_some_iff.mp h
    refine g_vv (pc := 233) hC (As := [.int 4]) (st := []) mt_Mo_must lk_Mo_289 rfl (ob_Mo hV) (Nat.le_of_ble_eq_true rfl) ⟨Nat.le_of_ble_eq_true rfl, Nat.le_of_ble_eq_true rfl⟩ rfl d_Mo_tellOne_233 (c_Mo_must hV hq233) ?_
    refine g_goto (pc := 236) hC (tgt := 321) (by decide) d_Mo_tellOne_236 ?_
    exact g_vW (pc := 321) hC d_Mo_tellOne_321 h
  rw [if_neg hs9_29] at h
  by_cases hs9_30 : (S.2.1 0 5 (S.1 0 11).toNatClampNeg) = 30
  · rw [if_pos hs9_30] at h
    refine g_table (pc := 9) hC (tgt := 239) d_Mo_tellOne_9 rfl (by rw [hs9_30]; decide) ?_
    refine g_aload_n (pc := 239) hC (i := 0) (x := (V.2.2.1 0 0)) rfl rfl d_Mo_tellOne_239 ?_
    obtain ⟨q240, hq240, h⟩ := Option.bind_eq_some_iff.mp h
    refine g_vv (pc := 240) hC (As := []) (st := []) mt_Mo_goesOn lk_Mo_236 rfl (ob_Mo hV) (Nat.le_of_ble_eq_true rfl) ⟨Nat.le_of_ble_eq_true rfl, Nat.le_of_ble_eq_true rfl⟩ rfl d_Mo_tellOne_240 (c_Mo_goesOn hV hq240) ?_
    refine g_aload_n (pc := 243) hC (i := 0) (x := (V.2.2.1 0 0)) rfl rfl d_Mo_tellOne_243 ?_
    refine g_getA (pc := 244) hC fo_Mo_95 (ob_Mo hV) rfl d_Mo_tellOne_244 ?_
    refine g_aload_n (pc := 247) hC (i := 0) (x := (V.2.2.1 0 0)) rfl rfl d_Mo_tellOne_247 ?_
    refine g_getI (pc := 248) hC fo_Mo_248 (ob_Mo hV) rfl d_Mo_tellOne_248 ?_
    refine g_aload_n (pc := 251) hC (i := 0) (x := (V.2.2.1 0 0)) rfl rfl d_Mo_tellOne_251 ?_
    refine g_iconst (pc := 252) hC kc_0 d_Mo_tellOne_252 ?_
    refine g_sipush (pc := 253) hC ks_9999 d_Mo_tellOne_253 ?_
    obtain ⟨q256, hq256, h⟩ := Option.bind_eq_some_iff.mp h
    refine g_vi (pc := 256) hC (As := [.int 0, .int 9999]) (st := [.int (q240.1 0 19), .ref (V.2.2.1 0 (39 + 1))]) mt_Mo_bounded lk_Mo_285 rfl (ob_Mo hV) (Nat.le_of_ble_eq_true rfl) ⟨Nat.le_of_ble_eq_true rfl, Nat.le_of_ble_eq_true rfl⟩ rfl d_Mo_tellOne_256 (c_Mo_bounded hV hq256) ?_
    refine g_iast (pc := 259) hC (ar_Mo_39 hV) d_Mo_tellOne_259 h (fun h => ?_)
    refine g_letS h (fun S259 h => ?_)
    refine g_aload_n (pc := 260) hC (i := 0) (x := (V.2.2.1 0 0)) rfl rfl d_Mo_tellOne_260 ?_
    refine g_iconst (pc := 261) hC kc_4 d_Mo_tellOne_261 ?_
    obtain ⟨q262, hq262, h⟩ := Option.bind_eq_some_iff.mp h
    refine g_vv (pc := 262) hC (As := [.int 4]) (st := []) mt_Mo_must lk_Mo_289 rfl (ob_Mo hV) (Nat.le_of_ble_eq_true rfl) ⟨Nat.le_of_ble_eq_true rfl, Nat.le_of_ble_eq_true rfl⟩ rfl d_Mo_tellOne_262 (c_Mo_must hV hq262) ?_
    refine g_goto (pc := 265) hC (tgt := 321) (by decide) d_Mo_tellOne_265 ?_
    exact g_vW (pc := 321) hC d_Mo_tellOne_321 h
  rw [if_neg hs9_30] at h
  refine g_table (pc := 9) hC (tgt := 268) d_Mo_tellOne_9 rfl ((sw_else [(20 : Int32), (21 : Int32), (22 : Int32), (24 : Int32), (28 : Int32), (29 : Int32), (30 : Int32)] (by intro v hv; simp only [List.mem_cons, List.not_mem_nil, or_false] at hv; rcases hv with rfl | rfl | rfl | rfl | rfl | rfl | rfl <;> assumption) (by decide)).trans (by decide)) ?_
  refine g_aload_n (pc := 268) hC (i := 0) (x := (V.2.2.1 0 0)) rfl rfl d_Mo_tellOne_268 ?_
  refine g_getA (pc := 269) hC fo_Mo_20 (ob_Mo hV) rfl d_Mo_tellOne_269 ?_
  refine g_aload_n (pc := 272) hC (i := 0) (x := (V.2.2.1 0 0)) rfl rfl d_Mo_tellOne_272 ?_
  refine g_getI (pc := 273) hC fo_Mo_218 (ob_Mo hV) rfl d_Mo_tellOne_273 ?_
  refine g_iald (pc := 276) hC (ar_Mo_5 hV) d_Mo_tellOne_276 h (fun h => ?_)
  refine g_bipush (pc := 277) hC kb_25 d_Mo_tellOne_277 ?_
  refine g_isub (pc := 279) hC d_Mo_tellOne_279 ?_
  refine g_leti h (fun y280 h => ?_)
  refine s_istore_n (pc := 280) hC (i := 1) rfl (by decide) d_Mo_tellOne_280 (lv2 := [some (.ref (V.2.2.1 0 0)), some (.int y280)]) rfl ?_
  refine g_iload_n (pc := 281) hC (i := 1) (x := y280) rfl rfl d_Mo_tellOne_281 ?_
  refine g_if_lt (pc := 282) hC (tgt := 299) (by decide) d_Mo_tellOne_282 h (fun h => ?_) (fun h => ?_)
  · exact w_Mo_tellOne_b299 hV hC y280 S h
  · refine g_aload_n (pc := 285) hC (i := 0) (x := (V.2.2.1 0 0)) rfl rfl d_Mo_tellOne_285 ?_
    refine g_getA (pc := 286) hC fo_Mo_20 (ob_Mo hV) rfl d_Mo_tellOne_286 ?_
    refine g_aload_n (pc := 289) hC (i := 0) (x := (V.2.2.1 0 0)) rfl rfl d_Mo_tellOne_289 ?_
    refine g_getI (pc := 290) hC fo_Mo_218 (ob_Mo hV) rfl d_Mo_tellOne_290 ?_
    refine g_iald (pc := 293) hC (ar_Mo_5 hV) d_Mo_tellOne_293 h (fun h => ?_)
    refine g_bipush (pc := 294) hC kb_27 d_Mo_tellOne_294 ?_
    refine g_icmp_le (pc := 296) hC (tgt := 304) (by decide) d_Mo_tellOne_296 h (fun h => ?_) (fun h => ?_)
    · exact w_Mo_tellOne_b304 hV hC y280 S h
    · exact w_Mo_tellOne_b299 hV hC y280 S h
theorem c_Mo_tellOne {V : WV} {l : Launch} (hV : IsM V) {S : Mem} {z : Mem} (h : f_Mo_tellOne S = some z) : CV V l y_Mo_tellOne bc_Mo_tellOne 2 none 6 126 [.ref (V.2.2.1 0 0)] S z :=
  ct_v rfl (IsM.ok hV) (Nat.le_of_ble_eq_true rfl) (fun _ _ hC => w_Mo_tellOne_b0 hV hC S h)
def f_Mo_knows_b0 (S : Mem) (x1 : Int32) (x2 : Int32) : Option (Int32) :=
  gIn (26 + x1) 40 (
  if (((S.2.1 0 57 (26 + x1).toNatClampNeg) >>> (x2 &&& 31)) &&& 1) = 1 then
    some 1
  else
    some 0)
def f_Mo_knows (x1 : Int32) (x2 : Int32) (S : Mem) : Option (Int32) := f_Mo_knows_b0 S x1 x2
theorem d_Mo_knows_0 : decode bc_Mo_knows 0 = .ok (.aload_n 0, 1) := by decide +kernel
theorem d_Mo_knows_1 : decode bc_Mo_knows 1 = .ok (.getfield 137, 3) := by decide +kernel
theorem d_Mo_knows_4 : decode bc_Mo_knows 4 = .ok (.bipush 26, 2) := by decide +kernel
theorem d_Mo_knows_6 : decode bc_Mo_knows 6 = .ok (.iload_n 1, 1) := by decide +kernel
theorem d_Mo_knows_7 : decode bc_Mo_knows 7 = .ok (.iadd, 1) := by decide +kernel
theorem d_Mo_knows_8 : decode bc_Mo_knows 8 = .ok (.iaload, 1) := by decide +kernel
theorem d_Mo_knows_9 : decode bc_Mo_knows 9 = .ok (.iload_n 2, 1) := by decide +kernel
theorem d_Mo_knows_10 : decode bc_Mo_knows 10 = .ok (.ishr, 1) := by decide +kernel
theorem d_Mo_knows_11 : decode bc_Mo_knows 11 = .ok (.iconst 1, 1) := by decide +kernel
theorem d_Mo_knows_12 : decode bc_Mo_knows 12 = .ok (.iand, 1) := by decide +kernel
theorem d_Mo_knows_13 : decode bc_Mo_knows 13 = .ok (.iconst 1, 1) := by decide +kernel
theorem d_Mo_knows_14 : decode bc_Mo_knows 14 = .ok (.if_icmp .ne 7, 3) := by decide +kernel
theorem d_Mo_knows_17 : decode bc_Mo_knows 17 = .ok (.iconst 1, 1) := by decide +kernel
theorem d_Mo_knows_18 : decode bc_Mo_knows 18 = .ok (.goto 4, 3) := by decide +kernel
theorem d_Mo_knows_21 : decode bc_Mo_knows 21 = .ok (.iconst 0, 1) := by decide +kernel
theorem d_Mo_knows_22 : decode bc_Mo_knows 22 = .ok (.ireturn, 1) := by decide +kernel
set_option maxRecDepth 20000 in
theorem w_Mo_knows_b0 {X : CX} {V : WV} (hV : IsM V) {S : Mem} {z : Int32} (hC : Ck X V bc_Mo_knows 3 "SecretWellsModel" (some .boolean) 0 0) (x1 : Int32) (x2 : Int32) (h : f_Mo_knows_b0 S x1 x2 = some z) : G X V 3 (QI X V z S) 0 [some (.ref (V.2.2.1 0 0)), some (.int x1), some (.int x2)] [] S := by
  unfold f_Mo_knows_b0 at h
  refine g_aload_n (pc := 0) hC (i := 0) (x := (V.2.2.1 0 0)) rfl rfl d_Mo_knows_0 ?_
  refine g_getA (pc := 1) hC fo_Mo_137 (ob_Mo hV) rfl d_Mo_knows_1 ?_
  refine g_bipush (pc := 4) hC kb_26 d_Mo_knows_4 ?_
  refine g_iload_n (pc := 6) hC (i := 1) (x := x1) rfl rfl d_Mo_knows_6 ?_
  refine g_iadd (pc := 7) hC d_Mo_knows_7 ?_
  refine g_iald (pc := 8) hC (ar_Mo_57 hV) d_Mo_knows_8 h (fun h => ?_)
  refine g_iload_n (pc := 9) hC (i := 2) (x := x2) rfl rfl d_Mo_knows_9 ?_
  refine g_ishr (pc := 10) hC d_Mo_knows_10 ?_
  refine g_iconst (pc := 11) hC kc_1 d_Mo_knows_11 ?_
  refine g_iand (pc := 12) hC d_Mo_knows_12 ?_
  refine g_iconst (pc := 13) hC kc_1 d_Mo_knows_13 ?_
  refine g_icmp_ne (pc := 14) hC (tgt := 21) (by decide) d_Mo_knows_14 h (fun h => ?_) (fun h => ?_)
  · refine g_iconst (pc := 21) hC kc_0 d_Mo_knows_21 ?_
    exact g_iN (pc := 22) hC rfl d_Mo_knows_22 h
  · refine g_iconst (pc := 17) hC kc_1 d_Mo_knows_17 ?_
    refine g_goto (pc := 18) hC (tgt := 22) (by decide) d_Mo_knows_18 ?_
    exact g_iN (pc := 22) hC rfl d_Mo_knows_22 h
theorem c_Mo_knows {V : WV} {l : Launch} (hV : IsM V) {x1 : Int32} {x2 : Int32} {S : Mem} {z : Int32} (h : f_Mo_knows x1 x2 S = some z) : CI V l y_Mo_knows bc_Mo_knows 3 (some .boolean) 0 0 [.ref (V.2.2.1 0 0), .int x1, .int x2] S z S :=
  ct_i rfl (IsM.ok hV) (Nat.le_of_ble_eq_true rfl) (fun _ _ hC => w_Mo_knows_b0 hV hC x1 x2 h)
def f_Mo_knowersOf_b4 (S : Mem) (k4 : Int32 → Int32 → Int32 → Option (Int32)) (x1 : Int32) (x2 : Int32) (x3 : Int32) : Option (Int32) :=
  gIn (S.1 0 18) 2 (
  if (S.2.1 0 27 (S.1 0 18).toNatClampNeg) ≤ x3 then
    some x2
  else
    Option.bind (f_Mo_knows x3 x1 S) (fun q20 =>
    if q20 = 0 then
      k4 x1 x2 (x3 + 1)
    else
      letS (x2 ||| ((1 : Int32) <<< (x3 &&& 31))) (fun y31 =>
      k4 x1 y31 (x3 + 1))))
def f_Mo_knowersOf_l4 (S : Mem) : Nat → Int32 → Int32 → Int32 → Option (Int32)
  | 0 => fun _ _ _ => none
  | n + 1 => f_Mo_knowersOf_b4 S (f_Mo_knowersOf_l4 S n)
def f_Mo_knowersOf_b0 (S : Mem) (x1 : Int32) : Option (Int32) :=
  f_Mo_knowersOf_l4 S 5000 x1 0 0
def f_Mo_knowersOf (x1 : Int32) (S : Mem) : Option (Int32) := f_Mo_knowersOf_b0 S x1
theorem d_Mo_knowersOf_0 : decode bc_Mo_knowersOf 0 = .ok (.iconst 0, 1) := by decide +kernel
theorem d_Mo_knowersOf_1 : decode bc_Mo_knowersOf 1 = .ok (.istore_n 2, 1) := by decide +kernel
theorem d_Mo_knowersOf_2 : decode bc_Mo_knowersOf 2 = .ok (.iconst 0, 1) := by decide +kernel
theorem d_Mo_knowersOf_3 : decode bc_Mo_knowersOf 3 = .ok (.istore_n 3, 1) := by decide +kernel
theorem d_Mo_knowersOf_4 : decode bc_Mo_knowersOf 4 = .ok (.iload_n 3, 1) := by decide +kernel
theorem d_Mo_knowersOf_5 : decode bc_Mo_knowersOf 5 = .ok (.aload_n 0, 1) := by decide +kernel
theorem d_Mo_knowersOf_6 : decode bc_Mo_knowersOf 6 = .ok (.getfield 58, 3) := by decide +kernel
theorem d_Mo_knowersOf_9 : decode bc_Mo_knowersOf 9 = .ok (.aload_n 0, 1) := by decide +kernel
theorem d_Mo_knowersOf_10 : decode bc_Mo_knowersOf 10 = .ok (.getfield 245, 3) := by decide +kernel
theorem d_Mo_knowersOf_13 : decode bc_Mo_knowersOf 13 = .ok (.iaload, 1) := by decide +kernel
theorem d_Mo_knowersOf_14 : decode bc_Mo_knowersOf 14 = .ok (.if_icmp .ge 24, 3) := by decide +kernel
theorem d_Mo_knowersOf_17 : decode bc_Mo_knowersOf 17 = .ok (.aload_n 0, 1) := by decide +kernel
theorem d_Mo_knowersOf_18 : decode bc_Mo_knowersOf 18 = .ok (.iload_n 3, 1) := by decide +kernel
theorem d_Mo_knowersOf_19 : decode bc_Mo_knowersOf 19 = .ok (.iload_n 1, 1) := by decide +kernel
theorem d_Mo_knowersOf_20 : decode bc_Mo_knowersOf 20 = .ok (.invokevirtual 342, 3) := by decide +kernel
theorem d_Mo_knowersOf_23 : decode bc_Mo_knowersOf 23 = .ok (.ifCond .eq 9, 3) := by decide +kernel
theorem d_Mo_knowersOf_26 : decode bc_Mo_knowersOf 26 = .ok (.iload_n 2, 1) := by decide +kernel
theorem d_Mo_knowersOf_27 : decode bc_Mo_knowersOf 27 = .ok (.iconst 1, 1) := by decide +kernel
theorem d_Mo_knowersOf_28 : decode bc_Mo_knowersOf 28 = .ok (.iload_n 3, 1) := by decide +kernel
theorem d_Mo_knowersOf_29 : decode bc_Mo_knowersOf 29 = .ok (.ishl, 1) := by decide +kernel
theorem d_Mo_knowersOf_30 : decode bc_Mo_knowersOf 30 = .ok (.ior, 1) := by decide +kernel
theorem d_Mo_knowersOf_31 : decode bc_Mo_knowersOf 31 = .ok (.istore_n 2, 1) := by decide +kernel
theorem d_Mo_knowersOf_32 : decode bc_Mo_knowersOf 32 = .ok (.iinc 3 1, 3) := by decide +kernel
theorem d_Mo_knowersOf_35 : decode bc_Mo_knowersOf 35 = .ok (.goto (-31), 3) := by decide +kernel
theorem d_Mo_knowersOf_38 : decode bc_Mo_knowersOf 38 = .ok (.iload_n 2, 1) := by decide +kernel
theorem d_Mo_knowersOf_39 : decode bc_Mo_knowersOf 39 = .ok (.ireturn, 1) := by decide +kernel
set_option maxRecDepth 20000 in
theorem w_Mo_knowersOf_b4 {X : CX} {V : WV} (hV : IsM V) {S : Mem} {z : Int32} (hC : Ck X V bc_Mo_knowersOf 4 "SecretWellsModel" (some .int) 1 22) (k4 : Int32 → Int32 → Int32 → Option (Int32)) (hk4 : ∀ (x1 : Int32) (x2 : Int32) (x3 : Int32), k4 x1 x2 x3 = some z → G X V 4 (QI X V z S) 4 [some (.ref (V.2.2.1 0 0)), some (.int x1), some (.int x2), some (.int x3)] [] S) (x1 : Int32) (x2 : Int32) (x3 : Int32) (h : f_Mo_knowersOf_b4 S k4 x1 x2 x3 = some z) : G X V 4 (QI X V z S) 4 [some (.ref (V.2.2.1 0 0)), some (.int x1), some (.int x2), some (.int x3)] [] S := by
  unfold f_Mo_knowersOf_b4 at h
  refine g_iload_n (pc := 4) hC (i := 3) (x := x3) rfl rfl d_Mo_knowersOf_4 ?_
  refine g_aload_n (pc := 5) hC (i := 0) (x := (V.2.2.1 0 0)) rfl rfl d_Mo_knowersOf_5 ?_
  refine g_getA (pc := 6) hC fo_Mo_58 (ob_Mo hV) rfl d_Mo_knowersOf_6 ?_
  refine g_aload_n (pc := 9) hC (i := 0) (x := (V.2.2.1 0 0)) rfl rfl d_Mo_knowersOf_9 ?_
  refine g_getI (pc := 10) hC fo_Mo_245 (ob_Mo hV) rfl d_Mo_knowersOf_10 ?_
  refine g_iald (pc := 13) hC (ar_Mo_27 hV) d_Mo_knowersOf_13 h (fun h => ?_)
  refine g_icmp_ge (pc := 14) hC (tgt := 38) (by decide) d_Mo_knowersOf_14 h (fun h => ?_) (fun h => ?_)
  · refine g_iload_n (pc := 38) hC (i := 2) (x := x2) rfl rfl d_Mo_knowersOf_38 ?_
    exact g_iN (pc := 39) hC rfl d_Mo_knowersOf_39 h
  · refine g_aload_n (pc := 17) hC (i := 0) (x := (V.2.2.1 0 0)) rfl rfl d_Mo_knowersOf_17 ?_
    refine g_iload_n (pc := 18) hC (i := 3) (x := x3) rfl rfl d_Mo_knowersOf_18 ?_
    refine g_iload_n (pc := 19) hC (i := 1) (x := x1) rfl rfl d_Mo_knowersOf_19 ?_
    obtain ⟨q20, hq20, h⟩ := Option.bind_eq_some_iff.mp h
    refine g_vi (pc := 20) hC (As := [.int x3, .int x1]) (st := []) mt_Mo_knows lk_Mo_342 rfl (ob_Mo hV) (Nat.le_of_ble_eq_true rfl) ⟨Nat.le_of_ble_eq_true rfl, Nat.le_of_ble_eq_true rfl⟩ rfl d_Mo_knowersOf_20 (c_Mo_knows hV hq20) ?_
    refine g_if_eq (pc := 23) hC (tgt := 32) (by decide) d_Mo_knowersOf_23 h (fun h => ?_) (fun h => ?_)
    · refine s_iinc (pc := 32) hC (i := 3) (x := x3) (v := x3 + 1) rfl (by rw [kc_1]) (by decide) d_Mo_knowersOf_32 (lv2 := [some (.ref (V.2.2.1 0 0)), some (.int x1), some (.int x2), some (.int (x3 + 1))]) rfl ?_
      refine g_goto (pc := 35) hC (tgt := 4) (by decide) d_Mo_knowersOf_35 ?_
      exact hk4 x1 x2 (x3 + 1) h
    · refine g_iload_n (pc := 26) hC (i := 2) (x := x2) rfl rfl d_Mo_knowersOf_26 ?_
      refine g_iconst (pc := 27) hC kc_1 d_Mo_knowersOf_27 ?_
      refine g_iload_n (pc := 28) hC (i := 3) (x := x3) rfl rfl d_Mo_knowersOf_28 ?_
      refine g_ishl (pc := 29) hC d_Mo_knowersOf_29 ?_
      refine g_ior (pc := 30) hC d_Mo_knowersOf_30 ?_
      refine g_leti h (fun y31 h => ?_)
      refine s_istore_n (pc := 31) hC (i := 2) rfl (by decide) d_Mo_knowersOf_31 (lv2 := [some (.ref (V.2.2.1 0 0)), some (.int x1), some (.int y31), some (.int x3)]) rfl ?_
      refine s_iinc (pc := 32) hC (i := 3) (x := x3) (v := x3 + 1) rfl (by rw [kc_1]) (by decide) d_Mo_knowersOf_32 (lv2 := [some (.ref (V.2.2.1 0 0)), some (.int x1), some (.int y31), some (.int (x3 + 1))]) rfl ?_
      refine g_goto (pc := 35) hC (tgt := 4) (by decide) d_Mo_knowersOf_35 ?_
      exact hk4 x1 y31 (x3 + 1) h
theorem w_Mo_knowersOf_l4 {X : CX} {V : WV} (hV : IsM V) {S : Mem} {z : Int32} (hC : Ck X V bc_Mo_knowersOf 4 "SecretWellsModel" (some .int) 1 22) : ∀ (n : Nat) (x1 : Int32) (x2 : Int32) (x3 : Int32), f_Mo_knowersOf_l4 S n x1 x2 x3 = some z → G X V 4 (QI X V z S) 4 [some (.ref (V.2.2.1 0 0)), some (.int x1), some (.int x2), some (.int x3)] [] S := by
  intro n
  induction n with
  | zero =>
    intro x1 x2 x3 h
    have h : (none : Option (Int32)) = some z := h
    cases h
  | succ n ih =>
    intro x1 x2 x3 h
    exact w_Mo_knowersOf_b4 hV hC (f_Mo_knowersOf_l4 S n) ih x1 x2 x3 h
set_option maxRecDepth 20000 in
theorem w_Mo_knowersOf_b0 {X : CX} {V : WV} (hV : IsM V) {S : Mem} {z : Int32} (hC : Ck X V bc_Mo_knowersOf 4 "SecretWellsModel" (some .int) 1 22) (x1 : Int32) (h : f_Mo_knowersOf_b0 S x1 = some z) : G X V 4 (QI X V z S) 0 [some (.ref (V.2.2.1 0 0)), some (.int x1), none, none] [] S := by
  unfold f_Mo_knowersOf_b0 at h
  refine g_iconst (pc := 0) hC kc_0 d_Mo_knowersOf_0 ?_
  refine s_istore_n (pc := 1) hC (i := 2) rfl (by decide) d_Mo_knowersOf_1 (lv2 := [some (.ref (V.2.2.1 0 0)), some (.int x1), some (.int 0), none]) rfl ?_
  refine g_iconst (pc := 2) hC kc_0 d_Mo_knowersOf_2 ?_
  refine s_istore_n (pc := 3) hC (i := 3) rfl (by decide) d_Mo_knowersOf_3 (lv2 := [some (.ref (V.2.2.1 0 0)), some (.int x1), some (.int 0), some (.int 0)]) rfl ?_
  exact w_Mo_knowersOf_l4 hV hC 5000 x1 0 0 h
theorem c_Mo_knowersOf {V : WV} {l : Launch} (hV : IsM V) {x1 : Int32} {S : Mem} {z : Int32} (h : f_Mo_knowersOf x1 S = some z) : CI V l y_Mo_knowersOf bc_Mo_knowersOf 4 (some .int) 1 22 [.ref (V.2.2.1 0 0), .int x1] S z S :=
  ct_i rfl (IsM.ok hV) (Nat.le_of_ble_eq_true rfl) (fun _ _ hC => w_Mo_knowersOf_b0 hV hC x1 h)
def f_Mo_bits_b4 (k4 : Int32 → Int32 → Int32 → Option (Int32)) (x0 : Int32) (x1 : Int32) (x2 : Int32) : Option (Int32) :=
  if 12 ≤ x2 then
    some x1
  else
    letS (x1 + ((x0 >>> (x2 &&& 31)) &&& 1)) (fun y17 =>
    k4 x0 y17 (x2 + 1))
def f_Mo_bits_l4 : Nat → Int32 → Int32 → Int32 → Option (Int32)
  | 0 => fun _ _ _ => none
  | n + 1 => f_Mo_bits_b4  (f_Mo_bits_l4  n)
def f_Mo_bits_b0 (x0 : Int32) : Option (Int32) :=
  f_Mo_bits_l4 5000 x0 0 0
def f_Mo_bits (x0 : Int32) : Option (Int32) := f_Mo_bits_b0  x0
theorem d_Mo_bits_0 : decode bc_Mo_bits 0 = .ok (.iconst 0, 1) := by decide +kernel
theorem d_Mo_bits_1 : decode bc_Mo_bits 1 = .ok (.istore_n 1, 1) := by decide +kernel
theorem d_Mo_bits_2 : decode bc_Mo_bits 2 = .ok (.iconst 0, 1) := by decide +kernel
theorem d_Mo_bits_3 : decode bc_Mo_bits 3 = .ok (.istore_n 2, 1) := by decide +kernel
theorem d_Mo_bits_4 : decode bc_Mo_bits 4 = .ok (.iload_n 2, 1) := by decide +kernel
theorem d_Mo_bits_5 : decode bc_Mo_bits 5 = .ok (.bipush 12, 2) := by decide +kernel
theorem d_Mo_bits_7 : decode bc_Mo_bits 7 = .ok (.if_icmp .ge 17, 3) := by decide +kernel
theorem d_Mo_bits_10 : decode bc_Mo_bits 10 = .ok (.iload_n 1, 1) := by decide +kernel
theorem d_Mo_bits_11 : decode bc_Mo_bits 11 = .ok (.iload_n 0, 1) := by decide +kernel
theorem d_Mo_bits_12 : decode bc_Mo_bits 12 = .ok (.iload_n 2, 1) := by decide +kernel
theorem d_Mo_bits_13 : decode bc_Mo_bits 13 = .ok (.ishr, 1) := by decide +kernel
theorem d_Mo_bits_14 : decode bc_Mo_bits 14 = .ok (.iconst 1, 1) := by decide +kernel
theorem d_Mo_bits_15 : decode bc_Mo_bits 15 = .ok (.iand, 1) := by decide +kernel
theorem d_Mo_bits_16 : decode bc_Mo_bits 16 = .ok (.iadd, 1) := by decide +kernel
theorem d_Mo_bits_17 : decode bc_Mo_bits 17 = .ok (.istore_n 1, 1) := by decide +kernel
theorem d_Mo_bits_18 : decode bc_Mo_bits 18 = .ok (.iinc 2 1, 3) := by decide +kernel
theorem d_Mo_bits_21 : decode bc_Mo_bits 21 = .ok (.goto (-17), 3) := by decide +kernel
theorem d_Mo_bits_24 : decode bc_Mo_bits 24 = .ok (.iload_n 1, 1) := by decide +kernel
theorem d_Mo_bits_25 : decode bc_Mo_bits 25 = .ok (.ireturn, 1) := by decide +kernel
set_option maxRecDepth 20000 in
theorem w_Mo_bits_b4 {X : CX} {V : WV} (hVO : VOk V) {S : Mem} {z : Int32} (hC : Ck X V bc_Mo_bits 3 "SecretWellsModel" (some .int) 0 0) (k4 : Int32 → Int32 → Int32 → Option (Int32)) (hk4 : ∀ (x0 : Int32) (x1 : Int32) (x2 : Int32), k4 x0 x1 x2 = some z → G X V 3 (QI X V z S) 4 [some (.int x0), some (.int x1), some (.int x2)] [] S) (x0 : Int32) (x1 : Int32) (x2 : Int32) (h : f_Mo_bits_b4  k4 x0 x1 x2 = some z) : G X V 3 (QI X V z S) 4 [some (.int x0), some (.int x1), some (.int x2)] [] S := by
  unfold f_Mo_bits_b4 at h
  refine g_iload_n (pc := 4) hC (i := 2) (x := x2) rfl rfl d_Mo_bits_4 ?_
  refine g_bipush (pc := 5) hC kb_12 d_Mo_bits_5 ?_
  refine g_icmp_ge (pc := 7) hC (tgt := 24) (by decide) d_Mo_bits_7 h (fun h => ?_) (fun h => ?_)
  · refine g_iload_n (pc := 24) hC (i := 1) (x := x1) rfl rfl d_Mo_bits_24 ?_
    exact g_iN (pc := 25) hC rfl d_Mo_bits_25 h
  · refine g_iload_n (pc := 10) hC (i := 1) (x := x1) rfl rfl d_Mo_bits_10 ?_
    refine g_iload_n (pc := 11) hC (i := 0) (x := x0) rfl rfl d_Mo_bits_11 ?_
    refine g_iload_n (pc := 12) hC (i := 2) (x := x2) rfl rfl d_Mo_bits_12 ?_
    refine g_ishr (pc := 13) hC d_Mo_bits_13 ?_
    refine g_iconst (pc := 14) hC kc_1 d_Mo_bits_14 ?_
    refine g_iand (pc := 15) hC d_Mo_bits_15 ?_
    refine g_iadd (pc := 16) hC d_Mo_bits_16 ?_
    refine g_leti h (fun y17 h => ?_)
    refine s_istore_n (pc := 17) hC (i := 1) rfl (by decide) d_Mo_bits_17 (lv2 := [some (.int x0), some (.int y17), some (.int x2)]) rfl ?_
    refine s_iinc (pc := 18) hC (i := 2) (x := x2) (v := x2 + 1) rfl (by rw [kc_1]) (by decide) d_Mo_bits_18 (lv2 := [some (.int x0), some (.int y17), some (.int (x2 + 1))]) rfl ?_
    refine g_goto (pc := 21) hC (tgt := 4) (by decide) d_Mo_bits_21 ?_
    exact hk4 x0 y17 (x2 + 1) h
theorem w_Mo_bits_l4 {X : CX} {V : WV} (hVO : VOk V) {S : Mem} {z : Int32} (hC : Ck X V bc_Mo_bits 3 "SecretWellsModel" (some .int) 0 0) : ∀ (n : Nat) (x0 : Int32) (x1 : Int32) (x2 : Int32), f_Mo_bits_l4  n x0 x1 x2 = some z → G X V 3 (QI X V z S) 4 [some (.int x0), some (.int x1), some (.int x2)] [] S := by
  intro n
  induction n with
  | zero =>
    intro x0 x1 x2 h
    have h : (none : Option (Int32)) = some z := h
    cases h
  | succ n ih =>
    intro x0 x1 x2 h
    exact w_Mo_bits_b4 hVO hC (f_Mo_bits_l4  n) ih x0 x1 x2 h
set_option maxRecDepth 20000 in
theorem w_Mo_bits_b0 {X : CX} {V : WV} (hVO : VOk V) {S : Mem} {z : Int32} (hC : Ck X V bc_Mo_bits 3 "SecretWellsModel" (some .int) 0 0) (x0 : Int32) (h : f_Mo_bits_b0  x0 = some z) : G X V 3 (QI X V z S) 0 [some (.int x0), none, none] [] S := by
  unfold f_Mo_bits_b0 at h
  refine g_iconst (pc := 0) hC kc_0 d_Mo_bits_0 ?_
  refine s_istore_n (pc := 1) hC (i := 1) rfl (by decide) d_Mo_bits_1 (lv2 := [some (.int x0), some (.int 0), none]) rfl ?_
  refine g_iconst (pc := 2) hC kc_0 d_Mo_bits_2 ?_
  refine s_istore_n (pc := 3) hC (i := 2) rfl (by decide) d_Mo_bits_3 (lv2 := [some (.int x0), some (.int 0), some (.int 0)]) rfl ?_
  exact w_Mo_bits_l4 hVO hC 5000 x0 0 0 h
theorem c_Mo_bits {V : WV} {l : Launch} (hVO : VOk V) {x0 : Int32} {S : Mem} {z : Int32} (h : f_Mo_bits x0 = some z) : CI V l y_Mo_bits bc_Mo_bits 3 (some .int) 0 0 [.int x0] S z S :=
  ct_i rfl hVO (Nat.le_of_ble_eq_true rfl) (fun _ _ hC => w_Mo_bits_b0 hVO hC x0 h)
def f_Mo_knownBy_b0 (S : Mem) (x1 : Int32) : Option (Int32) :=
  Option.bind (f_Mo_knowersOf x1 S) (fun q2 =>
  gIn 33 40 (
  Option.bind (f_Mo_bits (q2 &&& (S.2.1 0 57 (33 : Int32).toNatClampNeg))) (fun q13 =>
  some q13)))
def f_Mo_knownBy (x1 : Int32) (S : Mem) : Option (Int32) := f_Mo_knownBy_b0 S x1
theorem d_Mo_knownBy_0 : decode bc_Mo_knownBy 0 = .ok (.aload_n 0, 1) := by decide +kernel
theorem d_Mo_knownBy_1 : decode bc_Mo_knownBy 1 = .ok (.iload_n 1, 1) := by decide +kernel
theorem d_Mo_knownBy_2 : decode bc_Mo_knownBy 2 = .ok (.invokevirtual 346, 3) := by decide +kernel
theorem d_Mo_knownBy_5 : decode bc_Mo_knownBy 5 = .ok (.aload_n 0, 1) := by decide +kernel
theorem d_Mo_knownBy_6 : decode bc_Mo_knownBy 6 = .ok (.getfield 137, 3) := by decide +kernel
theorem d_Mo_knownBy_9 : decode bc_Mo_knownBy 9 = .ok (.bipush 33, 2) := by decide +kernel
theorem d_Mo_knownBy_11 : decode bc_Mo_knownBy 11 = .ok (.iaload, 1) := by decide +kernel
theorem d_Mo_knownBy_12 : decode bc_Mo_knownBy 12 = .ok (.iand, 1) := by decide +kernel
theorem d_Mo_knownBy_13 : decode bc_Mo_knownBy 13 = .ok (.invokestatic 349, 3) := by decide +kernel
theorem d_Mo_knownBy_16 : decode bc_Mo_knownBy 16 = .ok (.ireturn, 1) := by decide +kernel
set_option maxRecDepth 20000 in
theorem w_Mo_knownBy_b0 {X : CX} {V : WV} (hV : IsM V) {S : Mem} {z : Int32} (hC : Ck X V bc_Mo_knownBy 2 "SecretWellsModel" (some .int) 2 45) (x1 : Int32) (h : f_Mo_knownBy_b0 S x1 = some z) : G X V 2 (QI X V z S) 0 [some (.ref (V.2.2.1 0 0)), some (.int x1)] [] S := by
  unfold f_Mo_knownBy_b0 at h
  refine g_aload_n (pc := 0) hC (i := 0) (x := (V.2.2.1 0 0)) rfl rfl d_Mo_knownBy_0 ?_
  refine g_iload_n (pc := 1) hC (i := 1) (x := x1) rfl rfl d_Mo_knownBy_1 ?_
  obtain ⟨q2, hq2, h⟩ := Option.bind_eq_some_iff.mp h
  refine g_vi (pc := 2) hC (As := [.int x1]) (st := []) mt_Mo_knowersOf lk_Mo_346 rfl (ob_Mo hV) (Nat.le_of_ble_eq_true rfl) ⟨Nat.le_of_ble_eq_true rfl, Nat.le_of_ble_eq_true rfl⟩ rfl d_Mo_knownBy_2 (c_Mo_knowersOf hV hq2) ?_
  refine g_aload_n (pc := 5) hC (i := 0) (x := (V.2.2.1 0 0)) rfl rfl d_Mo_knownBy_5 ?_
  refine g_getA (pc := 6) hC fo_Mo_137 (ob_Mo hV) rfl d_Mo_knownBy_6 ?_
  refine g_bipush (pc := 9) hC kb_33 d_Mo_knownBy_9 ?_
  refine g_iald (pc := 11) hC (ar_Mo_57 hV) d_Mo_knownBy_11 h (fun h => ?_)
  refine g_iand (pc := 12) hC d_Mo_knownBy_12 ?_
  obtain ⟨q13, hq13, h⟩ := Option.bind_eq_some_iff.mp h
  refine g_si (pc := 13) hC (As := [.int (q2 &&& (S.2.1 0 57 (33 : Int32).toNatClampNeg))]) (st := []) mt_Mo_bits lk_Mo_349 (Nat.le_of_ble_eq_true rfl) ⟨Nat.le_of_ble_eq_true rfl, Nat.le_of_ble_eq_true rfl⟩ rfl d_Mo_knownBy_13 (c_Mo_bits (IsM.ok hV) hq13) ?_
  exact g_iN (pc := 16) hC rfl d_Mo_knownBy_16 h
theorem c_Mo_knownBy {V : WV} {l : Launch} (hV : IsM V) {x1 : Int32} {S : Mem} {z : Int32} (h : f_Mo_knownBy x1 S = some z) : CI V l y_Mo_knownBy bc_Mo_knownBy 2 (some .int) 2 45 [.ref (V.2.2.1 0 0), .int x1] S z S :=
  ct_i rfl (IsM.ok hV) (Nat.le_of_ble_eq_true rfl) (fun _ _ hC => w_Mo_knownBy_b0 hV hC x1 h)
def f_Mo_deeperBy_b18 (S : Mem) (x1 : Int32) (x2 : Int32) : Option (Int32) :=
  gIn ((8 * (S.1 0 18)) + x1) 16 (
  gNz x2 (
  some (((S.2.1 0 31 ((8 * (S.1 0 18)) + x1).toNatClampNeg) * 10) / x2)))
def f_Mo_deeperBy_b0 (S : Mem) (x1 : Int32) (x2 : Int32) (x3 : Int32) : Option (Int32) :=
  if x2 = 0 then
    some 0
  else
    if x2 = x3 then
      if x3 ≤ 1 then
        f_Mo_deeperBy_b18 S x1 x2
      else
        some 0
    else
      f_Mo_deeperBy_b18 S x1 x2
def f_Mo_deeperBy (x1 : Int32) (x2 : Int32) (x3 : Int32) (S : Mem) : Option (Int32) := f_Mo_deeperBy_b0 S x1 x2 x3
theorem d_Mo_deeperBy_0 : decode bc_Mo_deeperBy 0 = .ok (.iload_n 2, 1) := by decide +kernel
theorem d_Mo_deeperBy_1 : decode bc_Mo_deeperBy 1 = .ok (.ifCond .eq 13, 3) := by decide +kernel
theorem d_Mo_deeperBy_4 : decode bc_Mo_deeperBy 4 = .ok (.iload_n 2, 1) := by decide +kernel
theorem d_Mo_deeperBy_5 : decode bc_Mo_deeperBy 5 = .ok (.iload_n 3, 1) := by decide +kernel
theorem d_Mo_deeperBy_6 : decode bc_Mo_deeperBy 6 = .ok (.if_icmp .ne 12, 3) := by decide +kernel
theorem d_Mo_deeperBy_9 : decode bc_Mo_deeperBy 9 = .ok (.iload_n 3, 1) := by decide +kernel
theorem d_Mo_deeperBy_10 : decode bc_Mo_deeperBy 10 = .ok (.iconst 1, 1) := by decide +kernel
theorem d_Mo_deeperBy_11 : decode bc_Mo_deeperBy 11 = .ok (.if_icmp .le 7, 3) := by decide +kernel
theorem d_Mo_deeperBy_14 : decode bc_Mo_deeperBy 14 = .ok (.iconst 0, 1) := by decide +kernel
theorem d_Mo_deeperBy_15 : decode bc_Mo_deeperBy 15 = .ok (.goto 22, 3) := by decide +kernel
theorem d_Mo_deeperBy_18 : decode bc_Mo_deeperBy 18 = .ok (.aload_n 0, 1) := by decide +kernel
theorem d_Mo_deeperBy_19 : decode bc_Mo_deeperBy 19 = .ok (.getfield 70, 3) := by decide +kernel
theorem d_Mo_deeperBy_22 : decode bc_Mo_deeperBy 22 = .ok (.bipush 8, 2) := by decide +kernel
theorem d_Mo_deeperBy_24 : decode bc_Mo_deeperBy 24 = .ok (.aload_n 0, 1) := by decide +kernel
theorem d_Mo_deeperBy_25 : decode bc_Mo_deeperBy 25 = .ok (.getfield 245, 3) := by decide +kernel
theorem d_Mo_deeperBy_28 : decode bc_Mo_deeperBy 28 = .ok (.imul, 1) := by decide +kernel
theorem d_Mo_deeperBy_29 : decode bc_Mo_deeperBy 29 = .ok (.iload_n 1, 1) := by decide +kernel
theorem d_Mo_deeperBy_30 : decode bc_Mo_deeperBy 30 = .ok (.iadd, 1) := by decide +kernel
theorem d_Mo_deeperBy_31 : decode bc_Mo_deeperBy 31 = .ok (.iaload, 1) := by decide +kernel
theorem d_Mo_deeperBy_32 : decode bc_Mo_deeperBy 32 = .ok (.bipush 10, 2) := by decide +kernel
theorem d_Mo_deeperBy_34 : decode bc_Mo_deeperBy 34 = .ok (.imul, 1) := by decide +kernel
theorem d_Mo_deeperBy_35 : decode bc_Mo_deeperBy 35 = .ok (.iload_n 2, 1) := by decide +kernel
theorem d_Mo_deeperBy_36 : decode bc_Mo_deeperBy 36 = .ok (.idiv, 1) := by decide +kernel
theorem d_Mo_deeperBy_37 : decode bc_Mo_deeperBy 37 = .ok (.ireturn, 1) := by decide +kernel
set_option maxRecDepth 20000 in
theorem w_Mo_deeperBy_b18 {X : CX} {V : WV} (hV : IsM V) {S : Mem} {z : Int32} (hC : Ck X V bc_Mo_deeperBy 4 "SecretWellsModel" (some .int) 0 0) (x1 : Int32) (x2 : Int32) (h : f_Mo_deeperBy_b18 S x1 x2 = some z) : G X V 4 (QI X V z S) 18 [some (.ref (V.2.2.1 0 0)), some (.int x1), some (.int x2), none] [] S := by
  unfold f_Mo_deeperBy_b18 at h
  refine g_aload_n (pc := 18) hC (i := 0) (x := (V.2.2.1 0 0)) rfl rfl d_Mo_deeperBy_18 ?_
  refine g_getA (pc := 19) hC fo_Mo_70 (ob_Mo hV) rfl d_Mo_deeperBy_19 ?_
  refine g_bipush (pc := 22) hC kb_8 d_Mo_deeperBy_22 ?_
  refine g_aload_n (pc := 24) hC (i := 0) (x := (V.2.2.1 0 0)) rfl rfl d_Mo_deeperBy_24 ?_
  refine g_getI (pc := 25) hC fo_Mo_245 (ob_Mo hV) rfl d_Mo_deeperBy_25 ?_
  refine g_imul (pc := 28) hC d_Mo_deeperBy_28 ?_
  refine g_iload_n (pc := 29) hC (i := 1) (x := x1) rfl rfl d_Mo_deeperBy_29 ?_
  refine g_iadd (pc := 30) hC d_Mo_deeperBy_30 ?_
  refine g_iald (pc := 31) hC (ar_Mo_31 hV) d_Mo_deeperBy_31 h (fun h => ?_)
  refine g_bipush (pc := 32) hC kb_10 d_Mo_deeperBy_32 ?_
  refine g_imul (pc := 34) hC d_Mo_deeperBy_34 ?_
  refine g_iload_n (pc := 35) hC (i := 2) (x := x2) rfl rfl d_Mo_deeperBy_35 ?_
  refine g_idiv (pc := 36) hC d_Mo_deeperBy_36 h (fun h => ?_)
  exact g_iN (pc := 37) hC rfl d_Mo_deeperBy_37 h
set_option maxRecDepth 20000 in
theorem w_Mo_deeperBy_b0 {X : CX} {V : WV} (hV : IsM V) {S : Mem} {z : Int32} (hC : Ck X V bc_Mo_deeperBy 4 "SecretWellsModel" (some .int) 0 0) (x1 : Int32) (x2 : Int32) (x3 : Int32) (h : f_Mo_deeperBy_b0 S x1 x2 x3 = some z) : G X V 4 (QI X V z S) 0 [some (.ref (V.2.2.1 0 0)), some (.int x1), some (.int x2), some (.int x3)] [] S := by
  unfold f_Mo_deeperBy_b0 at h
  refine g_iload_n (pc := 0) hC (i := 2) (x := x2) rfl rfl d_Mo_deeperBy_0 ?_
  refine g_if_eq (pc := 1) hC (tgt := 14) (by decide) d_Mo_deeperBy_1 h (fun h => ?_) (fun h => ?_)
  · refine g_iconst (pc := 14) hC kc_0 d_Mo_deeperBy_14 ?_
    refine g_goto (pc := 15) hC (tgt := 37) (by decide) d_Mo_deeperBy_15 ?_
    exact g_iN (pc := 37) hC rfl d_Mo_deeperBy_37 h
  · refine g_iload_n (pc := 4) hC (i := 2) (x := x2) rfl rfl d_Mo_deeperBy_4 ?_
    refine g_iload_n (pc := 5) hC (i := 3) (x := x3) rfl rfl d_Mo_deeperBy_5 ?_
    refine g_icmp_ne (pc := 6) hC (tgt := 18) (by decide) d_Mo_deeperBy_6 h (fun h => ?_) (fun h => ?_)
    · refine g_le (lv2 := [some (.ref (V.2.2.1 0 0)), some (.int x1), some (.int x2), none]) (⟨rfl, ⟨rfl, ⟨rfl, trivial⟩⟩⟩) ?_
      exact w_Mo_deeperBy_b18 hV hC x1 x2 h
    · refine g_iload_n (pc := 9) hC (i := 3) (x := x3) rfl rfl d_Mo_deeperBy_9 ?_
      refine g_iconst (pc := 10) hC kc_1 d_Mo_deeperBy_10 ?_
      refine g_icmp_le (pc := 11) hC (tgt := 18) (by decide) d_Mo_deeperBy_11 h (fun h => ?_) (fun h => ?_)
      · refine g_le (lv2 := [some (.ref (V.2.2.1 0 0)), some (.int x1), some (.int x2), none]) (⟨rfl, ⟨rfl, ⟨rfl, trivial⟩⟩⟩) ?_
        exact w_Mo_deeperBy_b18 hV hC x1 x2 h
      · refine g_iconst (pc := 14) hC kc_0 d_Mo_deeperBy_14 ?_
        refine g_goto (pc := 15) hC (tgt := 37) (by decide) d_Mo_deeperBy_15 ?_
        exact g_iN (pc := 37) hC rfl d_Mo_deeperBy_37 h
theorem c_Mo_deeperBy {V : WV} {l : Launch} (hV : IsM V) {x1 : Int32} {x2 : Int32} {x3 : Int32} {S : Mem} {z : Int32} (h : f_Mo_deeperBy x1 x2 x3 S = some z) : CI V l y_Mo_deeperBy bc_Mo_deeperBy 4 (some .int) 0 0 [.ref (V.2.2.1 0 0), .int x1, .int x2, .int x3] S z S :=
  ct_i rfl (IsM.ok hV) (Nat.le_of_ble_eq_true rfl) (fun _ _ hC => w_Mo_deeperBy_b0 hV hC x1 x2 x3 h)
def f_Mo_weightNow_b0 (S : Mem) (x1 : Int32) : Option (Int32) :=
  gIn ((8 * (S.1 0 18)) + x1) 16 (
  if (S.2.1 0 32 ((8 * (S.1 0 18)) + x1).toNatClampNeg) = 0 then
    Option.bind (f_Mo_knownBy x1 S) (fun q25 =>
    gIn 33 40 (
    Option.bind (f_Mo_bits (S.2.1 0 57 (33 : Int32).toNatClampNeg)) (fun q35 =>
    Option.bind (f_Mo_deeperBy x1 q25 q35 S) (fun q38 =>
    some q38))))
  else
    some 0)
def f_Mo_weightNow (x1 : Int32) (S : Mem) : Option (Int32) := f_Mo_weightNow_b0 S x1
theorem d_Mo_weightNow_0 : decode bc_Mo_weightNow 0 = .ok (.aload_n 0, 1) := by decide +kernel
theorem d_Mo_weightNow_1 : decode bc_Mo_weightNow 1 = .ok (.getfield 73, 3) := by decide +kernel
theorem d_Mo_weightNow_4 : decode bc_Mo_weightNow 4 = .ok (.bipush 8, 2) := by decide +kernel
theorem d_Mo_weightNow_6 : decode bc_Mo_weightNow 6 = .ok (.aload_n 0, 1) := by decide +kernel
theorem d_Mo_weightNow_7 : decode bc_Mo_weightNow 7 = .ok (.getfield 245, 3) := by decide +kernel
theorem d_Mo_weightNow_10 : decode bc_Mo_weightNow 10 = .ok (.imul, 1) := by decide +kernel
theorem d_Mo_weightNow_11 : decode bc_Mo_weightNow 11 = .ok (.iload_n 1, 1) := by decide +kernel
theorem d_Mo_weightNow_12 : decode bc_Mo_weightNow 12 = .ok (.iadd, 1) := by decide +kernel
theorem d_Mo_weightNow_13 : decode bc_Mo_weightNow 13 = .ok (.baload, 1) := by decide +kernel
theorem d_Mo_weightNow_14 : decode bc_Mo_weightNow 14 = .ok (.ifCond .eq 7, 3) := by decide +kernel
theorem d_Mo_weightNow_17 : decode bc_Mo_weightNow 17 = .ok (.iconst 0, 1) := by decide +kernel
theorem d_Mo_weightNow_18 : decode bc_Mo_weightNow 18 = .ok (.goto 23, 3) := by decide +kernel
theorem d_Mo_weightNow_21 : decode bc_Mo_weightNow 21 = .ok (.aload_n 0, 1) := by decide +kernel
theorem d_Mo_weightNow_22 : decode bc_Mo_weightNow 22 = .ok (.iload_n 1, 1) := by decide +kernel
theorem d_Mo_weightNow_23 : decode bc_Mo_weightNow 23 = .ok (.aload_n 0, 1) := by decide +kernel
theorem d_Mo_weightNow_24 : decode bc_Mo_weightNow 24 = .ok (.iload_n 1, 1) := by decide +kernel
theorem d_Mo_weightNow_25 : decode bc_Mo_weightNow 25 = .ok (.invokevirtual 352, 3) := by decide +kernel
theorem d_Mo_weightNow_28 : decode bc_Mo_weightNow 28 = .ok (.aload_n 0, 1) := by decide +kernel
theorem d_Mo_weightNow_29 : decode bc_Mo_weightNow 29 = .ok (.getfield 137, 3) := by decide +kernel
theorem d_Mo_weightNow_32 : decode bc_Mo_weightNow 32 = .ok (.bipush 33, 2) := by decide +kernel
theorem d_Mo_weightNow_34 : decode bc_Mo_weightNow 34 = .ok (.iaload, 1) := by decide +kernel
theorem d_Mo_weightNow_35 : decode bc_Mo_weightNow 35 = .ok (.invokestatic 349, 3) := by decide +kernel
theorem d_Mo_weightNow_38 : decode bc_Mo_weightNow 38 = .ok (.invokevirtual 355, 3) := by decide +kernel
theorem d_Mo_weightNow_41 : decode bc_Mo_weightNow 41 = .ok (.ireturn, 1) := by decide +kernel
set_option maxRecDepth 20000 in
theorem w_Mo_weightNow_b0 {X : CX} {V : WV} (hV : IsM V) {S : Mem} {z : Int32} (hC : Ck X V bc_Mo_weightNow 2 "SecretWellsModel" (some .int) 3 66) (x1 : Int32) (h : f_Mo_weightNow_b0 S x1 = some z) : G X V 2 (QI X V z S) 0 [some (.ref (V.2.2.1 0 0)), some (.int x1)] [] S := by
  unfold f_Mo_weightNow_b0 at h
  refine g_aload_n (pc := 0) hC (i := 0) (x := (V.2.2.1 0 0)) rfl rfl d_Mo_weightNow_0 ?_
  refine g_getA (pc := 1) hC fo_Mo_73 (ob_Mo hV) rfl d_Mo_weightNow_1 ?_
  refine g_bipush (pc := 4) hC kb_8 d_Mo_weightNow_4 ?_
  refine g_aload_n (pc := 6) hC (i := 0) (x := (V.2.2.1 0 0)) rfl rfl d_Mo_weightNow_6 ?_
  refine g_getI (pc := 7) hC fo_Mo_245 (ob_Mo hV) rfl d_Mo_weightNow_7 ?_
  refine g_imul (pc := 10) hC d_Mo_weightNow_10 ?_
  refine g_iload_n (pc := 11) hC (i := 1) (x := x1) rfl rfl d_Mo_weightNow_11 ?_
  refine g_iadd (pc := 12) hC d_Mo_weightNow_12 ?_
  refine g_zald (pc := 13) hC (ar_Mo_32 hV) d_Mo_weightNow_13 h (fun h => ?_)
  refine g_if_eq (pc := 14) hC (tgt := 21) (by decide) d_Mo_weightNow_14 h (fun h => ?_) (fun h => ?_)
  · refine g_aload_n (pc := 21) hC (i := 0) (x := (V.2.2.1 0 0)) rfl rfl d_Mo_weightNow_21 ?_
    refine g_iload_n (pc := 22) hC (i := 1) (x := x1) rfl rfl d_Mo_weightNow_22 ?_
    refine g_aload_n (pc := 23) hC (i := 0) (x := (V.2.2.1 0 0)) rfl rfl d_Mo_weightNow_23 ?_
    refine g_iload_n (pc := 24) hC (i := 1) (x := x1) rfl rfl d_Mo_weightNow_24 ?_
    obtain ⟨q25, hq25, h⟩ := Option.bind_eq_some_iff.mp h
    refine g_vi (pc := 25) hC (As := [.int x1]) (st := [.int x1, .ref (V.2.2.1 0 0)]) mt_Mo_knownBy lk_Mo_352 rfl (ob_Mo hV) (Nat.le_of_ble_eq_true rfl) ⟨Nat.le_of_ble_eq_true rfl, Nat.le_of_ble_eq_true rfl⟩ rfl d_Mo_weightNow_25 (c_Mo_knownBy hV hq25) ?_
    refine g_aload_n (pc := 28) hC (i := 0) (x := (V.2.2.1 0 0)) rfl rfl d_Mo_weightNow_28 ?_
    refine g_getA (pc := 29) hC fo_Mo_137 (ob_Mo hV) rfl d_Mo_weightNow_29 ?_
    refine g_bipush (pc := 32) hC kb_33 d_Mo_weightNow_32 ?_
    refine g_iald (pc := 34) hC (ar_Mo_57 hV) d_Mo_weightNow_34 h (fun h => ?_)
    obtain ⟨q35, hq35, h⟩ := Option.bind_eq_some_iff.mp h
    refine g_si (pc := 35) hC (As := [.int (S.2.1 0 57 (33 : Int32).toNatClampNeg)]) (st := [.int q25, .int x1, .ref (V.2.2.1 0 0)]) mt_Mo_bits lk_Mo_349 (Nat.le_of_ble_eq_true rfl) ⟨Nat.le_of_ble_eq_true rfl, Nat.le_of_ble_eq_true rfl⟩ rfl d_Mo_weightNow_35 (c_Mo_bits (IsM.ok hV) hq35) ?_
    obtain ⟨q38, hq38, h⟩ := Option.bind_eq_some_iff.mp h
    refine g_vi (pc := 38) hC (As := [.int x1, .int q25, .int q35]) (st := []) mt_Mo_deeperBy lk_Mo_355 rfl (ob_Mo hV) (Nat.le_of_ble_eq_true rfl) ⟨Nat.le_of_ble_eq_true rfl, Nat.le_of_ble_eq_true rfl⟩ rfl d_Mo_weightNow_38 (c_Mo_deeperBy hV hq38) ?_
    exact g_iN (pc := 41) hC rfl d_Mo_weightNow_41 h
  · refine g_iconst (pc := 17) hC kc_0 d_Mo_weightNow_17 ?_
    refine g_goto (pc := 18) hC (tgt := 41) (by decide) d_Mo_weightNow_18 ?_
    exact g_iN (pc := 41) hC rfl d_Mo_weightNow_41 h
theorem c_Mo_weightNow {V : WV} {l : Launch} (hV : IsM V) {x1 : Int32} {S : Mem} {z : Int32} (h : f_Mo_weightNow x1 S = some z) : CI V l y_Mo_weightNow bc_Mo_weightNow 2 (some .int) 3 66 [.ref (V.2.2.1 0 0), .int x1] S z S :=
  ct_i rfl (IsM.ok hV) (Nat.le_of_ble_eq_true rfl) (fun _ _ hC => w_Mo_weightNow_b0 hV hC x1 h)
def f_Mo_deepOf_b16 (S : Mem) (k16 : Int32 → Int32 → Int32 → Option (Int32)) (x1 : Int32) (x2 : Int32) (x3 : Int32) : Option (Int32) :=
  gIn (S.1 0 18) 2 (
  if (S.2.1 0 30 (S.1 0 18).toNatClampNeg) ≤ x3 then
    some x2
  else
    gIn (4 + x3) 40 (
    if (S.2.1 0 57 (4 + x3).toNatClampNeg) = x1 then
      Option.bind (f_Mo_weightNow x3 S) (fun q44 =>
      letS (x2 + q44) (fun y48 =>
      k16 x1 y48 (x3 + 1)))
    else
      k16 x1 x2 (x3 + 1)))
def f_Mo_deepOf_l16 (S : Mem) : Nat → Int32 → Int32 → Int32 → Option (Int32)
  | 0 => fun _ _ _ => none
  | n + 1 => f_Mo_deepOf_b16 S (f_Mo_deepOf_l16 S n)
def f_Mo_deepOf_b0 (S : Mem) (x1 : Int32) : Option (Int32) :=
  gIn ((4 * (S.1 0 18)) + x1) 8 (
  letS (S.2.1 0 25 ((4 * (S.1 0 18)) + x1).toNatClampNeg) (fun y13 =>
  f_Mo_deepOf_l16 S 5000 x1 y13 0))
def f_Mo_deepOf (x1 : Int32) (S : Mem) : Option (Int32) := f_Mo_deepOf_b0 S x1
theorem d_Mo_deepOf_0 : decode bc_Mo_deepOf 0 = .ok (.aload_n 0, 1) := by decide +kernel
theorem d_Mo_deepOf_1 : decode bc_Mo_deepOf 1 = .ok (.getfield 52, 3) := by decide +kernel
theorem d_Mo_deepOf_4 : decode bc_Mo_deepOf 4 = .ok (.iconst 4, 1) := by decide +kernel
theorem d_Mo_deepOf_5 : decode bc_Mo_deepOf 5 = .ok (.aload_n 0, 1) := by decide +kernel
theorem d_Mo_deepOf_6 : decode bc_Mo_deepOf 6 = .ok (.getfield 245, 3) := by decide +kernel
theorem d_Mo_deepOf_9 : decode bc_Mo_deepOf 9 = .ok (.imul, 1) := by decide +kernel
theorem d_Mo_deepOf_10 : decode bc_Mo_deepOf 10 = .ok (.iload_n 1, 1) := by decide +kernel
theorem d_Mo_deepOf_11 : decode bc_Mo_deepOf 11 = .ok (.iadd, 1) := by decide +kernel
theorem d_Mo_deepOf_12 : decode bc_Mo_deepOf 12 = .ok (.iaload, 1) := by decide +kernel
theorem d_Mo_deepOf_13 : decode bc_Mo_deepOf 13 = .ok (.istore_n 2, 1) := by decide +kernel
theorem d_Mo_deepOf_14 : decode bc_Mo_deepOf 14 = .ok (.iconst 0, 1) := by decide +kernel
theorem d_Mo_deepOf_15 : decode bc_Mo_deepOf 15 = .ok (.istore_n 3, 1) := by decide +kernel
theorem d_Mo_deepOf_16 : decode bc_Mo_deepOf 16 = .ok (.iload_n 3, 1) := by decide +kernel
theorem d_Mo_deepOf_17 : decode bc_Mo_deepOf 17 = .ok (.aload_n 0, 1) := by decide +kernel
theorem d_Mo_deepOf_18 : decode bc_Mo_deepOf 18 = .ok (.getfield 67, 3) := by decide +kernel
theorem d_Mo_deepOf_21 : decode bc_Mo_deepOf 21 = .ok (.aload_n 0, 1) := by decide +kernel
theorem d_Mo_deepOf_22 : decode bc_Mo_deepOf 22 = .ok (.getfield 245, 3) := by decide +kernel
theorem d_Mo_deepOf_25 : decode bc_Mo_deepOf 25 = .ok (.iaload, 1) := by decide +kernel
theorem d_Mo_deepOf_26 : decode bc_Mo_deepOf 26 = .ok (.if_icmp .ge 29, 3) := by decide +kernel
theorem d_Mo_deepOf_29 : decode bc_Mo_deepOf 29 = .ok (.aload_n 0, 1) := by decide +kernel
theorem d_Mo_deepOf_30 : decode bc_Mo_deepOf 30 = .ok (.getfield 137, 3) := by decide +kernel
theorem d_Mo_deepOf_33 : decode bc_Mo_deepOf 33 = .ok (.iconst 4, 1) := by decide +kernel
theorem d_Mo_deepOf_34 : decode bc_Mo_deepOf 34 = .ok (.iload_n 3, 1) := by decide +kernel
theorem d_Mo_deepOf_35 : decode bc_Mo_deepOf 35 = .ok (.iadd, 1) := by decide +kernel
theorem d_Mo_deepOf_36 : decode bc_Mo_deepOf 36 = .ok (.iaload, 1) := by decide +kernel
theorem d_Mo_deepOf_37 : decode bc_Mo_deepOf 37 = .ok (.iload_n 1, 1) := by decide +kernel
theorem d_Mo_deepOf_38 : decode bc_Mo_deepOf 38 = .ok (.if_icmp .ne 11, 3) := by decide +kernel
theorem d_Mo_deepOf_41 : decode bc_Mo_deepOf 41 = .ok (.iload_n 2, 1) := by decide +kernel
theorem d_Mo_deepOf_42 : decode bc_Mo_deepOf 42 = .ok (.aload_n 0, 1) := by decide +kernel
theorem d_Mo_deepOf_43 : decode bc_Mo_deepOf 43 = .ok (.iload_n 3, 1) := by decide +kernel
theorem d_Mo_deepOf_44 : decode bc_Mo_deepOf 44 = .ok (.invokevirtual 361, 3) := by decide +kernel
theorem d_Mo_deepOf_47 : decode bc_Mo_deepOf 47 = .ok (.iadd, 1) := by decide +kernel
theorem d_Mo_deepOf_48 : decode bc_Mo_deepOf 48 = .ok (.istore_n 2, 1) := by decide +kernel
theorem d_Mo_deepOf_49 : decode bc_Mo_deepOf 49 = .ok (.iinc 3 1, 3) := by decide +kernel
theorem d_Mo_deepOf_52 : decode bc_Mo_deepOf 52 = .ok (.goto (-36), 3) := by decide +kernel
theorem d_Mo_deepOf_55 : decode bc_Mo_deepOf 55 = .ok (.iload_n 2, 1) := by decide +kernel
theorem d_Mo_deepOf_56 : decode bc_Mo_deepOf 56 = .ok (.ireturn, 1) := by decide +kernel
set_option maxRecDepth 20000 in
theorem w_Mo_deepOf_b16 {X : CX} {V : WV} (hV : IsM V) {S : Mem} {z : Int32} (hC : Ck X V bc_Mo_deepOf 4 "SecretWellsModel" (some .int) 4 87) (k16 : Int32 → Int32 → Int32 → Option (Int32)) (hk16 : ∀ (x1 : Int32) (x2 : Int32) (x3 : Int32), k16 x1 x2 x3 = some z → G X V 4 (QI X V z S) 16 [some (.ref (V.2.2.1 0 0)), some (.int x1), some (.int x2), some (.int x3)] [] S) (x1 : Int32) (x2 : Int32) (x3 : Int32) (h : f_Mo_deepOf_b16 S k16 x1 x2 x3 = some z) : G X V 4 (QI X V z S) 16 [some (.ref (V.2.2.1 0 0)), some (.int x1), some (.int x2), some (.int x3)] [] S := by
  unfold f_Mo_deepOf_b16 at h
  refine g_iload_n (pc := 16) hC (i := 3) (x := x3) rfl rfl d_Mo_deepOf_16 ?_
  refine g_aload_n (pc := 17) hC (i := 0) (x := (V.2.2.1 0 0)) rfl rfl d_Mo_deepOf_17 ?_
  refine g_getA (pc := 18) hC fo_Mo_67 (ob_Mo hV) rfl d_Mo_deepOf_18 ?_
  refine g_aload_n (pc := 21) hC (i := 0) (x := (V.2.2.1 0 0)) rfl rfl d_Mo_deepOf_21 ?_
  refine g_getI (pc := 22) hC fo_Mo_245 (ob_Mo hV) rfl d_Mo_deepOf_22 ?_
  refine g_iald (pc := 25) hC (ar_Mo_30 hV) d_Mo_deepOf_25 h (fun h => ?_)
  refine g_icmp_ge (pc := 26) hC (tgt := 55) (by decide) d_Mo_deepOf_26 h (fun h => ?_) (fun h => ?_)
  · refine g_iload_n (pc := 55) hC (i := 2) (x := x2) rfl rfl d_Mo_deepOf_55 ?_
    exact g_iN (pc := 56) hC rfl d_Mo_deepOf_56 h
  · refine g_aload_n (pc := 29) hC (i := 0) (x := (V.2.2.1 0 0)) rfl rfl d_Mo_deepOf_29 ?_
    refine g_getA (pc := 30) hC fo_Mo_137 (ob_Mo hV) rfl d_Mo_deepOf_30 ?_
    refine g_iconst (pc := 33) hC kc_4 d_Mo_deepOf_33 ?_
    refine g_iload_n (pc := 34) hC (i := 3) (x := x3) rfl rfl d_Mo_deepOf_34 ?_
    refine g_iadd (pc := 35) hC d_Mo_deepOf_35 ?_
    refine g_iald (pc := 36) hC (ar_Mo_57 hV) d_Mo_deepOf_36 h (fun h => ?_)
    refine g_iload_n (pc := 37) hC (i := 1) (x := x1) rfl rfl d_Mo_deepOf_37 ?_
    refine g_icmp_ne (pc := 38) hC (tgt := 49) (by decide) d_Mo_deepOf_38 h (fun h => ?_) (fun h => ?_)
    · refine s_iinc (pc := 49) hC (i := 3) (x := x3) (v := x3 + 1) rfl (by rw [kc_1]) (by decide) d_Mo_deepOf_49 (lv2 := [some (.ref (V.2.2.1 0 0)), some (.int x1), some (.int x2), some (.int (x3 + 1))]) rfl ?_
      refine g_goto (pc := 52) hC (tgt := 16) (by decide) d_Mo_deepOf_52 ?_
      exact hk16 x1 x2 (x3 + 1) h
    · refine g_iload_n (pc := 41) hC (i := 2) (x := x2) rfl rfl d_Mo_deepOf_41 ?_
      refine g_aload_n (pc := 42) hC (i := 0) (x := (V.2.2.1 0 0)) rfl rfl d_Mo_deepOf_42 ?_
      refine g_iload_n (pc := 43) hC (i := 3) (x := x3) rfl rfl d_Mo_deepOf_43 ?_
      obtain ⟨q44, hq44, h⟩ := Option.bind_eq_some_iff.mp h
      refine g_vi (pc := 44) hC (As := [.int x3]) (st := [.int x2]) mt_Mo_weightNow lk_Mo_361 rfl (ob_Mo hV) (Nat.le_of_ble_eq_true rfl) ⟨Nat.le_of_ble_eq_true rfl, Nat.le_of_ble_eq_true rfl⟩ rfl d_Mo_deepOf_44 (c_Mo_weightNow hV hq44) ?_
      refine g_iadd (pc := 47) hC d_Mo_deepOf_47 ?_
      refine g_leti h (fun y48 h => ?_)
      refine s_istore_n (pc := 48) hC (i := 2) rfl (by decide) d_Mo_deepOf_48 (lv2 := [some (.ref (V.2.2.1 0 0)), some (.int x1), some (.int y48), some (.int x3)]) rfl ?_
      refine s_iinc (pc := 49) hC (i := 3) (x := x3) (v := x3 + 1) rfl (by rw [kc_1]) (by decide) d_Mo_deepOf_49 (lv2 := [some (.ref (V.2.2.1 0 0)), some (.int x1), some (.int y48), some (.int (x3 + 1))]) rfl ?_
      refine g_goto (pc := 52) hC (tgt := 16) (by decide) d_Mo_deepOf_52 ?_
      exact hk16 x1 y48 (x3 + 1) h
theorem w_Mo_deepOf_l16 {X : CX} {V : WV} (hV : IsM V) {S : Mem} {z : Int32} (hC : Ck X V bc_Mo_deepOf 4 "SecretWellsModel" (some .int) 4 87) : ∀ (n : Nat) (x1 : Int32) (x2 : Int32) (x3 : Int32), f_Mo_deepOf_l16 S n x1 x2 x3 = some z → G X V 4 (QI X V z S) 16 [some (.ref (V.2.2.1 0 0)), some (.int x1), some (.int x2), some (.int x3)] [] S := by
  intro n
  induction n with
  | zero =>
    intro x1 x2 x3 h
    have h : (none : Option (Int32)) = some z := h
    cases h
  | succ n ih =>
    intro x1 x2 x3 h
    exact w_Mo_deepOf_b16 hV hC (f_Mo_deepOf_l16 S n) ih x1 x2 x3 h
set_option maxRecDepth 20000 in
theorem w_Mo_deepOf_b0 {X : CX} {V : WV} (hV : IsM V) {S : Mem} {z : Int32} (hC : Ck X V bc_Mo_deepOf 4 "SecretWellsModel" (some .int) 4 87) (x1 : Int32) (h : f_Mo_deepOf_b0 S x1 = some z) : G X V 4 (QI X V z S) 0 [some (.ref (V.2.2.1 0 0)), some (.int x1), none, none] [] S := by
  unfold f_Mo_deepOf_b0 at h
  refine g_aload_n (pc := 0) hC (i := 0) (x := (V.2.2.1 0 0)) rfl rfl d_Mo_deepOf_0 ?_
  refine g_getA (pc := 1) hC fo_Mo_52 (ob_Mo hV) rfl d_Mo_deepOf_1 ?_
  refine g_iconst (pc := 4) hC kc_4 d_Mo_deepOf_4 ?_
  refine g_aload_n (pc := 5) hC (i := 0) (x := (V.2.2.1 0 0)) rfl rfl d_Mo_deepOf_5 ?_
  refine g_getI (pc := 6) hC fo_Mo_245 (ob_Mo hV) rfl d_Mo_deepOf_6 ?_
  refine g_imul (pc := 9) hC d_Mo_deepOf_9 ?_
  refine g_iload_n (pc := 10) hC (i := 1) (x := x1) rfl rfl d_Mo_deepOf_10 ?_
  refine g_iadd (pc := 11) hC d_Mo_deepOf_11 ?_
  refine g_iald (pc := 12) hC (ar_Mo_25 hV) d_Mo_deepOf_12 h (fun h => ?_)
  refine g_leti h (fun y13 h => ?_)
  refine s_istore_n (pc := 13) hC (i := 2) rfl (by decide) d_Mo_deepOf_13 (lv2 := [some (.ref (V.2.2.1 0 0)), some (.int x1), some (.int y13), none]) rfl ?_
  refine g_iconst (pc := 14) hC kc_0 d_Mo_deepOf_14 ?_
  refine s_istore_n (pc := 15) hC (i := 3) rfl (by decide) d_Mo_deepOf_15 (lv2 := [some (.ref (V.2.2.1 0 0)), some (.int x1), some (.int y13), some (.int 0)]) rfl ?_
  exact w_Mo_deepOf_l16 hV hC 5000 x1 y13 0 h
theorem c_Mo_deepOf {V : WV} {l : Launch} (hV : IsM V) {x1 : Int32} {S : Mem} {z : Int32} (h : f_Mo_deepOf x1 S = some z) : CI V l y_Mo_deepOf bc_Mo_deepOf 4 (some .int) 4 87 [.ref (V.2.2.1 0 0), .int x1] S z S :=
  ct_i rfl (IsM.ok hV) (Nat.le_of_ble_eq_true rfl) (fun _ _ hC => w_Mo_deepOf_b0 hV hC x1 h)
def f_Mo_cutsWater_b2 (k2 : Int32 → Mem → Option (Mem)) (x1 : Int32) (S : Mem) : Option (Mem) :=
  gIn (S.1 0 18) 2 (
  if (S.2.1 0 24 (S.1 0 18).toNatClampNeg) ≤ x1 then
    some S
  else
    Option.bind (f_Mo_deepOf x1 S) (fun q17 =>
    gIn x1 40 (
    if (S.2.1 0 57 x1.toNatClampNeg) ≤ q17 then
      k2 (x1 + 1) S
    else
      gIn x1 40 (letS (sA S 0 57 x1 q17) (fun S37 =>
      k2 (x1 + 1) S37)))))
def f_Mo_cutsWater_l2 : Nat → Int32 → Mem → Option (Mem)
  | 0 => fun _ _ => none
  | n + 1 => f_Mo_cutsWater_b2  (f_Mo_cutsWater_l2  n)
def f_Mo_cutsWater_b0 (S : Mem) : Option (Mem) :=
  f_Mo_cutsWater_l2 5000 0 S
def f_Mo_cutsWater (S : Mem) : Option (Mem) := f_Mo_cutsWater_b0  S
theorem d_Mo_cutsWater_0 : decode bc_Mo_cutsWater 0 = .ok (.iconst 0, 1) := by decide +kernel
theorem d_Mo_cutsWater_1 : decode bc_Mo_cutsWater 1 = .ok (.istore_n 1, 1) := by decide +kernel
theorem d_Mo_cutsWater_2 : decode bc_Mo_cutsWater 2 = .ok (.iload_n 1, 1) := by decide +kernel
theorem d_Mo_cutsWater_3 : decode bc_Mo_cutsWater 3 = .ok (.aload_n 0, 1) := by decide +kernel
theorem d_Mo_cutsWater_4 : decode bc_Mo_cutsWater 4 = .ok (.getfield 49, 3) := by decide +kernel
theorem d_Mo_cutsWater_7 : decode bc_Mo_cutsWater 7 = .ok (.aload_n 0, 1) := by decide +kernel
theorem d_Mo_cutsWater_8 : decode bc_Mo_cutsWater 8 = .ok (.getfield 245, 3) := by decide +kernel
theorem d_Mo_cutsWater_11 : decode bc_Mo_cutsWater 11 = .ok (.iaload, 1) := by decide +kernel
theorem d_Mo_cutsWater_12 : decode bc_Mo_cutsWater 12 = .ok (.if_icmp .ge 32, 3) := by decide +kernel
theorem d_Mo_cutsWater_15 : decode bc_Mo_cutsWater 15 = .ok (.aload_n 0, 1) := by decide +kernel
theorem d_Mo_cutsWater_16 : decode bc_Mo_cutsWater 16 = .ok (.iload_n 1, 1) := by decide +kernel
theorem d_Mo_cutsWater_17 : decode bc_Mo_cutsWater 17 = .ok (.invokevirtual 364, 3) := by decide +kernel
theorem d_Mo_cutsWater_20 : decode bc_Mo_cutsWater 20 = .ok (.istore_n 2, 1) := by decide +kernel
theorem d_Mo_cutsWater_21 : decode bc_Mo_cutsWater 21 = .ok (.aload_n 0, 1) := by decide +kernel
theorem d_Mo_cutsWater_22 : decode bc_Mo_cutsWater 22 = .ok (.getfield 137, 3) := by decide +kernel
theorem d_Mo_cutsWater_25 : decode bc_Mo_cutsWater 25 = .ok (.iload_n 1, 1) := by decide +kernel
theorem d_Mo_cutsWater_26 : decode bc_Mo_cutsWater 26 = .ok (.iaload, 1) := by decide +kernel
theorem d_Mo_cutsWater_27 : decode bc_Mo_cutsWater 27 = .ok (.iload_n 2, 1) := by decide +kernel
theorem d_Mo_cutsWater_28 : decode bc_Mo_cutsWater 28 = .ok (.if_icmp .le 10, 3) := by decide +kernel
theorem d_Mo_cutsWater_31 : decode bc_Mo_cutsWater 31 = .ok (.aload_n 0, 1) := by decide +kernel
theorem d_Mo_cutsWater_32 : decode bc_Mo_cutsWater 32 = .ok (.getfield 137, 3) := by decide +kernel
theorem d_Mo_cutsWater_35 : decode bc_Mo_cutsWater 35 = .ok (.iload_n 1, 1) := by decide +kernel
theorem d_Mo_cutsWater_36 : decode bc_Mo_cutsWater 36 = .ok (.iload_n 2, 1) := by decide +kernel
theorem d_Mo_cutsWater_37 : decode bc_Mo_cutsWater 37 = .ok (.iastore, 1) := by decide +kernel
theorem d_Mo_cutsWater_38 : decode bc_Mo_cutsWater 38 = .ok (.iinc 1 1, 3) := by decide +kernel
theorem d_Mo_cutsWater_41 : decode bc_Mo_cutsWater 41 = .ok (.goto (-39), 3) := by decide +kernel
theorem d_Mo_cutsWater_44 : decode bc_Mo_cutsWater 44 = .ok (.return_, 1) := by decide +kernel
set_option maxRecDepth 20000 in
theorem w_Mo_cutsWater_b2 {X : CX} {V : WV} (hV : IsM V) {z : Mem} (hC : Ck X V bc_Mo_cutsWater 3 "SecretWellsModel" none 5 110) (k2 : Int32 → Mem → Option (Mem)) (hk2 : ∀ (x1 : Int32) (S : Mem), k2 x1 S = some z → G X V 3 (QV X V z) 2 [some (.ref (V.2.2.1 0 0)), some (.int x1), none] [] S) (x1 : Int32) (S : Mem) (h : f_Mo_cutsWater_b2  k2 x1 S = some z) : G X V 3 (QV X V z) 2 [some (.ref (V.2.2.1 0 0)), some (.int x1), none] [] S := by
  unfold f_Mo_cutsWater_b2 at h
  refine g_iload_n (pc := 2) hC (i := 1) (x := x1) rfl rfl d_Mo_cutsWater_2 ?_
  refine g_aload_n (pc := 3) hC (i := 0) (x := (V.2.2.1 0 0)) rfl rfl d_Mo_cutsWater_3 ?_
  refine g_getA (pc := 4) hC fo_Mo_49 (ob_Mo hV) rfl d_Mo_cutsWater_4 ?_
  refine g_aload_n (pc := 7) hC (i := 0) (x := (V.2.2.1 0 0)) rfl rfl d_Mo_cutsWater_7 ?_
  refine g_getI (pc := 8) hC fo_Mo_245 (ob_Mo hV) rfl d_Mo_cutsWater_8 ?_
  refine g_iald (pc := 11) hC (ar_Mo_24 hV) d_Mo_cutsWater_11 h (fun h => ?_)
  refine g_icmp_ge (pc := 12) hC (tgt := 44) (by decide) d_Mo_cutsWater_12 h (fun h => ?_) (fun h => ?_)
  · exact g_vW (pc := 44) hC d_Mo_cutsWater_44 h
  · refine g_aload_n (pc := 15) hC (i := 0) (x := (V.2.2.1 0 0)) rfl rfl d_Mo_cutsWater_15 ?_
    refine g_iload_n (pc := 16) hC (i := 1) (x := x1) rfl rfl d_Mo_cutsWater_16 ?_
    obtain ⟨q17, hq17, h⟩ := Option.bind_eq_some_iff.mp h
    refine g_vi (pc := 17) hC (As := [.int x1]) (st := []) mt_Mo_deepOf lk_Mo_364 rfl (ob_Mo hV) (Nat.le_of_ble_eq_true rfl) ⟨Nat.le_of_ble_eq_true rfl, Nat.le_of_ble_eq_true rfl⟩ rfl d_Mo_cutsWater_17 (c_Mo_deepOf hV hq17) ?_
    refine s_istore_n (pc := 20) hC (i := 2) rfl (by decide) d_Mo_cutsWater_20 (lv2 := [some (.ref (V.2.2.1 0 0)), some (.int x1), some (.int q17)]) rfl ?_
    refine g_aload_n (pc := 21) hC (i := 0) (x := (V.2.2.1 0 0)) rfl rfl d_Mo_cutsWater_21 ?_
    refine g_getA (pc := 22) hC fo_Mo_137 (ob_Mo hV) rfl d_Mo_cutsWater_22 ?_
    refine g_iload_n (pc := 25) hC (i := 1) (x := x1) rfl rfl d_Mo_cutsWater_25 ?_
    refine g_iald (pc := 26) hC (ar_Mo_57 hV) d_Mo_cutsWater_26 h (fun h => ?_)
    refine g_iload_n (pc := 27) hC (i := 2) (x := q17) rfl rfl d_Mo_cutsWater_27 ?_
    refine g_icmp_le (pc := 28) hC (tgt := 38) (by decide) d_Mo_cutsWater_28 h (fun h => ?_) (fun h => ?_)
    · refine s_iinc (pc := 38) hC (i := 1) (x := x1) (v := x1 + 1) rfl (by rw [kc_1]) (by decide) d_Mo_cutsWater_38 (lv2 := [some (.ref (V.2.2.1 0 0)), some (.int (x1 + 1)), some (.int q17)]) rfl ?_
      refine g_goto (pc := 41) hC (tgt := 2) (by decide) d_Mo_cutsWater_41 ?_
      refine g_le (lv2 := [some (.ref (V.2.2.1 0 0)), some (.int (x1 + 1)), none]) (⟨rfl, ⟨rfl, trivial⟩⟩) ?_
      exact hk2 (x1 + 1) S h
    · refine g_aload_n (pc := 31) hC (i := 0) (x := (V.2.2.1 0 0)) rfl rfl d_Mo_cutsWater_31 ?_
      refine g_getA (pc := 32) hC fo_Mo_137 (ob_Mo hV) rfl d_Mo_cutsWater_32 ?_
      refine g_iload_n (pc := 35) hC (i := 1) (x := x1) rfl rfl d_Mo_cutsWater_35 ?_
      refine g_iload_n (pc := 36) hC (i := 2) (x := q17) rfl rfl d_Mo_cutsWater_36 ?_
      refine g_iast (pc := 37) hC (ar_Mo_57 hV) d_Mo_cutsWater_37 h (fun h => ?_)
      refine g_letS h (fun S37 h => ?_)
      refine s_iinc (pc := 38) hC (i := 1) (x := x1) (v := x1 + 1) rfl (by rw [kc_1]) (by decide) d_Mo_cutsWater_38 (lv2 := [some (.ref (V.2.2.1 0 0)), some (.int (x1 + 1)), some (.int q17)]) rfl ?_
      refine g_goto (pc := 41) hC (tgt := 2) (by decide) d_Mo_cutsWater_41 ?_
      refine g_le (lv2 := [some (.ref (V.2.2.1 0 0)), some (.int (x1 + 1)), none]) (⟨rfl, ⟨rfl, trivial⟩⟩) ?_
      exact hk2 (x1 + 1) S37 h
theorem w_Mo_cutsWater_l2 {X : CX} {V : WV} (hV : IsM V) {z : Mem} (hC : Ck X V bc_Mo_cutsWater 3 "SecretWellsModel" none 5 110) : ∀ (n : Nat) (x1 : Int32) (S : Mem), f_Mo_cutsWater_l2  n x1 S = some z → G X V 3 (QV X V z) 2 [some (.ref (V.2.2.1 0 0)), some (.int x1), none] [] S := by
  intro n
  induction n with
  | zero =>
    intro x1 S h
    have h : (none : Option (Mem)) = some z := h
    cases h
  | succ n ih =>
    intro x1 S h
    exact w_Mo_cutsWater_b2 hV hC (f_Mo_cutsWater_l2  n) ih x1 S h
set_option maxRecDepth 20000 in
theorem w_Mo_cutsWater_b0 {X : CX} {V : WV} (hV : IsM V) {z : Mem} (hC : Ck X V bc_Mo_cutsWater 3 "SecretWellsModel" none 5 110) (S : Mem) (h : f_Mo_cutsWater_b0  S = some z) : G X V 3 (QV X V z) 0 [some (.ref (V.2.2.1 0 0)), none, none] [] S := by
  unfold f_Mo_cutsWater_b0 at h
  refine g_iconst (pc := 0) hC kc_0 d_Mo_cutsWater_0 ?_
  refine s_istore_n (pc := 1) hC (i := 1) rfl (by decide) d_Mo_cutsWater_1 (lv2 := [some (.ref (V.2.2.1 0 0)), some (.int 0), none]) rfl ?_
  exact w_Mo_cutsWater_l2 hV hC 5000 0 S h
theorem c_Mo_cutsWater {V : WV} {l : Launch} (hV : IsM V) {S : Mem} {z : Mem} (h : f_Mo_cutsWater S = some z) : CV V l y_Mo_cutsWater bc_Mo_cutsWater 3 none 5 110 [.ref (V.2.2.1 0 0)] S z :=
  ct_v rfl (IsM.ok hV) (Nat.le_of_ble_eq_true rfl) (fun _ _ hC => w_Mo_cutsWater_b0 hV hC S h)
