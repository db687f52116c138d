/-! methods of the bytecode as functions, and the machine's walks of them. By program (wip/whole/gen/make.py): Mo_begins, Mo_keepsRow, Mo_read, Mo_place, Mo_termOf, Mo_in, Mo_isWell, Mo_isMan, Mo_isSecret, Mo_copies, Mo_isAlive, Mo_isHolding, Mo_holding, Mo_drinkersOf, Mo_mixed, Mo_lotOf, Mo_held, Mo_asks, Mo_setsWell, Mo_fillsOf, Mo_setsMan, Mo_drinksOf, Mo_tellsOf -/
def f_Mo_begins_b106 (k91 : Int32 → Mem → Option (Mem)) (k106 : Int32 → Int32 → Mem → Option (Mem)) (x1 : Int32) (x2 : Int32) (S : Mem) : Option (Mem) :=
  gIn (S.1 0 18) 2 (
  if (S.2.1 0 27 (S.1 0 18).toNatClampNeg) ≤ x2 then
    k91 (x1 + 1) S
  else
    gIn ((8 * (S.1 0 18)) + x1) 16 (
    if (((S.2.1 0 33 ((8 * (S.1 0 18)) + x1).toNatClampNeg) >>> (x2 &&& 31)) &&& 1) = 1 then
      gIn (26 + x2) 40 (
      gIn (26 + x2) 40 (letS (sA S 0 57 (26 + x2) ((S.2.1 0 57 (26 + x2).toNatClampNeg) ||| ((1 : Int32) <<< (x1 &&& 31)))) (fun S155 =>
      k106 x1 (x2 + 1) S155)))
    else
      k106 x1 (x2 + 1) S))
def f_Mo_begins_l106 (k91 : Int32 → Mem → Option (Mem)) : Nat → Int32 → Int32 → Mem → Option (Mem)
  | 0 => fun _ _ _ => none
  | n + 1 => f_Mo_begins_b106  k91 (f_Mo_begins_l106  k91 n)
def f_Mo_begins_b190 (k190 : Int32 → Mem → Option (Mem)) (x1 : Int32) (S : Mem) : Option (Mem) :=
  gIn (S.1 0 18) 2 (
  if (S.2.1 0 24 (S.1 0 18).toNatClampNeg) ≤ x1 then
    gIn (S.1 0 18) 2 (
    letS (pI S 0 58 (S.2.1 0 39 (S.1 0 18).toNatClampNeg)) (fun S238 =>
    Option.bind (f_Mo_cutsWater S238) (fun q242 =>
    some q242)))
  else
    gIn ((4 * (S.1 0 18)) + x1) 8 (
    gIn x1 40 (letS (sA S 0 57 x1 (S.2.1 0 26 ((4 * (S.1 0 18)) + x1).toNatClampNeg)) (fun S221 =>
    k190 (x1 + 1) S221))))
def f_Mo_begins_l190 : Nat → Int32 → Mem → Option (Mem)
  | 0 => fun _ _ => none
  | n + 1 => f_Mo_begins_b190  (f_Mo_begins_l190  n)
def f_Mo_begins_b91 (k91 : Int32 → Mem → Option (Mem)) (x1 : Int32) (S : Mem) : Option (Mem) :=
  gIn (S.1 0 18) 2 (
  if (S.2.1 0 30 (S.1 0 18).toNatClampNeg) ≤ x1 then
    gIn (S.1 0 18) 2 (
    gIn 33 40 (letS (sA S 0 57 33 (((1 : Int32) <<< ((S.2.1 0 27 (S.1 0 18).toNatClampNeg) &&& 31)) - 1)) (fun S187 =>
    f_Mo_begins_l190 5000 0 S187)))
  else
    f_Mo_begins_l106 k91 5000 x1 0 S)
def f_Mo_begins_l91 : Nat → Int32 → Mem → Option (Mem)
  | 0 => fun _ _ => none
  | n + 1 => f_Mo_begins_b91  (f_Mo_begins_l91  n)
def f_Mo_begins_b47 (k47 : Int32 → Mem → Option (Mem)) (x1 : Int32) (S : Mem) : Option (Mem) :=
  gIn (S.1 0 18) 2 (
  if (S.2.1 0 27 (S.1 0 18).toNatClampNeg) ≤ x1 then
    f_Mo_begins_l91 5000 0 S
  else
    gIn ((7 * (S.1 0 18)) + x1) 14 (
    gIn (12 + x1) 40 (letS (sA S 0 57 (12 + x1) (S.2.1 0 28 ((7 * (S.1 0 18)) + x1).toNatClampNeg)) (fun S82 =>
    k47 (x1 + 1) S82))))
def f_Mo_begins_l47 : Nat → Int32 → Mem → Option (Mem)
  | 0 => fun _ _ => none
  | n + 1 => f_Mo_begins_b47  (f_Mo_begins_l47  n)
def f_Mo_begins_b23 (k23 : Int32 → Mem → Option (Mem)) (x1 : Int32) (S : Mem) : Option (Mem) :=
  if 8 ≤ x1 then
    f_Mo_begins_l47 5000 0 S
  else
    gIn (4 + x1) 40 (letS (sA S 0 57 (4 + x1) (-2)) (fun S38 =>
    k23 (x1 + 1) S38))
def f_Mo_begins_l23 : Nat → Int32 → Mem → Option (Mem)
  | 0 => fun _ _ => none
  | n + 1 => f_Mo_begins_b23  (f_Mo_begins_l23  n)
def f_Mo_begins_b2 (k2 : Int32 → Mem → Option (Mem)) (x1 : Int32) (S : Mem) : Option (Mem) :=
  if 40 ≤ x1 then
    f_Mo_begins_l23 5000 0 S
  else
    gIn x1 40 (letS (sA S 0 57 x1 0) (fun S14 =>
    k2 (x1 + 1) S14))
def f_Mo_begins_l2 : Nat → Int32 → Mem → Option (Mem)
  | 0 => fun _ _ => none
  | n + 1 => f_Mo_begins_b2  (f_Mo_begins_l2  n)
def f_Mo_begins_b0 (S : Mem) : Option (Mem) :=
  f_Mo_begins_l2 5000 0 S
def f_Mo_begins (S : Mem) : Option (Mem) := f_Mo_begins_b0  S
theorem d_Mo_begins_0 : decode bc_Mo_begins 0 = .ok (.iconst 0, 1) := by decide +kernel
theorem d_Mo_begins_1 : decode bc_Mo_begins 1 = .ok (.istore_n 1, 1) := by decide +kernel
theorem d_Mo_begins_2 : decode bc_Mo_begins 2 = .ok (.iload_n 1, 1) := by decide +kernel
theorem d_Mo_begins_3 : decode bc_Mo_begins 3 = .ok (.bipush 40, 2) := by decide +kernel
theorem d_Mo_begins_5 : decode bc_Mo_begins 5 = .ok (.if_icmp .ge 16, 3) := by decide +kernel
theorem d_Mo_begins_8 : decode bc_Mo_begins 8 = .ok (.aload_n 0, 1) := by decide +kernel
theorem d_Mo_begins_9 : decode bc_Mo_begins 9 = .ok (.getfield 137, 3) := by decide +kernel
theorem d_Mo_begins_12 : decode bc_Mo_begins 12 = .ok (.iload_n 1, 1) := by decide +kernel
theorem d_Mo_begins_13 : decode bc_Mo_begins 13 = .ok (.iconst 0, 1) := by decide +kernel
theorem d_Mo_begins_14 : decode bc_Mo_begins 14 = .ok (.iastore, 1) := by decide +kernel
theorem d_Mo_begins_15 : decode bc_Mo_begins 15 = .ok (.iinc 1 1, 3) := by decide +kernel
theorem d_Mo_begins_18 : decode bc_Mo_begins 18 = .ok (.goto (-16), 3) := by decide +kernel
theorem d_Mo_begins_21 : decode bc_Mo_begins 21 = .ok (.iconst 0, 1) := by decide +kernel
theorem d_Mo_begins_22 : decode bc_Mo_begins 22 = .ok (.istore_n 1, 1) := by decide +kernel
theorem d_Mo_begins_23 : decode bc_Mo_begins 23 = .ok (.iload_n 1, 1) := by decide +kernel
theorem d_Mo_begins_24 : decode bc_Mo_begins 24 = .ok (.bipush 8, 2) := by decide +kernel
theorem d_Mo_begins_26 : decode bc_Mo_begins 26 = .ok (.if_icmp .ge 19, 3) := by decide +kernel
theorem d_Mo_begins_29 : decode bc_Mo_begins 29 = .ok (.aload_n 0, 1) := by decide +kernel
theorem d_Mo_begins_30 : decode bc_Mo_begins 30 = .ok (.getfield 137, 3) := by decide +kernel
theorem d_Mo_begins_33 : decode bc_Mo_begins 33 = .ok (.iconst 4, 1) := by decide +kernel
theorem d_Mo_begins_34 : decode bc_Mo_begins 34 = .ok (.iload_n 1, 1) := by decide +kernel
theorem d_Mo_begins_35 : decode bc_Mo_begins 35 = .ok (.iadd, 1) := by decide +kernel
theorem d_Mo_begins_36 : decode bc_Mo_begins 36 = .ok (.bipush (-2), 2) := by decide +kernel
theorem d_Mo_begins_38 : decode bc_Mo_begins 38 = .ok (.iastore, 1) := by decide +kernel
theorem d_Mo_begins_39 : decode bc_Mo_begins 39 = .ok (.iinc 1 1, 3) := by decide +kernel
theorem d_Mo_begins_42 : decode bc_Mo_begins 42 = .ok (.goto (-19), 3) := by decide +kernel
theorem d_Mo_begins_45 : decode bc_Mo_begins 45 = .ok (.iconst 0, 1) := by decide +kernel
theorem d_Mo_begins_46 : decode bc_Mo_begins 46 = .ok (.istore_n 1, 1) := by decide +kernel
theorem d_Mo_begins_47 : decode bc_Mo_begins 47 = .ok (.iload_n 1, 1) := by decide +kernel
theorem d_Mo_begins_48 : decode bc_Mo_begins 48 = .ok (.aload_n 0, 1) := by decide +kernel
theorem d_Mo_begins_49 : decode bc_Mo_begins 49 = .ok (.getfield 58, 3) := by decide +kernel
theorem d_Mo_begins_52 : decode bc_Mo_begins 52 = .ok (.aload_n 0, 1) := by decide +kernel
theorem d_Mo_begins_53 : decode bc_Mo_begins 53 = .ok (.getfield 245, 3) := by decide +kernel
theorem d_Mo_begins_56 : decode bc_Mo_begins 56 = .ok (.iaload, 1) := by decide +kernel
theorem d_Mo_begins_57 : decode bc_Mo_begins 57 = .ok (.if_icmp .ge 32, 3) := by decide +kernel
theorem d_Mo_begins_60 : decode bc_Mo_begins 60 = .ok (.aload_n 0, 1) := by decide +kernel
theorem d_Mo_begins_61 : decode bc_Mo_begins 61 = .ok (.getfield 137, 3) := by decide +kernel
theorem d_Mo_begins_64 : decode bc_Mo_begins 64 = .ok (.bipush 12, 2) := by decide +kernel
theorem d_Mo_begins_66 : decode bc_Mo_begins 66 = .ok (.iload_n 1, 1) := by decide +kernel
theorem d_Mo_begins_67 : decode bc_Mo_begins 67 = .ok (.iadd, 1) := by decide +kernel
theorem d_Mo_begins_68 : decode bc_Mo_begins 68 = .ok (.aload_n 0, 1) := by decide +kernel
theorem d_Mo_begins_69 : decode bc_Mo_begins 69 = .ok (.getfield 61, 3) := by decide +kernel
theorem d_Mo_begins_72 : decode bc_Mo_begins 72 = .ok (.bipush 7, 2) := by decide +kernel
theorem d_Mo_begins_74 : decode bc_Mo_begins 74 = .ok (.aload_n 0, 1) := by decide +kernel
theorem d_Mo_begins_75 : decode bc_Mo_begins 75 = .ok (.getfield 245, 3) := by decide +kernel
theorem d_Mo_begins_78 : decode bc_Mo_begins 78 = .ok (.imul, 1) := by decide +kernel
theorem d_Mo_begins_79 : decode bc_Mo_begins 79 = .ok (.iload_n 1, 1) := by decide +kernel
theorem d_Mo_begins_80 : decode bc_Mo_begins 80 = .ok (.iadd, 1) := by decide +kernel
theorem d_Mo_begins_81 : decode bc_Mo_begins 81 = .ok (.iaload, 1) := by decide +kernel
theorem d_Mo_begins_82 : decode bc_Mo_begins 82 = .ok (.iastore, 1) := by decide +kernel
theorem d_Mo_begins_83 : decode bc_Mo_begins 83 = .ok (.iinc 1 1, 3) := by decide +kernel
theorem d_Mo_begins_86 : decode bc_Mo_begins 86 = .ok (.goto (-39), 3) := by decide +kernel
theorem d_Mo_begins_89 : decode bc_Mo_begins 89 = .ok (.iconst 0, 1) := by decide +kernel
theorem d_Mo_begins_90 : decode bc_Mo_begins 90 = .ok (.istore_n 1, 1) := by decide +kernel
theorem d_Mo_begins_91 : decode bc_Mo_begins 91 = .ok (.iload_n 1, 1) := by decide +kernel
theorem d_Mo_begins_92 : decode bc_Mo_begins 92 = .ok (.aload_n 0, 1) := by decide +kernel
theorem d_Mo_begins_93 : decode bc_Mo_begins 93 = .ok (.getfield 67, 3) := by decide +kernel
theorem d_Mo_begins_96 : decode bc_Mo_begins 96 = .ok (.aload_n 0, 1) := by decide +kernel
theorem d_Mo_begins_97 : decode bc_Mo_begins 97 = .ok (.getfield 245, 3) := by decide +kernel
theorem d_Mo_begins_100 : decode bc_Mo_begins 100 = .ok (.iaload, 1) := by decide +kernel
theorem d_Mo_begins_101 : decode bc_Mo_begins 101 = .ok (.if_icmp .ge 67, 3) := by decide +kernel
theorem d_Mo_begins_104 : decode bc_Mo_begins 104 = .ok (.iconst 0, 1) := by decide +kernel
theorem d_Mo_begins_105 : decode bc_Mo_begins 105 = .ok (.istore_n 2, 1) := by decide +kernel
theorem d_Mo_begins_106 : decode bc_Mo_begins 106 = .ok (.iload_n 2, 1) := by decide +kernel
theorem d_Mo_begins_107 : decode bc_Mo_begins 107 = .ok (.aload_n 0, 1) := by decide +kernel
theorem d_Mo_begins_108 : decode bc_Mo_begins 108 = .ok (.getfield 58, 3) := by decide +kernel
theorem d_Mo_begins_111 : decode bc_Mo_begins 111 = .ok (.aload_n 0, 1) := by decide +kernel
theorem d_Mo_begins_112 : decode bc_Mo_begins 112 = .ok (.getfield 245, 3) := by decide +kernel
theorem d_Mo_begins_115 : decode bc_Mo_begins 115 = .ok (.iaload, 1) := by decide +kernel
theorem d_Mo_begins_116 : decode bc_Mo_begins 116 = .ok (.if_icmp .ge 46, 3) := by decide +kernel
theorem d_Mo_begins_119 : decode bc_Mo_begins 119 = .ok (.aload_n 0, 1) := by decide +kernel
theorem d_Mo_begins_120 : decode bc_Mo_begins 120 = .ok (.getfield 77, 3) := by decide +kernel
theorem d_Mo_begins_123 : decode bc_Mo_begins 123 = .ok (.bipush 8, 2) := by decide +kernel
theorem d_Mo_begins_125 : decode bc_Mo_begins 125 = .ok (.aload_n 0, 1) := by decide +kernel
theorem d_Mo_begins_126 : decode bc_Mo_begins 126 = .ok (.getfield 245, 3) := by decide +kernel
theorem d_Mo_begins_129 : decode bc_Mo_begins 129 = .ok (.imul, 1) := by decide +kernel
theorem d_Mo_begins_130 : decode bc_Mo_begins 130 = .ok (.iload_n 1, 1) := by decide +kernel
theorem d_Mo_begins_131 : decode bc_Mo_begins 131 = .ok (.iadd, 1) := by decide +kernel
theorem d_Mo_begins_132 : decode bc_Mo_begins 132 = .ok (.iaload, 1) := by decide +kernel
theorem d_Mo_begins_133 : decode bc_Mo_begins 133 = .ok (.iload_n 2, 1) := by decide +kernel
theorem d_Mo_begins_134 : decode bc_Mo_begins 134 = .ok (.ishr, 1) := by decide +kernel
theorem d_Mo_begins_135 : decode bc_Mo_begins 135 = .ok (.iconst 1, 1) := by decide +kernel
theorem d_Mo_begins_136 : decode bc_Mo_begins 136 = .ok (.iand, 1) := by decide +kernel
theorem d_Mo_begins_137 : decode bc_Mo_begins 137 = .ok (.iconst 1, 1) := by decide +kernel
theorem d_Mo_begins_138 : decode bc_Mo_begins 138 = .ok (.if_icmp .ne 18, 3) := by decide +kernel
theorem d_Mo_begins_141 : decode bc_Mo_begins 141 = .ok (.aload_n 0, 1) := by decide +kernel
theorem d_Mo_begins_142 : decode bc_Mo_begins 142 = .ok (.getfield 137, 3) := by decide +kernel
theorem d_Mo_begins_145 : decode bc_Mo_begins 145 = .ok (.bipush 26, 2) := by decide +kernel
theorem d_Mo_begins_147 : decode bc_Mo_begins 147 = .ok (.iload_n 2, 1) := by decide +kernel
theorem d_Mo_begins_148 : decode bc_Mo_begins 148 = .ok (.iadd, 1) := by decide +kernel
theorem d_Mo_begins_149 : decode bc_Mo_begins 149 = .ok (.dup2, 1) := by decide +kernel
theorem d_Mo_begins_150 : decode bc_Mo_begins 150 = .ok (.iaload, 1) := by decide +kernel
theorem d_Mo_begins_151 : decode bc_Mo_begins 151 = .ok (.iconst 1, 1) := by decide +kernel
theorem d_Mo_begins_152 : decode bc_Mo_begins 152 = .ok (.iload_n 1, 1) := by decide +kernel
theorem d_Mo_begins_153 : decode bc_Mo_begins 153 = .ok (.ishl, 1) := by decide +kernel
theorem d_Mo_begins_154 : decode bc_Mo_begins 154 = .ok (.ior, 1) := by decide +kernel
theorem d_Mo_begins_155 : decode bc_Mo_begins 155 = .ok (.iastore, 1) := by decide +kernel
theorem d_Mo_begins_156 : decode bc_Mo_begins 156 = .ok (.iinc 2 1, 3) := by decide +kernel
theorem d_Mo_begins_159 : decode bc_Mo_begins 159 = .ok (.goto (-53), 3) := by decide +kernel
theorem d_Mo_begins_162 : decode bc_Mo_begins 162 = .ok (.iinc 1 1, 3) := by decide +kernel
theorem d_Mo_begins_165 : decode bc_Mo_begins 165 = .ok (.goto (-74), 3) := by decide +kernel
theorem d_Mo_begins_168 : decode bc_Mo_begins 168 = .ok (.aload_n 0, 1) := by decide +kernel
theorem d_Mo_begins_169 : decode bc_Mo_begins 169 = .ok (.getfield 137, 3) := by decide +kernel
theorem d_Mo_begins_172 : decode bc_Mo_begins 172 = .ok (.bipush 33, 2) := by decide +kernel
theorem d_Mo_begins_174 : decode bc_Mo_begins 174 = .ok (.iconst 1, 1) := by decide +kernel
theorem d_Mo_begins_175 : decode bc_Mo_begins 175 = .ok (.aload_n 0, 1) := by decide +kernel
theorem d_Mo_begins_176 : decode bc_Mo_begins 176 = .ok (.getfield 58, 3) := by decide +kernel
theorem d_Mo_begins_179 : decode bc_Mo_begins 179 = .ok (.aload_n 0, 1) := by decide +kernel
theorem d_Mo_begins_180 : decode bc_Mo_begins 180 = .ok (.getfield 245, 3) := by decide +kernel
theorem d_Mo_begins_183 : decode bc_Mo_begins 183 = .ok (.iaload, 1) := by decide +kernel
theorem d_Mo_begins_184 : decode bc_Mo_begins 184 = .ok (.ishl, 1) := by decide +kernel
theorem d_Mo_begins_185 : decode bc_Mo_begins 185 = .ok (.iconst 1, 1) := by decide +kernel
theorem d_Mo_begins_186 : decode bc_Mo_begins 186 = .ok (.isub, 1) := by decide +kernel
theorem d_Mo_begins_187 : decode bc_Mo_begins 187 = .ok (.iastore, 1) := by decide +kernel
theorem d_Mo_begins_188 : decode bc_Mo_begins 188 = .ok (.iconst 0, 1) := by decide +kernel
theorem d_Mo_begins_189 : decode bc_Mo_begins 189 = .ok (.istore_n 1, 1) := by decide +kernel
theorem d_Mo_begins_190 : decode bc_Mo_begins 190 = .ok (.iload_n 1, 1) := by decide +kernel
theorem d_Mo_begins_191 : decode bc_Mo_begins 191 = .ok (.aload_n 0, 1) := by decide +kernel
theorem d_Mo_begins_192 : decode bc_Mo_begins 192 = .ok (.getfield 49, 3) := by decide +kernel
theorem d_Mo_begins_195 : decode bc_Mo_begins 195 = .ok (.aload_n 0, 1) := by decide +kernel
theorem d_Mo_begins_196 : decode bc_Mo_begins 196 = .ok (.getfield 245, 3) := by decide +kernel
theorem d_Mo_begins_199 : decode bc_Mo_begins 199 = .ok (.iaload, 1) := by decide +kernel
theorem d_Mo_begins_200 : decode bc_Mo_begins 200 = .ok (.if_icmp .ge 28, 3) := by decide +kernel
theorem d_Mo_begins_203 : decode bc_Mo_begins 203 = .ok (.aload_n 0, 1) := by decide +kernel
theorem d_Mo_begins_204 : decode bc_Mo_begins 204 = .ok (.getfield 137, 3) := by decide +kernel
theorem d_Mo_begins_207 : decode bc_Mo_begins 207 = .ok (.iload_n 1, 1) := by decide +kernel
theorem d_Mo_begins_208 : decode bc_Mo_begins 208 = .ok (.aload_n 0, 1) := by decide +kernel
theorem d_Mo_begins_209 : decode bc_Mo_begins 209 = .ok (.getfield 55, 3) := by decide +kernel
theorem d_Mo_begins_212 : decode bc_Mo_begins 212 = .ok (.iconst 4, 1) := by decide +kernel
theorem d_Mo_begins_213 : decode bc_Mo_begins 213 = .ok (.aload_n 0, 1) := by decide +kernel
theorem d_Mo_begins_214 : decode bc_Mo_begins 214 = .ok (.getfield 245, 3) := by decide +kernel
theorem d_Mo_begins_217 : decode bc_Mo_begins 217 = .ok (.imul, 1) := by decide +kernel
theorem d_Mo_begins_218 : decode bc_Mo_begins 218 = .ok (.iload_n 1, 1) := by decide +kernel
theorem d_Mo_begins_219 : decode bc_Mo_begins 219 = .ok (.iadd, 1) := by decide +kernel
theorem d_Mo_begins_220 : decode bc_Mo_begins 220 = .ok (.iaload, 1) := by decide +kernel
theorem d_Mo_begins_221 : decode bc_Mo_begins 221 = .ok (.iastore, 1) := by decide +kernel
theorem d_Mo_begins_222 : decode bc_Mo_begins 222 = .ok (.iinc 1 1, 3) := by decide +kernel
theorem d_Mo_begins_225 : decode bc_Mo_begins 225 = .ok (.goto (-35), 3) := by decide +kernel
theorem d_Mo_begins_228 : decode bc_Mo_begins 228 = .ok (.aload_n 0, 1) := by decide +kernel
theorem d_Mo_begins_229 : decode bc_Mo_begins 229 = .ok (.aload_n 0, 1) := by decide +kernel
theorem d_Mo_begins_230 : decode bc_Mo_begins 230 = .ok (.getfield 95, 3) := by decide +kernel
theorem d_Mo_begins_233 : decode bc_Mo_begins 233 = .ok (.aload_n 0, 1) := by decide +kernel
theorem d_Mo_begins_234 : decode bc_Mo_begins 234 = .ok (.getfield 245, 3) := by decide +kernel
theorem d_Mo_begins_237 : decode bc_Mo_begins 237 = .ok (.iaload, 1) := by decide +kernel
theorem d_Mo_begins_238 : decode bc_Mo_begins 238 = .ok (.putfield 336, 3) := by decide +kernel
theorem d_Mo_begins_241 : decode bc_Mo_begins 241 = .ok (.aload_n 0, 1) := by decide +kernel
theorem d_Mo_begins_242 : decode bc_Mo_begins 242 = .ok (.invokevirtual 339, 3) := by decide +kernel
theorem d_Mo_begins_245 : decode bc_Mo_begins 245 = .ok (.return_, 1) := by decide +kernel
set_option maxRecDepth 20000 in
theorem w_Mo_begins_b106 {X : CX} {V : WV} (hV : IsM V) {z : Mem} (hC : Ck X V bc_Mo_begins 3 "SecretWellsModel" none 6 132) (k91 : Int32 → Mem → Option (Mem)) (hk91 : ∀ (x1 : Int32) (S : Mem), k91 x1 S = some z → G X V 3 (QV X V z) 91 [some (.ref (V.2.2.1 0 0)), some (.int x1), none] [] S) (k106 : Int32 → Int32 → Mem → Option (Mem)) (hk106 : ∀ (x1 : Int32) (x2 : Int32) (S : Mem), k106 x1 x2 S = some z → G X V 3 (QV X V z) 106 [some (.ref (V.2.2.1 0 0)), some (.int x1), some (.int x2)] [] S) (x1 : Int32) (x2 : Int32) (S : Mem) (h : f_Mo_begins_b106  k91 k106 x1 x2 S = some z) : G X V 3 (QV X V z) 106 [some (.ref (V.2.2.1 0 0)), some (.int x1), some (.int x2)] [] S := by
  unfold f_Mo_begins_b106 at h
  refine g_iload_n (pc := 106) hC (i := 2) (x := x2) rfl rfl d_Mo_begins_106 ?_
  refine g_aload_n (pc := 107) hC (i := 0) (x := (V.2.2.1 0 0)) rfl rfl d_Mo_begins_107 ?_
  refine g_getA (pc := 108) hC fo_Mo_58 (ob_Mo hV) rfl d_Mo_begins_108 ?_
  refine g_aload_n (pc := 111) hC (i := 0) (x := (V.2.2.1 0 0)) rfl rfl d_Mo_begins_111 ?_
  refine g_getI (pc := 112) hC fo_Mo_245 (ob_Mo hV) rfl d_Mo_begins_112 ?_
  refine g_iald (pc := 115) hC (ar_Mo_27 hV) d_Mo_begins_115 h (fun h => ?_)
  refine g_icmp_ge (pc := 116) hC (tgt := 162) (by decide) d_Mo_begins_116 h (fun h => ?_) (fun h => ?_)
  · refine s_iinc (pc := 162) hC (i := 1) (x := x1) (v := x1 + 1) rfl (by rw [kc_1]) (by decide) d_Mo_begins_162 (lv2 := [some (.ref (V.2.2.1 0 0)), some (.int (x1 + 1)), some (.int x2)]) rfl ?_
    refine g_goto (pc := 165) hC (tgt := 91) (by decide) d_Mo_begins_165 ?_
    refine g_le (lv2 := [some (.ref (V.2.2.1 0 0)), some (.int (x1 + 1)), none]) (⟨rfl, ⟨rfl, trivial⟩⟩) ?_
    exact hk91 (x1 + 1) S h
  · refine g_aload_n (pc := 119) hC (i := 0) (x := (V.2.2.1 0 0)) rfl rfl d_Mo_begins_119 ?_
    refine g_getA (pc := 120) hC fo_Mo_77 (ob_Mo hV) rfl d_Mo_begins_120 ?_
    refine g_bipush (pc := 123) hC kb_8 d_Mo_begins_123 ?_
    refine g_aload_n (pc := 125) hC (i := 0) (x := (V.2.2.1 0 0)) rfl rfl d_Mo_begins_125 ?_
    refine g_getI (pc := 126) hC fo_Mo_245 (ob_Mo hV) rfl d_Mo_begins_126 ?_
    refine g_imul (pc := 129) hC d_Mo_begins_129 ?_
    refine g_iload_n (pc := 130) hC (i := 1) (x := x1) rfl rfl d_Mo_begins_130 ?_
    refine g_iadd (pc := 131) hC d_Mo_begins_131 ?_
    refine g_iald (pc := 132) hC (ar_Mo_33 hV) d_Mo_begins_132 h (fun h => ?_)
    refine g_iload_n (pc := 133) hC (i := 2) (x := x2) rfl rfl d_Mo_begins_133 ?_
    refine g_ishr (pc := 134) hC d_Mo_begins_134 ?_
    refine g_iconst (pc := 135) hC kc_1 d_Mo_begins_135 ?_
    refine g_iand (pc := 136) hC d_Mo_begins_136 ?_
    refine g_iconst (pc := 137) hC kc_1 d_Mo_begins_137 ?_
    refine g_icmp_ne (pc := 138) hC (tgt := 156) (by decide) d_Mo_begins_138 h (fun h => ?_) (fun h => ?_)
    · refine s_iinc (pc := 156) hC (i := 2) (x := x2) (v := x2 + 1) rfl (by rw [kc_1]) (by decide) d_Mo_begins_156 (lv2 := [some (.ref (V.2.2.1 0 0)), some (.int x1), some (.int (x2 + 1))]) rfl ?_
      refine g_goto (pc := 159) hC (tgt := 106) (by decide) d_Mo_begins_159 ?_
      exact hk106 x1 (x2 + 1) S h
    · refine g_aload_n (pc := 141) hC (i := 0) (x := (V.2.2.1 0 0)) rfl rfl d_Mo_begins_141 ?_
      refine g_getA (pc := 142) hC fo_Mo_137 (ob_Mo hV) rfl d_Mo_begins_142 ?_
      refine g_bipush (pc := 145) hC kb_26 d_Mo_begins_145 ?_
      refine g_iload_n (pc := 147) hC (i := 2) (x := x2) rfl rfl d_Mo_begins_147 ?_
      refine g_iadd (pc := 148) hC d_Mo_begins_148 ?_
      refine g_dup2 (pc := 149) hC rfl rfl d_Mo_begins_149 ?_
      refine g_iald (pc := 150) hC (ar_Mo_57 hV) d_Mo_begins_150 h (fun h => ?_)
      refine g_iconst (pc := 151) hC kc_1 d_Mo_begins_151 ?_
      refine g_iload_n (pc := 152) hC (i := 1) (x := x1) rfl rfl d_Mo_begins_152 ?_
      refine g_ishl (pc := 153) hC d_Mo_begins_153 ?_
      refine g_ior (pc := 154) hC d_Mo_begins_154 ?_
      refine g_iast (pc := 155) hC (ar_Mo_57 hV) d_Mo_begins_155 h (fun h => ?_)
      refine g_letS h (fun S155 h => ?_)
      refine s_iinc (pc := 156) hC (i := 2) (x := x2) (v := x2 + 1) rfl (by rw [kc_1]) (by decide) d_Mo_begins_156 (lv2 := [some (.ref (V.2.2.1 0 0)), some (.int x1), some (.int (x2 + 1))]) rfl ?_
      refine g_goto (pc := 159) hC (tgt := 106) (by decide) d_Mo_begins_159 ?_
      exact hk106 x1 (x2 + 1) S155 h
theorem w_Mo_begins_l106 {X : CX} {V : WV} (hV : IsM V) {z : Mem} (hC : Ck X V bc_Mo_begins 3 "SecretWellsModel" none 6 132) (k91 : Int32 → Mem → Option (Mem)) (hk91 : ∀ (x1 : Int32) (S : Mem), k91 x1 S = some z → G X V 3 (QV X V z) 91 [some (.ref (V.2.2.1 0 0)), some (.int x1), none] [] S) : ∀ (n : Nat) (x1 : Int32) (x2 : Int32) (S : Mem), f_Mo_begins_l106  k91 n x1 x2 S = some z → G X V 3 (QV X V z) 106 [some (.ref (V.2.2.1 0 0)), some (.int x1), some (.int x2)] [] S := by
  intro n
  induction n with
  | zero =>
    intro x1 x2 S h
    have h : (none : Option (Mem)) = some z := h
    cases h
  | succ n ih =>
    intro x1 x2 S h
    exact w_Mo_begins_b106 hV hC k91 hk91 (f_Mo_begins_l106  k91 n) ih x1 x2 S h
set_option maxRecDepth 20000 in
theorem w_Mo_begins_b190 {X : CX} {V : WV} (hV : IsM V) {z : Mem} (hC : Ck X V bc_Mo_begins 3 "SecretWellsModel" none 6 132) (k190 : Int32 → Mem → Option (Mem)) (hk190 : ∀ (x1 : Int32) (S : Mem), k190 x1 S = some z → G X V 3 (QV X V z) 190 [some (.ref (V.2.2.1 0 0)), some (.int x1), none] [] S) (x1 : Int32) (S : Mem) (h : f_Mo_begins_b190  k190 x1 S = some z) : G X V 3 (QV X V z) 190 [some (.ref (V.2.2.1 0 0)), some (.int x1), none] [] S := by
  unfold f_Mo_begins_b190 at h
  refine g_iload_n (pc := 190) hC (i := 1) (x := x1) rfl rfl d_Mo_begins_190 ?_
  refine g_aload_n (pc := 191) hC (i := 0) (x := (V.2.2.1 0 0)) rfl rfl d_Mo_begins_191 ?_
  refine g_getA (pc := 192) hC fo_Mo_49 (ob_Mo hV) rfl d_Mo_begins_192 ?_
  refine g_aload_n (pc := 195) hC (i := 0) (x := (V.2.2.1 0 0)) rfl rfl d_Mo_begins_195 ?_
  refine g_getI (pc := 196) hC fo_Mo_245 (ob_Mo hV) rfl d_Mo_begins_196 ?_
  refine g_iald (pc := 199) hC (ar_Mo_24 hV) d_Mo_begins_199 h (fun h => ?_)
  refine g_icmp_ge (pc := 200) hC (tgt := 228) (by decide) d_Mo_begins_200 h (fun h => ?_) (fun h => ?_)
  · refine g_aload_n (pc := 228) hC (i := 0) (x := (V.2.2.1 0 0)) rfl rfl d_Mo_begins_228 ?_
    refine g_aload_n (pc := 229) hC (i := 0) (x := (V.2.2.1 0 0)) rfl rfl d_Mo_begins_229 ?_
    refine g_getA (pc := 230) hC fo_Mo_95 (ob_Mo hV) rfl d_Mo_begins_230 ?_
    refine g_aload_n (pc := 233) hC (i := 0) (x := (V.2.2.1 0 0)) rfl rfl d_Mo_begins_233 ?_
    refine g_getI (pc := 234) hC fo_Mo_245 (ob_Mo hV) rfl d_Mo_begins_234 ?_
    refine g_iald (pc := 237) hC (ar_Mo_39 hV) d_Mo_begins_237 h (fun h => ?_)
    refine g_putI (pc := 238) hC po_Mo_336 (ob_Mo hV) rfl rfl rfl d_Mo_begins_238 ?_
    refine g_letS h (fun S238 h => ?_)
    refine g_aload_n (pc := 241) hC (i := 0) (x := (V.2.2.1 0 0)) rfl rfl d_Mo_begins_241 ?_
    obtain ⟨q242, hq242, h⟩ := Option.bind_eq_some_iff.mp h
    refine g_vv (pc := 242) hC (As := []) (st := []) mt_Mo_cutsWater lk_Mo_339 rfl (ob_Mo hV) (Nat.le_of_ble_eq_true rfl) ⟨Nat.le_of_ble_eq_true rfl, Nat.le_of_ble_eq_true rfl⟩ rfl d_Mo_begins_242 (c_Mo_cutsWater hV hq242) ?_
    exact g_vW (pc := 245) hC d_Mo_begins_245 h
  · refine g_aload_n (pc := 203) hC (i := 0) (x := (V.2.2.1 0 0)) rfl rfl d_Mo_begins_203 ?_
    refine g_getA (pc := 204) hC fo_Mo_137 (ob_Mo hV) rfl d_Mo_begins_204 ?_
    refine g_iload_n (pc := 207) hC (i := 1) (x := x1) rfl rfl d_Mo_begins_207 ?_
    refine g_aload_n (pc := 208) hC (i := 0) (x := (V.2.2.1 0 0)) rfl rfl d_Mo_begins_208 ?_
    refine g_getA (pc := 209) hC fo_Mo_55 (ob_Mo hV) rfl d_Mo_begins_209 ?_
    refine g_iconst (pc := 212) hC kc_4 d_Mo_begins_212 ?_
    refine g_aload_n (pc := 213) hC (i := 0) (x := (V.2.2.1 0 0)) rfl rfl d_Mo_begins_213 ?_
    refine g_getI (pc := 214) hC fo_Mo_245 (ob_Mo hV) rfl d_Mo_begins_214 ?_
    refine g_imul (pc := 217) hC d_Mo_begins_217 ?_
    refine g_iload_n (pc := 218) hC (i := 1) (x := x1) rfl rfl d_Mo_begins_218 ?_
    refine g_iadd (pc := 219) hC d_Mo_begins_219 ?_
    refine g_iald (pc := 220) hC (ar_Mo_26 hV) d_Mo_begins_220 h (fun h => ?_)
    refine g_iast (pc := 221) hC (ar_Mo_57 hV) d_Mo_begins_221 h (fun h => ?_)
    refine g_letS h (fun S221 h => ?_)
    refine s_iinc (pc := 222) hC (i := 1) (x := x1) (v := x1 + 1) rfl (by rw [kc_1]) (by decide) d_Mo_begins_222 (lv2 := [some (.ref (V.2.2.1 0 0)), some (.int (x1 + 1)), none]) rfl ?_
    refine g_goto (pc := 225) hC (tgt := 190) (by decide) d_Mo_begins_225 ?_
    exact hk190 (x1 + 1) S221 h
theorem w_Mo_begins_l190 {X : CX} {V : WV} (hV : IsM V) {z : Mem} (hC : Ck X V bc_Mo_begins 3 "SecretWellsModel" none 6 132) : ∀ (n : Nat) (x1 : Int32) (S : Mem), f_Mo_begins_l190  n x1 S = some z → G X V 3 (QV X V z) 190 [some (.ref (V.2.2.1 0 0)), some (.int x1), none] [] S := by
  intro n
  induction n with
  | zero =>
    intro x1 S h
    have h : (none : Option (Mem)) = some z := h
    cases h
  | succ n ih =>
    intro x1 S h
    exact w_Mo_begins_b190 hV hC (f_Mo_begins_l190  n) ih x1 S h
set_option maxRecDepth 20000 in
theorem w_Mo_begins_b91 {X : CX} {V : WV} (hV : IsM V) {z : Mem} (hC : Ck X V bc_Mo_begins 3 "SecretWellsModel" none 6 132) (k91 : Int32 → Mem → Option (Mem)) (hk91 : ∀ (x1 : Int32) (S : Mem), k91 x1 S = some z → G X V 3 (QV X V z) 91 [some (.ref (V.2.2.1 0 0)), some (.int x1), none] [] S) (x1 : Int32) (S : Mem) (h : f_Mo_begins_b91  k91 x1 S = some z) : G X V 3 (QV X V z) 91 [some (.ref (V.2.2.1 0 0)), some (.int x1), none] [] S := by
  unfold f_Mo_begins_b91 at h
  refine g_iload_n (pc := 91) hC (i := 1) (x := x1) rfl rfl d_Mo_begins_91 ?_
  refine g_aload_n (pc := 92) hC (i := 0) (x := (V.2.2.1 0 0)) rfl rfl d_Mo_begins_92 ?_
  refine g_getA (pc := 93) hC fo_Mo_67 (ob_Mo hV) rfl d_Mo_begins_93 ?_
  refine g_aload_n (pc := 96) hC (i := 0) (x := (V.2.2.1 0 0)) rfl rfl d_Mo_begins_96 ?_
  refine g_getI (pc := 97) hC fo_Mo_245 (ob_Mo hV) rfl d_Mo_begins_97 ?_
  refine g_iald (pc := 100) hC (ar_Mo_30 hV) d_Mo_begins_100 h (fun h => ?_)
  refine g_icmp_ge (pc := 101) hC (tgt := 168) (by decide) d_Mo_begins_101 h (fun h => ?_) (fun h => ?_)
  · refine g_aload_n (pc := 168) hC (i := 0) (x := (V.2.2.1 0 0)) rfl rfl d_Mo_begins_168 ?_
    refine g_getA (pc := 169) hC fo_Mo_137 (ob_Mo hV) rfl d_Mo_begins_169 ?_
    refine g_bipush (pc := 172) hC kb_33 d_Mo_begins_172 ?_
    refine g_iconst (pc := 174) hC kc_1 d_Mo_begins_174 ?_
    refine g_aload_n (pc := 175) hC (i := 0) (x := (V.2.2.1 0 0)) rfl rfl d_Mo_begins_175 ?_
    refine g_getA (pc := 176) hC fo_Mo_58 (ob_Mo hV) rfl d_Mo_begins_176 ?_
    refine g_aload_n (pc := 179) hC (i := 0) (x := (V.2.2.1 0 0)) rfl rfl d_Mo_begins_179 ?_
    refine g_getI (pc := 180) hC fo_Mo_245 (ob_Mo hV) rfl d_Mo_begins_180 ?_
    refine g_iald (pc := 183) hC (ar_Mo_27 hV) d_Mo_begins_183 h (fun h => ?_)
    refine g_ishl (pc := 184) hC d_Mo_begins_184 ?_
    refine g_iconst (pc := 185) hC kc_1 d_Mo_begins_185 ?_
    refine g_isub (pc := 186) hC d_Mo_begins_186 ?_
    refine g_iast (pc := 187) hC (ar_Mo_57 hV) d_Mo_begins_187 h (fun h => ?_)
    refine g_letS h (fun S187 h => ?_)
    refine g_iconst (pc := 188) hC kc_0 d_Mo_begins_188 ?_
    refine s_istore_n (pc := 189) hC (i := 1) rfl (by decide) d_Mo_begins_189 (lv2 := [some (.ref (V.2.2.1 0 0)), some (.int 0), none]) rfl ?_
    exact w_Mo_begins_l190 hV hC 5000 0 S187 h
  · refine g_iconst (pc := 104) hC kc_0 d_Mo_begins_104 ?_
    refine s_istore_n (pc := 105) hC (i := 2) rfl (by decide) d_Mo_begins_105 (lv2 := [some (.ref (V.2.2.1 0 0)), some (.int x1), some (.int 0)]) rfl ?_
    exact w_Mo_begins_l106 hV hC k91 hk91 5000 x1 0 S h
theorem w_Mo_begins_l91 {X : CX} {V : WV} (hV : IsM V) {z : Mem} (hC : Ck X V bc_Mo_begins 3 "SecretWellsModel" none 6 132) : ∀ (n : Nat) (x1 : Int32) (S : Mem), f_Mo_begins_l91  n x1 S = some z → G X V 3 (QV X V z) 91 [some (.ref (V.2.2.1 0 0)), some (.int x1), none] [] S := by
  intro n
  induction n with
  | zero =>
    intro x1 S h
    have h : (none : Option (Mem)) = some z := h
    cases h
  | succ n ih =>
    intro x1 S h
    exact w_Mo_begins_b91 hV hC (f_Mo_begins_l91  n) ih x1 S h
set_option maxRecDepth 20000 in
theorem w_Mo_begins_b47 {X : CX} {V : WV} (hV : IsM V) {z : Mem} (hC : Ck X V bc_Mo_begins 3 "SecretWellsModel" none 6 132) (k47 : Int32 → Mem → Option (Mem)) (hk47 : ∀ (x1 : Int32) (S : Mem), k47 x1 S = some z → G X V 3 (QV X V z) 47 [some (.ref (V.2.2.1 0 0)), some (.int x1), none] [] S) (x1 : Int32) (S : Mem) (h : f_Mo_begins_b47  k47 x1 S = some z) : G X V 3 (QV X V z) 47 [some (.ref (V.2.2.1 0 0)), some (.int x1), none] [] S := by
  unfold f_Mo_begins_b47 at h
  refine g_iload_n (pc := 47) hC (i := 1) (x := x1) rfl rfl d_Mo_begins_47 ?_
  refine g_aload_n (pc := 48) hC (i := 0) (x := (V.2.2.1 0 0)) rfl rfl d_Mo_begins_48 ?_
  refine g_getA (pc := 49) hC fo_Mo_58 (ob_Mo hV) rfl d_Mo_begins_49 ?_
  refine g_aload_n (pc := 52) hC (i := 0) (x := (V.2.2.1 0 0)) rfl rfl d_Mo_begins_52 ?_
  refine g_getI (pc := 53) hC fo_Mo_245 (ob_Mo hV) rfl d_Mo_begins_53 ?_
  refine g_iald (pc := 56) hC (ar_Mo_27 hV) d_Mo_begins_56 h (fun h => ?_)
  refine g_icmp_ge (pc := 57) hC (tgt := 89) (by decide) d_Mo_begins_57 h (fun h => ?_) (fun h => ?_)
  · refine g_iconst (pc := 89) hC kc_0 d_Mo_begins_89 ?_
    refine s_istore_n (pc := 90) hC (i := 1) rfl (by decide) d_Mo_begins_90 (lv2 := [some (.ref (V.2.2.1 0 0)), some (.int 0), none]) rfl ?_
    exact w_Mo_begins_l91 hV hC 5000 0 S h
  · refine g_aload_n (pc := 60) hC (i := 0) (x := (V.2.2.1 0 0)) rfl rfl d_Mo_begins_60 ?_
    refine g_getA (pc := 61) hC fo_Mo_137 (ob_Mo hV) rfl d_Mo_begins_61 ?_
    refine g_bipush (pc := 64) hC kb_12 d_Mo_begins_64 ?_
    refine g_iload_n (pc := 66) hC (i := 1) (x := x1) rfl rfl d_Mo_begins_66 ?_
    refine g_iadd (pc := 67) hC d_Mo_begins_67 ?_
    refine g_aload_n (pc := 68) hC (i := 0) (x := (V.2.2.1 0 0)) rfl rfl d_Mo_begins_68 ?_
    refine g_getA (pc := 69) hC fo_Mo_61 (ob_Mo hV) rfl d_Mo_begins_69 ?_
    refine g_bipush (pc := 72) hC kb_7 d_Mo_begins_72 ?_
    refine g_aload_n (pc := 74) hC (i := 0) (x := (V.2.2.1 0 0)) rfl rfl d_Mo_begins_74 ?_
    refine g_getI (pc := 75) hC fo_Mo_245 (ob_Mo hV) rfl d_Mo_begins_75 ?_
    refine g_imul (pc := 78) hC d_Mo_begins_78 ?_
    refine g_iload_n (pc := 79) hC (i := 1) (x := x1) rfl rfl d_Mo_begins_79 ?_
    refine g_iadd (pc := 80) hC d_Mo_begins_80 ?_
    refine g_iald (pc := 81) hC (ar_Mo_28 hV) d_Mo_begins_81 h (fun h => ?_)
    refine g_iast (pc := 82) hC (ar_Mo_57 hV) d_Mo_begins_82 h (fun h => ?_)
    refine g_letS h (fun S82 h => ?_)
    refine s_iinc (pc := 83) hC (i := 1) (x := x1) (v := x1 + 1) rfl (by rw [kc_1]) (by decide) d_Mo_begins_83 (lv2 := [some (.ref (V.2.2.1 0 0)), some (.int (x1 + 1)), none]) rfl ?_
    refine g_goto (pc := 86) hC (tgt := 47) (by decide) d_Mo_begins_86 ?_
    exact hk47 (x1 + 1) S82 h
theorem w_Mo_begins_l47 {X : CX} {V : WV} (hV : IsM V) {z : Mem} (hC : Ck X V bc_Mo_begins 3 "SecretWellsModel" none 6 132) : ∀ (n : Nat) (x1 : Int32) (S : Mem), f_Mo_begins_l47  n x1 S = some z → G X V 3 (QV X V z) 47 [some (.ref (V.2.2.1 0 0)), some (.int x1), none] [] S := by
  intro n
  induction n with
  | zero =>
    intro x1 S h
    have h : (none : Option (Mem)) = some z := h
    cases h
  | succ n ih =>
    intro x1 S h
    exact w_Mo_begins_b47 hV hC (f_Mo_begins_l47  n) ih x1 S h
set_option maxRecDepth 20000 in
theorem w_Mo_begins_b23 {X : CX} {V : WV} (hV : IsM V) {z : Mem} (hC : Ck X V bc_Mo_begins 3 "SecretWellsModel" none 6 132) (k23 : Int32 → Mem → Option (Mem)) (hk23 : ∀ (x1 : Int32) (S : Mem), k23 x1 S = some z → G X V 3 (QV X V z) 23 [some (.ref (V.2.2.1 0 0)), some (.int x1), none] [] S) (x1 : Int32) (S : Mem) (h : f_Mo_begins_b23  k23 x1 S = some z) : G X V 3 (QV X V z) 23 [some (.ref (V.2.2.1 0 0)), some (.int x1), none] [] S := by
  unfold f_Mo_begins_b23 at h
  refine g_iload_n (pc := 23) hC (i := 1) (x := x1) rfl rfl d_Mo_begins_23 ?_
  refine g_bipush (pc := 24) hC kb_8 d_Mo_begins_24 ?_
  refine g_icmp_ge (pc := 26) hC (tgt := 45) (by decide) d_Mo_begins_26 h (fun h => ?_) (fun h => ?_)
  · refine g_iconst (pc := 45) hC kc_0 d_Mo_begins_45 ?_
    refine s_istore_n (pc := 46) hC (i := 1) rfl (by decide) d_Mo_begins_46 (lv2 := [some (.ref (V.2.2.1 0 0)), some (.int 0), none]) rfl ?_
    exact w_Mo_begins_l47 hV hC 5000 0 S h
  · refine g_aload_n (pc := 29) hC (i := 0) (x := (V.2.2.1 0 0)) rfl rfl d_Mo_begins_29 ?_
    refine g_getA (pc := 30) hC fo_Mo_137 (ob_Mo hV) rfl d_Mo_begins_30 ?_
    refine g_iconst (pc := 33) hC kc_4 d_Mo_begins_33 ?_
    refine g_iload_n (pc := 34) hC (i := 1) (x := x1) rfl rfl d_Mo_begins_34 ?_
    refine g_iadd (pc := 35) hC d_Mo_begins_35 ?_
    refine g_bipush (pc := 36) hC kb_m2 d_Mo_begins_36 ?_
    refine g_iast (pc := 38) hC (ar_Mo_57 hV) d_Mo_begins_38 h (fun h => ?_)
    refine g_letS h (fun S38 h => ?_)
    refine s_iinc (pc := 39) hC (i := 1) (x := x1) (v := x1 + 1) rfl (by rw [kc_1]) (by decide) d_Mo_begins_39 (lv2 := [some (.ref (V.2.2.1 0 0)), some (.int (x1 + 1)), none]) rfl ?_
    refine g_goto (pc := 42) hC (tgt := 23) (by decide) d_Mo_begins_42 ?_
    exact hk23 (x1 + 1) S38 h
theorem w_Mo_begins_l23 {X : CX} {V : WV} (hV : IsM V) {z : Mem} (hC : Ck X V bc_Mo_begins 3 "SecretWellsModel" none 6 132) : ∀ (n : Nat) (x1 : Int32) (S : Mem), f_Mo_begins_l23  n x1 S = some z → G X V 3 (QV X V z) 23 [some (.ref (V.2.2.1 0 0)), some (.int x1), none] [] S := by
  intro n
  induction n with
  | zero =>
    intro x1 S h
    have h : (none : Option (Mem)) = some z := h
    cases h
  | succ n ih =>
    intro x1 S h
    exact w_Mo_begins_b23 hV hC (f_Mo_begins_l23  n) ih x1 S h
set_option maxRecDepth 20000 in
theorem w_Mo_begins_b2 {X : CX} {V : WV} (hV : IsM V) {z : Mem} (hC : Ck X V bc_Mo_begins 3 "SecretWellsModel" none 6 132) (k2 : Int32 → Mem → Option (Mem)) (hk2 : ∀ (x1 : Int32) (S : Mem), k2 x1 S = some z → G X V 3 (QV X V z) 2 [some (.ref (V.2.2.1 0 0)), some (.int x1), none] [] S) (x1 : Int32) (S : Mem) (h : f_Mo_begins_b2  k2 x1 S = some z) : G X V 3 (QV X V z) 2 [some (.ref (V.2.2.1 0 0)), some (.int x1), none] [] S := by
  unfold f_Mo_begins_b2 at h
  refine g_iload_n (pc := 2) hC (i := 1) (x := x1) rfl rfl d_Mo_begins_2 ?_
  refine g_bipush (pc := 3) hC kb_40 d_Mo_begins_3 ?_
  refine g_icmp_ge (pc := 5) hC (tgt := 21) (by decide) d_Mo_begins_5 h (fun h => ?_) (fun h => ?_)
  · refine g_iconst (pc := 21) hC kc_0 d_Mo_begins_21 ?_
    refine s_istore_n (pc := 22) hC (i := 1) rfl (by decide) d_Mo_begins_22 (lv2 := [some (.ref (V.2.2.1 0 0)), some (.int 0), none]) rfl ?_
    exact w_Mo_begins_l23 hV hC 5000 0 S h
  · refine g_aload_n (pc := 8) hC (i := 0) (x := (V.2.2.1 0 0)) rfl rfl d_Mo_begins_8 ?_
    refine g_getA (pc := 9) hC fo_Mo_137 (ob_Mo hV) rfl d_Mo_begins_9 ?_
    refine g_iload_n (pc := 12) hC (i := 1) (x := x1) rfl rfl d_Mo_begins_12 ?_
    refine g_iconst (pc := 13) hC kc_0 d_Mo_begins_13 ?_
    refine g_iast (pc := 14) hC (ar_Mo_57 hV) d_Mo_begins_14 h (fun h => ?_)
    refine g_letS h (fun S14 h => ?_)
    refine s_iinc (pc := 15) hC (i := 1) (x := x1) (v := x1 + 1) rfl (by rw [kc_1]) (by decide) d_Mo_begins_15 (lv2 := [some (.ref (V.2.2.1 0 0)), some (.int (x1 + 1)), none]) rfl ?_
    refine g_goto (pc := 18) hC (tgt := 2) (by decide) d_Mo_begins_18 ?_
    exact hk2 (x1 + 1) S14 h
theorem w_Mo_begins_l2 {X : CX} {V : WV} (hV : IsM V) {z : Mem} (hC : Ck X V bc_Mo_begins 3 "SecretWellsModel" none 6 132) : ∀ (n : Nat) (x1 : Int32) (S : Mem), f_Mo_begins_l2  n x1 S = some z → G X V 3 (QV X V z) 2 [some (.ref (V.2.2.1 0 0)), some (.int x1), none] [] S := by
  intro n
  induction n with
  | zero =>
    intro x1 S h
    have h : (none : Option (Mem)) = some z := h
    cases h
  | succ n ih =>
    intro x1 S h
    exact w_Mo_begins_b2 hV hC (f_Mo_begins_l2  n) ih x1 S h
set_option maxRecDepth 20000 in
theorem w_Mo_begins_b0 {X : CX} {V : WV} (hV : IsM V) {z : Mem} (hC : Ck X V bc_Mo_begins 3 "SecretWellsModel" none 6 132) (S : Mem) (h : f_Mo_begins_b0  S = some z) : G X V 3 (QV X V z) 0 [some (.ref (V.2.2.1 0 0)), none, none] [] S := by
  unfold f_Mo_begins_b0 at h
  refine g_iconst (pc := 0) hC kc_0 d_Mo_begins_0 ?_
  refine s_istore_n (pc := 1) hC (i := 1) rfl (by decide) d_Mo_begins_1 (lv2 := [some (.ref (V.2.2.1 0 0)), some (.int 0), none]) rfl ?_
  exact w_Mo_begins_l2 hV hC 5000 0 S h
theorem c_Mo_begins {V : WV} {l : Launch} (hV : IsM V) {S : Mem} {z : Mem} (h : f_Mo_begins S = some z) : CV V l y_Mo_begins bc_Mo_begins 3 none 6 132 [.ref (V.2.2.1 0 0)] S z :=
  ct_v rfl (IsM.ok hV) (Nat.le_of_ble_eq_true rfl) (fun _ _ hC => w_Mo_begins_b0 hV hC S h)
def f_Mo_keepsRow_b2 (k2 : Int32 → Mem → Option (Mem)) (x1 : Int32) (S : Mem) : Option (Mem) :=
  if 40 ≤ x1 then
    some S
  else
    gIn x1 40 (
    gIn x1 40 (letS (sA S 0 56 x1 (S.2.1 0 57 x1.toNatClampNeg)) (fun S19 =>
    k2 (x1 + 1) S19)))
def f_Mo_keepsRow_l2 : Nat → Int32 → Mem → Option (Mem)
  | 0 => fun _ _ => none
  | n + 1 => f_Mo_keepsRow_b2  (f_Mo_keepsRow_l2  n)
def f_Mo_keepsRow_b0 (S : Mem) : Option (Mem) :=
  f_Mo_keepsRow_l2 5000 0 S
def f_Mo_keepsRow (S : Mem) : Option (Mem) := f_Mo_keepsRow_b0  S
theorem d_Mo_keepsRow_0 : decode bc_Mo_keepsRow 0 = .ok (.iconst 0, 1) := by decide +kernel
theorem d_Mo_keepsRow_1 : decode bc_Mo_keepsRow 1 = .ok (.istore_n 1, 1) := by decide +kernel
theorem d_Mo_keepsRow_2 : decode bc_Mo_keepsRow 2 = .ok (.iload_n 1, 1) := by decide +kernel
theorem d_Mo_keepsRow_3 : decode bc_Mo_keepsRow 3 = .ok (.bipush 40, 2) := by decide +kernel
theorem d_Mo_keepsRow_5 : decode bc_Mo_keepsRow 5 = .ok (.if_icmp .ge 21, 3) := by decide +kernel
theorem d_Mo_keepsRow_8 : decode bc_Mo_keepsRow 8 = .ok (.aload_n 0, 1) := by decide +kernel
theorem d_Mo_keepsRow_9 : decode bc_Mo_keepsRow 9 = .ok (.getfield 134, 3) := by decide +kernel
theorem d_Mo_keepsRow_12 : decode bc_Mo_keepsRow 12 = .ok (.iload_n 1, 1) := by decide +kernel
theorem d_Mo_keepsRow_13 : decode bc_Mo_keepsRow 13 = .ok (.aload_n 0, 1) := by decide +kernel
theorem d_Mo_keepsRow_14 : decode bc_Mo_keepsRow 14 = .ok (.getfield 137, 3) := by decide +kernel
theorem d_Mo_keepsRow_17 : decode bc_Mo_keepsRow 17 = .ok (.iload_n 1, 1) := by decide +kernel
theorem d_Mo_keepsRow_18 : decode bc_Mo_keepsRow 18 = .ok (.iaload, 1) := by decide +kernel
theorem d_Mo_keepsRow_19 : decode bc_Mo_keepsRow 19 = .ok (.iastore, 1) := by decide +kernel
theorem d_Mo_keepsRow_20 : decode bc_Mo_keepsRow 20 = .ok (.iinc 1 1, 3) := by decide +kernel
theorem d_Mo_keepsRow_23 : decode bc_Mo_keepsRow 23 = .ok (.goto (-21), 3) := by decide +kernel
theorem d_Mo_keepsRow_26 : decode bc_Mo_keepsRow 26 = .ok (.return_, 1) := by decide +kernel
set_option maxRecDepth 20000 in
theorem w_Mo_keepsRow_b2 {X : CX} {V : WV} (hV : IsM V) {z : Mem} (hC : Ck X V bc_Mo_keepsRow 2 "SecretWellsModel" none 0 0) (k2 : Int32 → Mem → Option (Mem)) (hk2 : ∀ (x1 : Int32) (S : Mem), k2 x1 S = some z → G X V 2 (QV X V z) 2 [some (.ref (V.2.2.1 0 0)), some (.int x1)] [] S) (x1 : Int32) (S : Mem) (h : f_Mo_keepsRow_b2  k2 x1 S = some z) : G X V 2 (QV X V z) 2 [some (.ref (V.2.2.1 0 0)), some (.int x1)] [] S := by
  unfold f_Mo_keepsRow_b2 at h
  refine g_iload_n (pc := 2) hC (i := 1) (x := x1) rfl rfl d_Mo_keepsRow_2 ?_
  refine g_bipush (pc := 3) hC kb_40 d_Mo_keepsRow_3 ?_
  refine g_icmp_ge (pc := 5) hC (tgt := 26) (by decide) d_Mo_keepsRow_5 h (fun h => ?_) (fun h => ?_)
  · exact g_vW (pc := 26) hC d_Mo_keepsRow_26 h
  · refine g_aload_n (pc := 8) hC (i := 0) (x := (V.2.2.1 0 0)) rfl rfl d_Mo_keepsRow_8 ?_
    refine g_getA (pc := 9) hC fo_Mo_134 (ob_Mo hV) rfl d_Mo_keepsRow_9 ?_
    refine g_iload_n (pc := 12) hC (i := 1) (x := x1) rfl rfl d_Mo_keepsRow_12 ?_
    refine g_aload_n (pc := 13) hC (i := 0) (x := (V.2.2.1 0 0)) rfl rfl d_Mo_keepsRow_13 ?_
    refine g_getA (pc := 14) hC fo_Mo_137 (ob_Mo hV) rfl d_Mo_keepsRow_14 ?_
    refine g_iload_n (pc := 17) hC (i := 1) (x := x1) rfl rfl d_Mo_keepsRow_17 ?_
    refine g_iald (pc := 18) hC (ar_Mo_57 hV) d_Mo_keepsRow_18 h (fun h => ?_)
    refine g_iast (pc := 19) hC (ar_Mo_56 hV) d_Mo_keepsRow_19 h (fun h => ?_)
    refine g_letS h (fun S19 h => ?_)
    refine s_iinc (pc := 20) hC (i := 1) (x := x1) (v := x1 + 1) rfl (by rw [kc_1]) (by decide) d_Mo_keepsRow_20 (lv2 := [some (.ref (V.2.2.1 0 0)), some (.int (x1 + 1))]) rfl ?_
    refine g_goto (pc := 23) hC (tgt := 2) (by decide) d_Mo_keepsRow_23 ?_
    exact hk2 (x1 + 1) S19 h
theorem w_Mo_keepsRow_l2 {X : CX} {V : WV} (hV : IsM V) {z : Mem} (hC : Ck X V bc_Mo_keepsRow 2 "SecretWellsModel" none 0 0) : ∀ (n : Nat) (x1 : Int32) (S : Mem), f_Mo_keepsRow_l2  n x1 S = some z → G X V 2 (QV X V z) 2 [some (.ref (V.2.2.1 0 0)), some (.int x1)] [] S := by
  intro n
  induction n with
  | zero =>
    intro x1 S h
    have h : (none : Option (Mem)) = some z := h
    cases h
  | succ n ih =>
    intro x1 S h
    exact w_Mo_keepsRow_b2 hV hC (f_Mo_keepsRow_l2  n) ih x1 S h
set_option maxRecDepth 20000 in
theorem w_Mo_keepsRow_b0 {X : CX} {V : WV} (hV : IsM V) {z : Mem} (hC : Ck X V bc_Mo_keepsRow 2 "SecretWellsModel" none 0 0) (S : Mem) (h : f_Mo_keepsRow_b0  S = some z) : G X V 2 (QV X V z) 0 [some (.ref (V.2.2.1 0 0)), none] [] S := by
  unfold f_Mo_keepsRow_b0 at h
  refine g_iconst (pc := 0) hC kc_0 d_Mo_keepsRow_0 ?_
  refine s_istore_n (pc := 1) hC (i := 1) rfl (by decide) d_Mo_keepsRow_1 (lv2 := [some (.ref (V.2.2.1 0 0)), some (.int 0)]) rfl ?_
  exact w_Mo_keepsRow_l2 hV hC 5000 0 S h
theorem c_Mo_keepsRow {V : WV} {l : Launch} (hV : IsM V) {S : Mem} {z : Mem} (h : f_Mo_keepsRow S = some z) : CV V l y_Mo_keepsRow bc_Mo_keepsRow 2 none 0 0 [.ref (V.2.2.1 0 0)] S z :=
  ct_v rfl (IsM.ok hV) (Nat.le_of_ble_eq_true rfl) (fun _ _ hC => w_Mo_keepsRow_b0 hV hC S h)
def f_Mo_read_b219 (k219 : Int32 → Mem → Option (Int32 × Mem)) (x1 : Int32) (S : Mem) : Option (Int32 × Mem) :=
  if 3 ≤ x1 then
    some (0, S)
  else
    gIn x1 3 (letS (sA S 0 72 x1 (vp_nar .boolean 0)) (fun S230 =>
    k219 (x1 + 1) S230))
def f_Mo_read_l219 : Nat → Int32 → Mem → Option (Int32 × Mem)
  | 0 => fun _ _ => none
  | n + 1 => f_Mo_read_b219  (f_Mo_read_l219  n)
def f_Mo_read_b164 (s0 : Int32) (S : Mem) : Option (Int32 × Mem) :=
  letS (pI S 0 17 s0) (fun S164 =>
  if (S164.1 0 13) ≤ 0 then
    if (S164.1 0 15) ≤ 0 then
      letS (pI S164 0 18 (S164.1 0 19)) (fun S196 =>
      Option.bind (f_Mo_begins S196) (fun q200 =>
      Option.bind (f_Mo_keepsRow q200) (fun q204 =>
      letS (pI q204 0 60 0) (fun S209 =>
      letS (pI S209 0 68 0) (fun S214 =>
      f_Mo_read_l219 5000 0 S214)))))
    else
      some (S164.1 0 15, S164)
  else
    some (S164.1 0 13, S164))
def f_Mo_read_b134 (S : Mem) : Option (Int32 × Mem) :=
  if (S.1 0 13) ≤ 0 then
    if (S.1 0 15) ≤ 0 then
      f_Mo_read_b164 (-1) S
    else
      f_Mo_read_b164 (S.1 0 16) S
  else
    f_Mo_read_b164 (S.1 0 14) S
def f_Mo_read_b112 (k112 : Mem → Option (Int32 × Mem)) (S : Mem) : Option (Int32 × Mem) :=
  if (S.1 0 13) = 0 then
    Option.bind (f_Mo_is 0 S) (fun q121 =>
    if q121 = 0 then
      Option.bind (f_Mo_tellOne S) (fun q128 =>
      k112 q128)
    else
      f_Mo_read_b134 S)
  else
    f_Mo_read_b134 S
def f_Mo_read_l112 : Nat → Mem → Option (Int32 × Mem)
  | 0 => fun _ => none
  | n + 1 => f_Mo_read_b112  (f_Mo_read_l112  n)
def f_Mo_read_b10 (k10 : Int32 → Mem → Option (Int32 × Mem)) (x1 : Int32) (S : Mem) : Option (Int32 × Mem) :=
  if (S.1 0 4) ≤ x1 then
    letS (pI S 0 2 0) (fun S38 =>
    Option.bind (f_Mo_cut0 S38) (fun q42 =>
    letS (pI q42 0 11 0) (fun S47 =>
    letS (pI S47 0 12 0) (fun S52 =>
    letS (pI S52 0 13 0) (fun S57 =>
    letS (pI S57 0 15 0) (fun S62 =>
    letS (pI S62 0 19 (1 - (S62.1 0 18))) (fun S72 =>
    letS (pI S72 0 20 0) (fun S77 =>
    Option.bind (f_Mo_plain (S77.1 0 19) S77) (fun q85 =>
    letS (pI q85 0 42 (130 * (q85.1 0 19))) (fun S97 =>
    letS (pI S97 0 48 (420 * (S97.1 0 19))) (fun S109 =>
    f_Mo_read_l112 5000 S109)))))))))))
  else
    gIn x1 2000 (
    gIn x1 2000 (letS (sA S 0 3 x1 (vp_nar .byte (S.2.1 0 1 x1.toNatClampNeg))) (fun S29 =>
    k10 (x1 + 1) S29)))
def f_Mo_read_l10 : Nat → Int32 → Mem → Option (Int32 × Mem)
  | 0 => fun _ _ => none
  | n + 1 => f_Mo_read_b10  (f_Mo_read_l10  n)
def f_Mo_read_b0 (S : Mem) : Option (Int32 × Mem) :=
  letS (pI S 0 4 (S.1 0 2)) (fun S5 =>
  f_Mo_read_l10 5000 0 S5)
def f_Mo_read (S : Mem) : Option (Int32 × Mem) := f_Mo_read_b0  S
theorem d_Mo_read_0 : decode bc_Mo_read 0 = .ok (.aload_n 0, 1) := by decide +kernel
theorem d_Mo_read_1 : decode bc_Mo_read 1 = .ok (.aload_n 0, 1) := by decide +kernel
theorem d_Mo_read_2 : decode bc_Mo_read 2 = .ok (.getfield 178, 3) := by decide +kernel
theorem d_Mo_read_5 : decode bc_Mo_read 5 = .ok (.putfield 184, 3) := by decide +kernel
theorem d_Mo_read_8 : decode bc_Mo_read 8 = .ok (.iconst 0, 1) := by decide +kernel
theorem d_Mo_read_9 : decode bc_Mo_read 9 = .ok (.istore_n 1, 1) := by decide +kernel
theorem d_Mo_read_10 : decode bc_Mo_read 10 = .ok (.iload_n 1, 1) := by decide +kernel
theorem d_Mo_read_11 : decode bc_Mo_read 11 = .ok (.aload_n 0, 1) := by decide +kernel
theorem d_Mo_read_12 : decode bc_Mo_read 12 = .ok (.getfield 184, 3) := by decide +kernel
theorem d_Mo_read_15 : decode bc_Mo_read 15 = .ok (.if_icmp .ge 21, 3) := by decide +kernel
theorem d_Mo_read_18 : decode bc_Mo_read 18 = .ok (.aload_n 0, 1) := by decide +kernel
theorem d_Mo_read_19 : decode bc_Mo_read 19 = .ok (.getfield 17, 3) := by decide +kernel
theorem d_Mo_read_22 : decode bc_Mo_read 22 = .ok (.iload_n 1, 1) := by decide +kernel
theorem d_Mo_read_23 : decode bc_Mo_read 23 = .ok (.aload_n 0, 1) := by decide +kernel
theorem d_Mo_read_24 : decode bc_Mo_read 24 = .ok (.getfield 13, 3) := by decide +kernel
theorem d_Mo_read_27 : decode bc_Mo_read 27 = .ok (.iload_n 1, 1) := by decide +kernel
theorem d_Mo_read_28 : decode bc_Mo_read 28 = .ok (.baload, 1) := by decide +kernel
theorem d_Mo_read_29 : decode bc_Mo_read 29 = .ok (.bastore, 1) := by decide +kernel
theorem d_Mo_read_30 : decode bc_Mo_read 30 = .ok (.iinc 1 1, 3) := by decide +kernel
theorem d_Mo_read_33 : decode bc_Mo_read 33 = .ok (.goto (-23), 3) := by decide +kernel
theorem d_Mo_read_36 : decode bc_Mo_read 36 = .ok (.aload_n 0, 1) := by decide +kernel
theorem d_Mo_read_37 : decode bc_Mo_read 37 = .ok (.iconst 0, 1) := by decide +kernel
theorem d_Mo_read_38 : decode bc_Mo_read 38 = .ok (.putfield 178, 3) := by decide +kernel
theorem d_Mo_read_41 : decode bc_Mo_read 41 = .ok (.aload_n 0, 1) := by decide +kernel
theorem d_Mo_read_42 : decode bc_Mo_read 42 = .ok (.invokevirtual 239, 3) := by decide +kernel
theorem d_Mo_read_45 : decode bc_Mo_read 45 = .ok (.aload_n 0, 1) := by decide +kernel
theorem d_Mo_read_46 : decode bc_Mo_read 46 = .ok (.iconst 0, 1) := by decide +kernel
theorem d_Mo_read_47 : decode bc_Mo_read 47 = .ok (.putfield 218, 3) := by decide +kernel
theorem d_Mo_read_50 : decode bc_Mo_read 50 = .ok (.aload_n 0, 1) := by decide +kernel
theorem d_Mo_read_51 : decode bc_Mo_read 51 = .ok (.iconst 0, 1) := by decide +kernel
theorem d_Mo_read_52 : decode bc_Mo_read 52 = .ok (.putfield 242, 3) := by decide +kernel
theorem d_Mo_read_55 : decode bc_Mo_read 55 = .ok (.aload_n 0, 1) := by decide +kernel
theorem d_Mo_read_56 : decode bc_Mo_read 56 = .ok (.iconst 0, 1) := by decide +kernel
theorem d_Mo_read_57 : decode bc_Mo_read 57 = .ok (.putfield 215, 3) := by decide +kernel
theorem d_Mo_read_60 : decode bc_Mo_read 60 = .ok (.aload_n 0, 1) := by decide +kernel
theorem d_Mo_read_61 : decode bc_Mo_read 61 = .ok (.iconst 0, 1) := by decide +kernel
theorem d_Mo_read_62 : decode bc_Mo_read 62 = .ok (.putfield 224, 3) := by decide +kernel
theorem d_Mo_read_65 : decode bc_Mo_read 65 = .ok (.aload_n 0, 1) := by decide +kernel
theorem d_Mo_read_66 : decode bc_Mo_read 66 = .ok (.iconst 1, 1) := by decide +kernel
theorem d_Mo_read_67 : decode bc_Mo_read 67 = .ok (.aload_n 0, 1) := by decide +kernel
theorem d_Mo_read_68 : decode bc_Mo_read 68 = .ok (.getfield 245, 3) := by decide +kernel
theorem d_Mo_read_71 : decode bc_Mo_read 71 = .ok (.isub, 1) := by decide +kernel
theorem d_Mo_read_72 : decode bc_Mo_read 72 = .ok (.putfield 248, 3) := by decide +kernel
theorem d_Mo_read_75 : decode bc_Mo_read 75 = .ok (.aload_n 0, 1) := by decide +kernel
theorem d_Mo_read_76 : decode bc_Mo_read 76 = .ok (.iconst 0, 1) := by decide +kernel
theorem d_Mo_read_77 : decode bc_Mo_read 77 = .ok (.putfield 251, 3) := by decide +kernel
theorem d_Mo_read_80 : decode bc_Mo_read 80 = .ok (.aload_n 0, 1) := by decide +kernel
theorem d_Mo_read_81 : decode bc_Mo_read 81 = .ok (.aload_n 0, 1) := by decide +kernel
theorem d_Mo_read_82 : decode bc_Mo_read 82 = .ok (.getfield 248, 3) := by decide +kernel
theorem d_Mo_read_85 : decode bc_Mo_read 85 = .ok (.invokevirtual 164, 3) := by decide +kernel
theorem d_Mo_read_88 : decode bc_Mo_read 88 = .ok (.aload_n 0, 1) := by decide +kernel
theorem d_Mo_read_89 : decode bc_Mo_read 89 = .ok (.sipush 130, 3) := by decide +kernel
theorem d_Mo_read_92 : decode bc_Mo_read 92 = .ok (.aload_n 0, 1) := by decide +kernel
theorem d_Mo_read_93 : decode bc_Mo_read 93 = .ok (.getfield 248, 3) := by decide +kernel
theorem d_Mo_read_96 : decode bc_Mo_read 96 = .ok (.imul, 1) := by decide +kernel
theorem d_Mo_read_97 : decode bc_Mo_read 97 = .ok (.putfield 254, 3) := by decide +kernel
theorem d_Mo_read_100 : decode bc_Mo_read 100 = .ok (.aload_n 0, 1) := by decide +kernel
theorem d_Mo_read_101 : decode bc_Mo_read 101 = .ok (.sipush 420, 3) := by decide +kernel
theorem d_Mo_read_104 : decode bc_Mo_read 104 = .ok (.aload_n 0, 1) := by decide +kernel
theorem d_Mo_read_105 : decode bc_Mo_read 105 = .ok (.getfield 248, 3) := by decide +kernel
theorem d_Mo_read_108 : decode bc_Mo_read 108 = .ok (.imul, 1) := by decide +kernel
theorem d_Mo_read_109 : decode bc_Mo_read 109 = .ok (.putfield 257, 3) := by decide +kernel
theorem d_Mo_read_112 : decode bc_Mo_read 112 = .ok (.aload_n 0, 1) := by decide +kernel
theorem d_Mo_read_113 : decode bc_Mo_read 113 = .ok (.getfield 215, 3) := by decide +kernel
theorem d_Mo_read_116 : decode bc_Mo_read 116 = .ok (.ifCond .ne 18, 3) := by decide +kernel
theorem d_Mo_read_119 : decode bc_Mo_read 119 = .ok (.aload_n 0, 1) := by decide +kernel
theorem d_Mo_read_120 : decode bc_Mo_read 120 = .ok (.iconst 0, 1) := by decide +kernel
theorem d_Mo_read_121 : decode bc_Mo_read 121 = .ok (.invokevirtual 233, 3) := by decide +kernel
theorem d_Mo_read_124 : decode bc_Mo_read 124 = .ok (.ifCond .ne 10, 3) := by decide +kernel
theorem d_Mo_read_127 : decode bc_Mo_read 127 = .ok (.aload_n 0, 1) := by decide +kernel
theorem d_Mo_read_128 : decode bc_Mo_read 128 = .ok (.invokevirtual 260, 3) := by decide +kernel
theorem d_Mo_read_131 : decode bc_Mo_read 131 = .ok (.goto (-19), 3) := by decide +kernel
theorem d_Mo_read_134 : decode bc_Mo_read 134 = .ok (.aload_n 0, 1) := by decide +kernel
theorem d_Mo_read_135 : decode bc_Mo_read 135 = .ok (.aload_n 0, 1) := by decide +kernel
theorem d_Mo_read_136 : decode bc_Mo_read 136 = .ok (.getfield 215, 3) := by decide +kernel
theorem d_Mo_read_139 : decode bc_Mo_read 139 = .ok (.ifCond .le 10, 3) := by decide +kernel
theorem d_Mo_read_142 : decode bc_Mo_read 142 = .ok (.aload_n 0, 1) := by decide +kernel
theorem d_Mo_read_143 : decode bc_Mo_read 143 = .ok (.getfield 221, 3) := by decide +kernel
theorem d_Mo_read_146 : decode bc_Mo_read 146 = .ok (.goto 18, 3) := by decide +kernel
theorem d_Mo_read_149 : decode bc_Mo_read 149 = .ok (.aload_n 0, 1) := by decide +kernel
theorem d_Mo_read_150 : decode bc_Mo_read 150 = .ok (.getfield 224, 3) := by decide +kernel
theorem d_Mo_read_153 : decode bc_Mo_read 153 = .ok (.ifCond .le 10, 3) := by decide +kernel
theorem d_Mo_read_156 : decode bc_Mo_read 156 = .ok (.aload_n 0, 1) := by decide +kernel
theorem d_Mo_read_157 : decode bc_Mo_read 157 = .ok (.getfield 227, 3) := by decide +kernel
theorem d_Mo_read_160 : decode bc_Mo_read 160 = .ok (.goto 4, 3) := by decide +kernel
theorem d_Mo_read_163 : decode bc_Mo_read 163 = .ok (.iconst (-1), 1) := by decide +kernel
theorem d_Mo_read_164 : decode bc_Mo_read 164 = .ok (.putfield 37, 3) := by decide +kernel
theorem d_Mo_read_167 : decode bc_Mo_read 167 = .ok (.aload_n 0, 1) := by decide +kernel
theorem d_Mo_read_168 : decode bc_Mo_read 168 = .ok (.getfield 215, 3) := by decide +kernel
theorem d_Mo_read_171 : decode bc_Mo_read 171 = .ok (.ifCond .le 8, 3) := by decide +kernel
theorem d_Mo_read_174 : decode bc_Mo_read 174 = .ok (.aload_n 0, 1) := by decide +kernel
theorem d_Mo_read_175 : decode bc_Mo_read 175 = .ok (.getfield 215, 3) := by decide +kernel
theorem d_Mo_read_178 : decode bc_Mo_read 178 = .ok (.ireturn, 1) := by decide +kernel
theorem d_Mo_read_179 : decode bc_Mo_read 179 = .ok (.aload_n 0, 1) := by decide +kernel
theorem d_Mo_read_180 : decode bc_Mo_read 180 = .ok (.getfield 224, 3) := by decide +kernel
theorem d_Mo_read_183 : decode bc_Mo_read 183 = .ok (.ifCond .le 8, 3) := by decide +kernel
theorem d_Mo_read_186 : decode bc_Mo_read 186 = .ok (.aload_n 0, 1) := by decide +kernel
theorem d_Mo_read_187 : decode bc_Mo_read 187 = .ok (.getfield 224, 3) := by decide +kernel
theorem d_Mo_read_190 : decode bc_Mo_read 190 = .ok (.ireturn, 1) := by decide +kernel
theorem d_Mo_read_191 : decode bc_Mo_read 191 = .ok (.aload_n 0, 1) := by decide +kernel
theorem d_Mo_read_192 : decode bc_Mo_read 192 = .ok (.aload_n 0, 1) := by decide +kernel
theorem d_Mo_read_193 : decode bc_Mo_read 193 = .ok (.getfield 248, 3) := by decide +kernel
theorem d_Mo_read_196 : decode bc_Mo_read 196 = .ok (.putfield 245, 3) := by decide +kernel
theorem d_Mo_read_199 : decode bc_Mo_read 199 = .ok (.aload_n 0, 1) := by decide +kernel
theorem d_Mo_read_200 : decode bc_Mo_read 200 = .ok (.invokevirtual 172, 3) := by decide +kernel
theorem d_Mo_read_203 : decode bc_Mo_read 203 = .ok (.aload_n 0, 1) := by decide +kernel
theorem d_Mo_read_204 : decode bc_Mo_read 204 = .ok (.invokevirtual 175, 3) := by decide +kernel
theorem d_Mo_read_207 : decode bc_Mo_read 207 = .ok (.aload_n 0, 1) := by decide +kernel
theorem d_Mo_read_208 : decode bc_Mo_read 208 = .ok (.iconst 0, 1) := by decide +kernel
theorem d_Mo_read_209 : decode bc_Mo_read 209 = .ok (.putfield 263, 3) := by decide +kernel
theorem d_Mo_read_212 : decode bc_Mo_read 212 = .ok (.aload_n 0, 1) := by decide +kernel
theorem d_Mo_read_213 : decode bc_Mo_read 213 = .ok (.iconst 0, 1) := by decide +kernel
theorem d_Mo_read_214 : decode bc_Mo_read 214 = .ok (.putfield 266, 3) := by decide +kernel
theorem d_Mo_read_217 : decode bc_Mo_read 217 = .ok (.iconst 0, 1) := by decide +kernel
theorem d_Mo_read_218 : decode bc_Mo_read 218 = .ok (.istore_n 1, 1) := by decide +kernel
theorem d_Mo_read_219 : decode bc_Mo_read 219 = .ok (.iload_n 1, 1) := by decide +kernel
theorem d_Mo_read_220 : decode bc_Mo_read 220 = .ok (.iconst 3, 1) := by decide +kernel
theorem d_Mo_read_221 : decode bc_Mo_read 221 = .ok (.if_icmp .ge 16, 3) := by decide +kernel
theorem d_Mo_read_224 : decode bc_Mo_read 224 = .ok (.aload_n 0, 1) := by decide +kernel
theorem d_Mo_read_225 : decode bc_Mo_read 225 = .ok (.getfield 158, 3) := by decide +kernel
theorem d_Mo_read_228 : decode bc_Mo_read 228 = .ok (.iload_n 1, 1) := by decide +kernel
theorem d_Mo_read_229 : decode bc_Mo_read 229 = .ok (.iconst 0, 1) := by decide +kernel
theorem d_Mo_read_230 : decode bc_Mo_read 230 = .ok (.bastore, 1) := by decide +kernel
theorem d_Mo_read_231 : decode bc_Mo_read 231 = .ok (.iinc 1 1, 3) := by decide +kernel
theorem d_Mo_read_234 : decode bc_Mo_read 234 = .ok (.goto (-15), 3) := by decide +kernel
theorem d_Mo_read_237 : decode bc_Mo_read 237 = .ok (.iconst 0, 1) := by decide +kernel
theorem d_Mo_read_238 : decode bc_Mo_read 238 = .ok (.ireturn, 1) := by decide +kernel
set_option maxRecDepth 20000 in
theorem w_Mo_read_b219 {X : CX} {V : WV} (hV : IsM V) {z : Int32 × Mem} (hC : Ck X V bc_Mo_read 2 "SecretWellsModel" (some .int) 7 154) (k219 : Int32 → Mem → Option (Int32 × Mem)) (hk219 : ∀ (x1 : Int32) (S : Mem), k219 x1 S = some z → G X V 2 (QI X V z.1 z.2) 219 [some (.ref (V.2.2.1 0 0)), some (.int x1)] [] S) (x1 : Int32) (S : Mem) (h : f_Mo_read_b219  k219 x1 S = some z) : G X V 2 (QI X V z.1 z.2) 219 [some (.ref (V.2.2.1 0 0)), some (.int x1)] [] S := by
  unfold f_Mo_read_b219 at h
  refine g_iload_n (pc := 219) hC (i := 1) (x := x1) rfl rfl d_Mo_read_219 ?_
  refine g_iconst (pc := 220) hC kc_3 d_Mo_read_220 ?_
  refine g_icmp_ge (pc := 221) hC (tgt := 237) (by decide) d_Mo_read_221 h (fun h => ?_) (fun h => ?_)
  · refine g_iconst (pc := 237) hC kc_0 d_Mo_read_237 ?_
    exact g_iW (pc := 238) hC rfl d_Mo_read_238 h
  · refine g_aload_n (pc := 224) hC (i := 0) (x := (V.2.2.1 0 0)) rfl rfl d_Mo_read_224 ?_
    refine g_getA (pc := 225) hC fo_Mo_158 (ob_Mo hV) rfl d_Mo_read_225 ?_
    refine g_iload_n (pc := 228) hC (i := 1) (x := x1) rfl rfl d_Mo_read_228 ?_
    refine g_iconst (pc := 229) hC kc_0 d_Mo_read_229 ?_
    refine g_zast (pc := 230) hC (ar_Mo_72 hV) d_Mo_read_230 h (fun h => ?_)
    refine g_letS h (fun S230 h => ?_)
    refine s_iinc (pc := 231) hC (i := 1) (x := x1) (v := x1 + 1) rfl (by rw [kc_1]) (by decide) d_Mo_read_231 (lv2 := [some (.ref (V.2.2.1 0 0)), some (.int (x1 + 1))]) rfl ?_
    refine g_goto (pc := 234) hC (tgt := 219) (by decide) d_Mo_read_234 ?_
    exact hk219 (x1 + 1) S230 h
theorem w_Mo_read_l219 {X : CX} {V : WV} (hV : IsM V) {z : Int32 × Mem} (hC : Ck X V bc_Mo_read 2 "SecretWellsModel" (some .int) 7 154) : ∀ (n : Nat) (x1 : Int32) (S : Mem), f_Mo_read_l219  n x1 S = some z → G X V 2 (QI X V z.1 z.2) 219 [some (.ref (V.2.2.1 0 0)), some (.int x1)] [] S := by
  intro n
  induction n with
  | zero =>
    intro x1 S h
    have h : (none : Option (Int32 × Mem)) = some z := h
    cases h
  | succ n ih =>
    intro x1 S h
    exact w_Mo_read_b219 hV hC (f_Mo_read_l219  n) ih x1 S h
set_option maxRecDepth 20000 in
theorem w_Mo_read_b164 {X : CX} {V : WV} (hV : IsM V) {z : Int32 × Mem} (hC : Ck X V bc_Mo_read 2 "SecretWellsModel" (some .int) 7 154) (s0 : Int32) (S : Mem) (h : f_Mo_read_b164  s0 S = some z) : G X V 2 (QI X V z.1 z.2) 164 [some (.ref (V.2.2.1 0 0)), none] [.int s0, .ref (V.2.2.1 0 0)] S := by
  unfold f_Mo_read_b164 at h
  refine g_putI (pc := 164) hC po_Mo_37 (ob_Mo hV) rfl rfl rfl d_Mo_read_164 ?_
  refine g_letS h (fun S164 h => ?_)
  refine g_aload_n (pc := 167) hC (i := 0) (x := (V.2.2.1 0 0)) rfl rfl d_Mo_read_167 ?_
  refine g_getI (pc := 168) hC fo_Mo_215 (ob_Mo hV) rfl d_Mo_read_168 ?_
  refine g_if_le (pc := 171) hC (tgt := 179) (by decide) d_Mo_read_171 h (fun h => ?_) (fun h => ?_)
  · refine g_aload_n (pc := 179) hC (i := 0) (x := (V.2.2.1 0 0)) rfl rfl d_Mo_read_179 ?_
    refine g_getI (pc := 180) hC fo_Mo_224 (ob_Mo hV) rfl d_Mo_read_180 ?_
    refine g_if_le (pc := 183) hC (tgt := 191) (by decide) d_Mo_read_183 h (fun h => ?_) (fun h => ?_)
    · refine g_aload_n (pc := 191) hC (i := 0) (x := (V.2.2.1 0 0)) rfl rfl d_Mo_read_191 ?_
      refine g_aload_n (pc := 192) hC (i := 0) (x := (V.2.2.1 0 0)) rfl rfl d_Mo_read_192 ?_
      refine g_getI (pc := 193) hC fo_Mo_248 (ob_Mo hV) rfl d_Mo_read_193 ?_
      refine g_putI (pc := 196) hC po_Mo_245 (ob_Mo hV) rfl rfl rfl d_Mo_read_196 ?_
      refine g_letS h (fun S196 h => ?_)
      refine g_aload_n (pc := 199) hC (i := 0) (x := (V.2.2.1 0 0)) rfl rfl d_Mo_read_199 ?_
      obtain ⟨q200, hq200, h⟩ := Option.bind_eq_some_iff.mp h
      refine g_vv (pc := 200) hC (As := []) (st := []) mt_Mo_begins lk_Mo_172 rfl (ob_Mo hV) (Nat.le_of_ble_eq_true rfl) ⟨Nat.le_of_ble_eq_true rfl, Nat.le_of_ble_eq_true rfl⟩ rfl d_Mo_read_200 (c_Mo_begins hV hq200) ?_
      refine g_aload_n (pc := 203) hC (i := 0) (x := (V.2.2.1 0 0)) rfl rfl d_Mo_read_203 ?_
      obtain ⟨q204, hq204, h⟩ := Option.bind_eq_some_iff.mp h
      refine g_vv (pc := 204) hC (As := []) (st := []) mt_Mo_keepsRow lk_Mo_175 rfl (ob_Mo hV) (Nat.le_of_ble_eq_true rfl) ⟨Nat.le_of_ble_eq_true rfl, Nat.le_of_ble_eq_true rfl⟩ rfl d_Mo_read_204 (c_Mo_keepsRow hV hq204) ?_
      refine g_aload_n (pc := 207) hC (i := 0) (x := (V.2.2.1 0 0)) rfl rfl d_Mo_read_207 ?_
      refine g_iconst (pc := 208) hC kc_0 d_Mo_read_208 ?_
      refine g_putI (pc := 209) hC po_Mo_263 (ob_Mo hV) rfl rfl rfl d_Mo_read_209 ?_
      refine g_letS h (fun S209 h => ?_)
      refine g_aload_n (pc := 212) hC (i := 0) (x := (V.2.2.1 0 0)) rfl rfl d_Mo_read_212 ?_
      refine g_iconst (pc := 213) hC kc_0 d_Mo_read_213 ?_
      refine g_putI (pc := 214) hC po_Mo_266 (ob_Mo hV) rfl rfl rfl d_Mo_read_214 ?_
      refine g_letS h (fun S214 h => ?_)
      refine g_iconst (pc := 217) hC kc_0 d_Mo_read_217 ?_
      refine s_istore_n (pc := 218) hC (i := 1) rfl (by decide) d_Mo_read_218 (lv2 := [some (.ref (V.2.2.1 0 0)), some (.int 0)]) rfl ?_
      exact w_Mo_read_l219 hV hC 5000 0 S214 h
    · refine g_aload_n (pc := 186) hC (i := 0) (x := (V.2.2.1 0 0)) rfl rfl d_Mo_read_186 ?_
      refine g_getI (pc := 187) hC fo_Mo_224 (ob_Mo hV) rfl d_Mo_read_187 ?_
      exact g_iW (pc := 190) hC rfl d_Mo_read_190 h
  · refine g_aload_n (pc := 174) hC (i := 0) (x := (V.2.2.1 0 0)) rfl rfl d_Mo_read_174 ?_
    refine g_getI (pc := 175) hC fo_Mo_215 (ob_Mo hV) rfl d_Mo_read_175 ?_
    exact g_iW (pc := 178) hC rfl d_Mo_read_178 h
set_option maxRecDepth 20000 in
theorem w_Mo_read_b134 {X : CX} {V : WV} (hV : IsM V) {z : Int32 × Mem} (hC : Ck X V bc_Mo_read 2 "SecretWellsModel" (some .int) 7 154) (S : Mem) (h : f_Mo_read_b134  S = some z) : G X V 2 (QI X V z.1 z.2) 134 [some (.ref (V.2.2.1 0 0)), none] [] S := by
  unfold f_Mo_read_b134 at h
  refine g_aload_n (pc := 134) hC (i := 0) (x := (V.2.2.1 0 0)) rfl rfl d_Mo_read_134 ?_
  refine g_aload_n (pc := 135) hC (i := 0) (x := (V.2.2.1 0 0)) rfl rfl d_Mo_read_135 ?_
  refine g_getI (pc := 136) hC fo_Mo_215 (ob_Mo hV) rfl d_Mo_read_136 ?_
  refine g_if_le (pc := 139) hC (tgt := 149) (by decide) d_Mo_read_139 h (fun h => ?_) (fun h => ?_)
  · refine g_aload_n (pc := 149) hC (i := 0) (x := (V.2.2.1 0 0)) rfl rfl d_Mo_read_149 ?_
    refine g_getI (pc := 150) hC fo_Mo_224 (ob_Mo hV) rfl d_Mo_read_150 ?_
    refine g_if_le (pc := 153) hC (tgt := 163) (by decide) d_Mo_read_153 h (fun h => ?_) (fun h => ?_)
    · refine g_iconst (pc := 163) hC kc_m1 d_Mo_read_163 ?_
      exact w_Mo_read_b164 hV hC (-1) S h
    · refine g_aload_n (pc := 156) hC (i := 0) (x := (V.2.2.1 0 0)) rfl rfl d_Mo_read_156 ?_
      refine g_getI (pc := 157) hC fo_Mo_227 (ob_Mo hV) rfl d_Mo_read_157 ?_
      refine g_goto (pc := 160) hC (tgt := 164) (by decide) d_Mo_read_160 ?_
      exact w_Mo_read_b164 hV hC (S.1 0 16) S h
  · refine g_aload_n (pc := 142) hC (i := 0) (x := (V.2.2.1 0 0)) rfl rfl d_Mo_read_142 ?_
    refine g_getI (pc := 143) hC fo_Mo_221 (ob_Mo hV) rfl d_Mo_read_143 ?_
    refine g_goto (pc := 146) hC (tgt := 164) (by decide) d_Mo_read_146 ?_
    exact w_Mo_read_b164 hV hC (S.1 0 14) S h
set_option maxRecDepth 20000 in
theorem w_Mo_read_b112 {X : CX} {V : WV} (hV : IsM V) {z : Int32 × Mem} (hC : Ck X V bc_Mo_read 2 "SecretWellsModel" (some .int) 7 154) (k112 : Mem → Option (Int32 × Mem)) (hk112 : ∀ (S : Mem), k112 S = some z → G X V 2 (QI X V z.1 z.2) 112 [some (.ref (V.2.2.1 0 0)), none] [] S) (S : Mem) (h : f_Mo_read_b112  k112 S = some z) : G X V 2 (QI X V z.1 z.2) 112 [some (.ref (V.2.2.1 0 0)), none] [] S := by
  unfold f_Mo_read_b112 at h
  refine g_aload_n (pc := 112) hC (i := 0) (x := (V.2.2.1 0 0)) rfl rfl d_Mo_read_112 ?_
  refine g_getI (pc := 113) hC fo_Mo_215 (ob_Mo hV) rfl d_Mo_read_113 ?_
  refine g_if_ne (pc := 116) hC (tgt := 134) (by decide) d_Mo_read_116 h (fun h => ?_) (fun h => ?_)
  · exact w_Mo_read_b134 hV hC S h
  · refine g_aload_n (pc := 119) hC (i := 0) (x := (V.2.2.1 0 0)) rfl rfl d_Mo_read_119 ?_
    refine g_iconst (pc := 120) hC kc_0 d_Mo_read_120 ?_
    obtain ⟨q121, hq121, h⟩ := Option.bind_eq_some_iff.mp h
    refine g_vi (pc := 121) hC (As := [.int 0]) (st := []) mt_Mo_is lk_Mo_233 rfl (ob_Mo hV) (Nat.le_of_ble_eq_true rfl) ⟨Nat.le_of_ble_eq_true rfl, Nat.le_of_ble_eq_true rfl⟩ rfl d_Mo_read_121 (c_Mo_is hV hq121) ?_
    refine g_if_ne (pc := 124) hC (tgt := 134) (by decide) d_Mo_read_124 h (fun h => ?_) (fun h => ?_)
    · exact w_Mo_read_b134 hV hC S h
    · refine g_aload_n (pc := 127) hC (i := 0) (x := (V.2.2.1 0 0)) rfl rfl d_Mo_read_127 ?_
      obtain ⟨q128, hq128, h⟩ := Option.bind_eq_some_iff.mp h
      refine g_vv (pc := 128) hC (As := []) (st := []) mt_Mo_tellOne lk_Mo_260 rfl (ob_Mo hV) (Nat.le_of_ble_eq_true rfl) ⟨Nat.le_of_ble_eq_true rfl, Nat.le_of_ble_eq_true rfl⟩ rfl d_Mo_read_128 (c_Mo_tellOne hV hq128) ?_
      refine g_goto (pc := 131) hC (tgt := 112) (by decide) d_Mo_read_131 ?_
      exact hk112 q128 h
theorem w_Mo_read_l112 {X : CX} {V : WV} (hV : IsM V) {z : Int32 × Mem} (hC : Ck X V bc_Mo_read 2 "SecretWellsModel" (some .int) 7 154) : ∀ (n : Nat) (S : Mem), f_Mo_read_l112  n S = some z → G X V 2 (QI X V z.1 z.2) 112 [some (.ref (V.2.2.1 0 0)), none] [] S := by
  intro n
  induction n with
  | zero =>
    intro S h
    have h : (none : Option (Int32 × Mem)) = some z := h
    cases h
  | succ n ih =>
    intro S h
    exact w_Mo_read_b112 hV hC (f_Mo_read_l112  n) ih S h
set_option maxRecDepth 20000 in
theorem w_Mo_read_b10 {X : CX} {V : WV} (hV : IsM V) {z : Int32 × Mem} (hC : Ck X V bc_Mo_read 2 "SecretWellsModel" (some .int) 7 154) (k10 : Int32 → Mem → Option (Int32 × Mem)) (hk10 : ∀ (x1 : Int32) (S : Mem), k10 x1 S = some z → G X V 2 (QI X V z.1 z.2) 10 [some (.ref (V.2.2.1 0 0)), some (.int x1)] [] S) (x1 : Int32) (S : Mem) (h : f_Mo_read_b10  k10 x1 S = some z) : G X V 2 (QI X V z.1 z.2) 10 [some (.ref (V.2.2.1 0 0)), some (.int x1)] [] S := by
  unfold f_Mo_read_b10 at h
  refine g_iload_n (pc := 10) hC (i := 1) (x := x1) rfl rfl d_Mo_read_10 ?_
  refine g_aload_n (pc := 11) hC (i := 0) (x := (V.2.2.1 0 0)) rfl rfl d_Mo_read_11 ?_
  refine g_getI (pc := 12) hC fo_Mo_184 (ob_Mo hV) rfl d_Mo_read_12 ?_
  refine g_icmp_ge (pc := 15) hC (tgt := 36) (by decide) d_Mo_read_15 h (fun h => ?_) (fun h => ?_)
  · refine g_aload_n (pc := 36) hC (i := 0) (x := (V.2.2.1 0 0)) rfl rfl d_Mo_read_36 ?_
    refine g_iconst (pc := 37) hC kc_0 d_Mo_read_37 ?_
    refine g_putI (pc := 38) hC po_Mo_178 (ob_Mo hV) rfl rfl rfl d_Mo_read_38 ?_
    refine g_letS h (fun S38 h => ?_)
    refine g_aload_n (pc := 41) hC (i := 0) (x := (V.2.2.1 0 0)) rfl rfl d_Mo_read_41 ?_
    obtain ⟨q42, hq42, h⟩ := Option.bind_eq_some_iff.mp h
    refine g_vv (pc := 42) hC (As := []) (st := []) mt_Mo_cut0 lk_Mo_239 rfl (ob_Mo hV) (Nat.le_of_ble_eq_true rfl) ⟨Nat.le_of_ble_eq_true rfl, Nat.le_of_ble_eq_true rfl⟩ rfl d_Mo_read_42 (c_Mo_cut0 hV hq42) ?_
    refine g_aload_n (pc := 45) hC (i := 0) (x := (V.2.2.1 0 0)) rfl rfl d_Mo_read_45 ?_
    refine g_iconst (pc := 46) hC kc_0 d_Mo_read_46 ?_
    refine g_putI (pc := 47) hC po_Mo_218 (ob_Mo hV) rfl rfl rfl d_Mo_read_47 ?_
    refine g_letS h (fun S47 h => ?_)
    refine g_aload_n (pc := 50) hC (i := 0) (x := (V.2.2.1 0 0)) rfl rfl d_Mo_read_50 ?_
    refine g_iconst (pc := 51) hC kc_0 d_Mo_read_51 ?_
    refine g_putI (pc := 52) hC po_Mo_242 (ob_Mo hV) rfl rfl rfl d_Mo_read_52 ?_
    refine g_letS h (fun S52 h => ?_)
    refine g_aload_n (pc := 55) hC (i := 0) (x := (V.2.2.1 0 0)) rfl rfl d_Mo_read_55 ?_
    refine g_iconst (pc := 56) hC kc_0 d_Mo_read_56 ?_
    refine g_putI (pc := 57) hC po_Mo_215 (ob_Mo hV) rfl rfl rfl d_Mo_read_57 ?_
    refine g_letS h (fun S57 h => ?_)
    refine g_aload_n (pc := 60) hC (i := 0) (x := (V.2.2.1 0 0)) rfl rfl d_Mo_read_60 ?_
    refine g_iconst (pc := 61) hC kc_0 d_Mo_read_61 ?_
    refine g_putI (pc := 62) hC po_Mo_224 (ob_Mo hV) rfl rfl rfl d_Mo_read_62 ?_
    refine g_letS h (fun S62 h => ?_)
    refine g_aload_n (pc := 65) hC (i := 0) (x := (V.2.2.1 0 0)) rfl rfl d_Mo_read_65 ?_
    refine g_iconst (pc := 66) hC kc_1 d_Mo_read_66 ?_
    refine g_aload_n (pc := 67) hC (i := 0) (x := (V.2.2.1 0 0)) rfl rfl d_Mo_read_67 ?_
    refine g_getI (pc := 68) hC fo_Mo_245 (ob_Mo hV) rfl d_Mo_read_68 ?_
    refine g_isub (pc := 71) hC d_Mo_read_71 ?_
    refine g_putI (pc := 72) hC po_Mo_248 (ob_Mo hV) rfl rfl rfl d_Mo_read_72 ?_
    refine g_letS h (fun S72 h => ?_)
    refine g_aload_n (pc := 75) hC (i := 0) (x := (V.2.2.1 0 0)) rfl rfl d_Mo_read_75 ?_
    refine g_iconst (pc := 76) hC kc_0 d_Mo_read_76 ?_
    refine g_putI (pc := 77) hC po_Mo_251 (ob_Mo hV) rfl rfl rfl d_Mo_read_77 ?_
    refine g_letS h (fun S77 h => ?_)
    refine g_aload_n (pc := 80) hC (i := 0) (x := (V.2.2.1 0 0)) rfl rfl d_Mo_read_80 ?_
    refine g_aload_n (pc := 81) hC (i := 0) (x := (V.2.2.1 0 0)) rfl rfl d_Mo_read_81 ?_
    refine g_getI (pc := 82) hC fo_Mo_248 (ob_Mo hV) rfl d_Mo_read_82 ?_
    obtain ⟨q85, hq85, h⟩ := Option.bind_eq_some_iff.mp h
    refine g_vv (pc := 85) hC (As := [.int (S77.1 0 19)]) (st := []) mt_Mo_plain lk_Mo_164 rfl (ob_Mo hV) (Nat.le_of_ble_eq_true rfl) ⟨Nat.le_of_ble_eq_true rfl, Nat.le_of_ble_eq_true rfl⟩ rfl d_Mo_read_85 (c_Mo_plain hV hq85) ?_
    refine g_aload_n (pc := 88) hC (i := 0) (x := (V.2.2.1 0 0)) rfl rfl d_Mo_read_88 ?_
    refine g_sipush (pc := 89) hC ks_130 d_Mo_read_89 ?_
    refine g_aload_n (pc := 92) hC (i := 0) (x := (V.2.2.1 0 0)) rfl rfl d_Mo_read_92 ?_
    refine g_getI (pc := 93) hC fo_Mo_248 (ob_Mo hV) rfl d_Mo_read_93 ?_
    refine g_imul (pc := 96) hC d_Mo_read_96 ?_
    refine g_putI (pc := 97) hC po_Mo_254 (ob_Mo hV) rfl rfl rfl d_Mo_read_97 ?_
    refine g_letS h (fun S97 h => ?_)
    refine g_aload_n (pc := 100) hC (i := 0) (x := (V.2.2.1 0 0)) rfl rfl d_Mo_read_100 ?_
    refine g_sipush (pc := 101) hC ks_420 d_Mo_read_101 ?_
    refine g_aload_n (pc := 104) hC (i := 0) (x := (V.2.2.1 0 0)) rfl rfl d_Mo_read_104 ?_
    refine g_getI (pc := 105) hC fo_Mo_248 (ob_Mo hV) rfl d_Mo_read_105 ?_
    refine g_imul (pc := 108) hC d_Mo_read_108 ?_
    refine g_putI (pc := 109) hC po_Mo_257 (ob_Mo hV) rfl rfl rfl d_Mo_read_109 ?_
    refine g_letS h (fun S109 h => ?_)
    refine g_le (lv2 := [some (.ref (V.2.2.1 0 0)), none]) (⟨rfl, trivial⟩) ?_
    exact w_Mo_read_l112 hV hC 5000 S109 h
  · refine g_aload_n (pc := 18) hC (i := 0) (x := (V.2.2.1 0 0)) rfl rfl d_Mo_read_18 ?_
    refine g_getA (pc := 19) hC fo_Mo_17 (ob_Mo hV) rfl d_Mo_read_19 ?_
    refine g_iload_n (pc := 22) hC (i := 1) (x := x1) rfl rfl d_Mo_read_22 ?_
    refine g_aload_n (pc := 23) hC (i := 0) (x := (V.2.2.1 0 0)) rfl rfl d_Mo_read_23 ?_
    refine g_getA (pc := 24) hC fo_Mo_13 (ob_Mo hV) rfl d_Mo_read_24 ?_
    refine g_iload_n (pc := 27) hC (i := 1) (x := x1) rfl rfl d_Mo_read_27 ?_
    refine g_bald (pc := 28) hC (ar_Mo_1 hV) d_Mo_read_28 h (fun h => ?_)
    refine g_bast (pc := 29) hC (ar_Mo_3 hV) d_Mo_read_29 h (fun h => ?_)
    refine g_letS h (fun S29 h => ?_)
    refine s_iinc (pc := 30) hC (i := 1) (x := x1) (v := x1 + 1) rfl (by rw [kc_1]) (by decide) d_Mo_read_30 (lv2 := [some (.ref (V.2.2.1 0 0)), some (.int (x1 + 1))]) rfl ?_
    refine g_goto (pc := 33) hC (tgt := 10) (by decide) d_Mo_read_33 ?_
    exact hk10 (x1 + 1) S29 h
theorem w_Mo_read_l10 {X : CX} {V : WV} (hV : IsM V) {z : Int32 × Mem} (hC : Ck X V bc_Mo_read 2 "SecretWellsModel" (some .int) 7 154) : ∀ (n : Nat) (x1 : Int32) (S : Mem), f_Mo_read_l10  n x1 S = some z → G X V 2 (QI X V z.1 z.2) 10 [some (.ref (V.2.2.1 0 0)), some (.int x1)] [] S := by
  intro n
  induction n with
  | zero =>
    intro x1 S h
    have h : (none : Option (Int32 × Mem)) = some z := h
    cases h
  | succ n ih =>
    intro x1 S h
    exact w_Mo_read_b10 hV hC (f_Mo_read_l10  n) ih x1 S h
set_option maxRecDepth 20000 in
theorem w_Mo_read_b0 {X : CX} {V : WV} (hV : IsM V) {z : Int32 × Mem} (hC : Ck X V bc_Mo_read 2 "SecretWellsModel" (some .int) 7 154) (S : Mem) (h : f_Mo_read_b0  S = some z) : G X V 2 (QI X V z.1 z.2) 0 [some (.ref (V.2.2.1 0 0)), none] [] S := by
  unfold f_Mo_read_b0 at h
  refine g_aload_n (pc := 0) hC (i := 0) (x := (V.2.2.1 0 0)) rfl rfl d_Mo_read_0 ?_
  refine g_aload_n (pc := 1) hC (i := 0) (x := (V.2.2.1 0 0)) rfl rfl d_Mo_read_1 ?_
  refine g_getI (pc := 2) hC fo_Mo_178 (ob_Mo hV) rfl d_Mo_read_2 ?_
  refine g_putI (pc := 5) hC po_Mo_184 (ob_Mo hV) rfl rfl rfl d_Mo_read_5 ?_
  refine g_letS h (fun S5 h => ?_)
  refine g_iconst (pc := 8) hC kc_0 d_Mo_read_8 ?_
  refine s_istore_n (pc := 9) hC (i := 1) rfl (by decide) d_Mo_read_9 (lv2 := [some (.ref (V.2.2.1 0 0)), some (.int 0)]) rfl ?_
  exact w_Mo_read_l10 hV hC 5000 0 S5 h
theorem c_Mo_read {V : WV} {l : Launch} (hV : IsM V) {S : Mem} {z : Int32 × Mem} (h : f_Mo_read S = some z) : CI V l y_Mo_read bc_Mo_read 2 (some .int) 7 154 [.ref (V.2.2.1 0 0)] S z.1 z.2 :=
  ct_i rfl (IsM.ok hV) (Nat.le_of_ble_eq_true rfl) (fun _ _ hC => w_Mo_read_b0 hV hC S h)
def f_Mo_place_b0 (S : Mem) : Option (Int32) :=
  some (S.1 0 17)
def f_Mo_place (S : Mem) : Option (Int32) := f_Mo_place_b0 S
theorem d_Mo_place_0 : decode bc_Mo_place 0 = .ok (.aload_n 0, 1) := by decide +kernel
theorem d_Mo_place_1 : decode bc_Mo_place 1 = .ok (.getfield 37, 3) := by decide +kernel
theorem d_Mo_place_4 : decode bc_Mo_place 4 = .ok (.ireturn, 1) := by decide +kernel
set_option maxRecDepth 20000 in
theorem w_Mo_place_b0 {X : CX} {V : WV} (hV : IsM V) {S : Mem} {z : Int32} (hC : Ck X V bc_Mo_place 1 "SecretWellsModel" (some .int) 0 0) (h : f_Mo_place_b0 S = some z) : G X V 1 (QI X V z S) 0 [some (.ref (V.2.2.1 0 0))] [] S := by
  unfold f_Mo_place_b0 at h
  refine g_aload_n (pc := 0) hC (i := 0) (x := (V.2.2.1 0 0)) rfl rfl d_Mo_place_0 ?_
  refine g_getI (pc := 1) hC fo_Mo_37 (ob_Mo hV) rfl d_Mo_place_1 ?_
  exact g_iN (pc := 4) hC rfl d_Mo_place_4 h
theorem c_Mo_place {V : WV} {l : Launch} (hV : IsM V) {S : Mem} {z : Int32} (h : f_Mo_place S = some z) : CI V l y_Mo_place bc_Mo_place 1 (some .int) 0 0 [.ref (V.2.2.1 0 0)] S z S :=
  ct_i rfl (IsM.ok hV) (Nat.le_of_ble_eq_true rfl) (fun _ _ hC => w_Mo_place_b0 hV hC h)
def f_Mo_termOf_b58 (k5 : Int32 → Int32 → Int32 → Mem → Option (Int32 × Mem)) (x2 : Int32) (x3 : Int32) (x4 : Int32) (s0 : Int32) (s1 : Int32) (S : Mem) : Option (Int32 × Mem) :=
  gIn s1 400 (letS (sA S 0 54 s1 s0) (fun S58 =>
  k5 x2 (x3 + 1) (x4 + 1) S58))
def f_Mo_termOf_b158 (k5 : Int32 → Int32 → Int32 → Mem → Option (Int32 × Mem)) (x2 : Int32) (x3 : Int32) (x4 : Int32) (s0 : Int32) (s1 : Int32) (S : Mem) : Option (Int32 × Mem) :=
  gIn s1 400 (letS (sA S 0 54 s1 s0) (fun S158 =>
  k5 x2 x3 (x4 + 1) S158))
def f_Mo_termOf_b104 (k5 : Int32 → Int32 → Int32 → Mem → Option (Int32 × Mem)) (x2 : Int32) (x3 : Int32) (x4 : Int32) (x5 : Int32) (x6 : Int32) (x7 : Int32) (S : Mem) : Option (Int32 × Mem) :=
  if x5 = 2 then
    f_Mo_termOf_b158 k5 x2 x3 x4 (x6 + x7) (x3 - 1) S
  else
    if x5 = 3 then
      f_Mo_termOf_b158 k5 x2 x3 x4 (x6 - x7) (x3 - 1) S
    else
      if x5 = 4 then
        f_Mo_termOf_b158 k5 x2 x3 x4 (x6 * x7) (x3 - 1) S
      else
        gNz x7 (
        f_Mo_termOf_b158 k5 x2 x3 x4 (x6 / x7) (x3 - 1) S)
def f_Mo_termOf_b5 (k5 : Int32 → Int32 → Int32 → Mem → Option (Int32 × Mem)) (x2 : Int32) (x3 : Int32) (x4 : Int32) (S : Mem) : Option (Int32 × Mem) :=
  if x2 ≤ x4 then
    gIn 0 400 (
    some (S.2.1 0 54 (0 : Int32).toNatClampNeg, S))
  else
    gIn x4 840 (
    letS (S.2.1 0 49 x4.toNatClampNeg) (fun y18 =>
    if 2 ≤ y18 then
      gIn ((x3 + (-1)) - 1) 400 (
      letS (S.2.1 0 54 ((x3 + (-1)) - 1).toNatClampNeg) (fun y76 =>
      gIn (x3 + (-1)) 400 (
      letS (S.2.1 0 54 (x3 + (-1)).toNatClampNeg) (fun y84 =>
      if y18 = 5 then
        if y84 = 0 then
          letS (pI S 0 55 1) (fun S99 =>
          some (0, S99))
        else
          f_Mo_termOf_b104 k5 x2 (x3 + (-1)) x4 y18 y76 y84 S
      else
        f_Mo_termOf_b104 k5 x2 (x3 + (-1)) x4 y18 y76 y84 S))))
    else
      if y18 = 0 then
        gIn x4 840 (
        f_Mo_termOf_b58 k5 x2 x3 x4 (S.2.1 0 50 x4.toNatClampNeg) x3 S)
      else
        gIn x4 840 (
        gIn (S.2.1 0 50 x4.toNatClampNeg) 8 (
        f_Mo_termOf_b58 k5 x2 x3 x4 (S.2.1 0 53 (S.2.1 0 50 x4.toNatClampNeg).toNatClampNeg) x3 S))))
def f_Mo_termOf_l5 : Nat → Int32 → Int32 → Int32 → Mem → Option (Int32 × Mem)
  | 0 => fun _ _ _ _ => none
  | n + 1 => f_Mo_termOf_b5  (f_Mo_termOf_l5  n)
def f_Mo_termOf_b0 (x1 : Int32) (x2 : Int32) (S : Mem) : Option (Int32 × Mem) :=
  f_Mo_termOf_l5 5000 x2 0 x1 S
def f_Mo_termOf (x1 : Int32) (x2 : Int32) (S : Mem) : Option (Int32 × Mem) := f_Mo_termOf_b0  x1 x2 S
theorem d_Mo_termOf_0 : decode bc_Mo_termOf 0 = .ok (.iconst 0, 1) := by decide +kernel
theorem d_Mo_termOf_1 : decode bc_Mo_termOf 1 = .ok (.istore_n 3, 1) := by decide +kernel
theorem d_Mo_termOf_2 : decode bc_Mo_termOf 2 = .ok (.iload_n 1, 1) := by decide +kernel
theorem d_Mo_termOf_3 : decode bc_Mo_termOf 3 = .ok (.istore 4, 2) := by decide +kernel
theorem d_Mo_termOf_5 : decode bc_Mo_termOf 5 = .ok (.iload 4, 2) := by decide +kernel
theorem d_Mo_termOf_7 : decode bc_Mo_termOf 7 = .ok (.iload_n 2, 1) := by decide +kernel
theorem d_Mo_termOf_8 : decode bc_Mo_termOf 8 = .ok (.if_icmp .ge 157, 3) := by decide +kernel
theorem d_Mo_termOf_11 : decode bc_Mo_termOf 11 = .ok (.aload_n 0, 1) := by decide +kernel
theorem d_Mo_termOf_12 : decode bc_Mo_termOf 12 = .ok (.getfield 119, 3) := by decide +kernel
theorem d_Mo_termOf_15 : decode bc_Mo_termOf 15 = .ok (.iload 4, 2) := by decide +kernel
theorem d_Mo_termOf_17 : decode bc_Mo_termOf 17 = .ok (.iaload, 1) := by decide +kernel
theorem d_Mo_termOf_18 : decode bc_Mo_termOf 18 = .ok (.istore 5, 2) := by decide +kernel
theorem d_Mo_termOf_20 : decode bc_Mo_termOf 20 = .ok (.iload 5, 2) := by decide +kernel
theorem d_Mo_termOf_22 : decode bc_Mo_termOf 22 = .ok (.iconst 2, 1) := by decide +kernel
theorem d_Mo_termOf_23 : decode bc_Mo_termOf 23 = .ok (.if_icmp .ge 42, 3) := by decide +kernel
theorem d_Mo_termOf_26 : decode bc_Mo_termOf 26 = .ok (.aload_n 0, 1) := by decide +kernel
theorem d_Mo_termOf_27 : decode bc_Mo_termOf 27 = .ok (.getfield 131, 3) := by decide +kernel
theorem d_Mo_termOf_30 : decode bc_Mo_termOf 30 = .ok (.iload_n 3, 1) := by decide +kernel
theorem d_Mo_termOf_31 : decode bc_Mo_termOf 31 = .ok (.iload 5, 2) := by decide +kernel
theorem d_Mo_termOf_33 : decode bc_Mo_termOf 33 = .ok (.ifCond .ne 13, 3) := by decide +kernel
theorem d_Mo_termOf_36 : decode bc_Mo_termOf 36 = .ok (.aload_n 0, 1) := by decide +kernel
theorem d_Mo_termOf_37 : decode bc_Mo_termOf 37 = .ok (.getfield 122, 3) := by decide +kernel
theorem d_Mo_termOf_40 : decode bc_Mo_termOf 40 = .ok (.iload 4, 2) := by decide +kernel
theorem d_Mo_termOf_42 : decode bc_Mo_termOf 42 = .ok (.iaload, 1) := by decide +kernel
theorem d_Mo_termOf_43 : decode bc_Mo_termOf 43 = .ok (.goto 15, 3) := by decide +kernel
theorem d_Mo_termOf_46 : decode bc_Mo_termOf 46 = .ok (.aload_n 0, 1) := by decide +kernel
theorem d_Mo_termOf_47 : decode bc_Mo_termOf 47 = .ok (.getfield 128, 3) := by decide +kernel
theorem d_Mo_termOf_50 : decode bc_Mo_termOf 50 = .ok (.aload_n 0, 1) := by decide +kernel
theorem d_Mo_termOf_51 : decode bc_Mo_termOf 51 = .ok (.getfield 122, 3) := by decide +kernel
theorem d_Mo_termOf_54 : decode bc_Mo_termOf 54 = .ok (.iload 4, 2) := by decide +kernel
theorem d_Mo_termOf_56 : decode bc_Mo_termOf 56 = .ok (.iaload, 1) := by decide +kernel
theorem d_Mo_termOf_57 : decode bc_Mo_termOf 57 = .ok (.iaload, 1) := by decide +kernel
theorem d_Mo_termOf_58 : decode bc_Mo_termOf 58 = .ok (.iastore, 1) := by decide +kernel
theorem d_Mo_termOf_59 : decode bc_Mo_termOf 59 = .ok (.iinc 3 1, 3) := by decide +kernel
theorem d_Mo_termOf_62 : decode bc_Mo_termOf 62 = .ok (.goto 97, 3) := by decide +kernel
theorem d_Mo_termOf_65 : decode bc_Mo_termOf 65 = .ok (.iinc 3 (-1), 3) := by decide +kernel
theorem d_Mo_termOf_68 : decode bc_Mo_termOf 68 = .ok (.aload_n 0, 1) := by decide +kernel
theorem d_Mo_termOf_69 : decode bc_Mo_termOf 69 = .ok (.getfield 131, 3) := by decide +kernel
theorem d_Mo_termOf_72 : decode bc_Mo_termOf 72 = .ok (.iload_n 3, 1) := by decide +kernel
theorem d_Mo_termOf_73 : decode bc_Mo_termOf 73 = .ok (.iconst 1, 1) := by decide +kernel
theorem d_Mo_termOf_74 : decode bc_Mo_termOf 74 = .ok (.isub, 1) := by decide +kernel
theorem d_Mo_termOf_75 : decode bc_Mo_termOf 75 = .ok (.iaload, 1) := by decide +kernel
theorem d_Mo_termOf_76 : decode bc_Mo_termOf 76 = .ok (.istore 6, 2) := by decide +kernel
theorem d_Mo_termOf_78 : decode bc_Mo_termOf 78 = .ok (.aload_n 0, 1) := by decide +kernel
theorem d_Mo_termOf_79 : decode bc_Mo_termOf 79 = .ok (.getfield 131, 3) := by decide +kernel
theorem d_Mo_termOf_82 : decode bc_Mo_termOf 82 = .ok (.iload_n 3, 1) := by decide +kernel
theorem d_Mo_termOf_83 : decode bc_Mo_termOf 83 = .ok (.iaload, 1) := by decide +kernel
theorem d_Mo_termOf_84 : decode bc_Mo_termOf 84 = .ok (.istore 7, 2) := by decide +kernel
theorem d_Mo_termOf_86 : decode bc_Mo_termOf 86 = .ok (.iload 5, 2) := by decide +kernel
theorem d_Mo_termOf_88 : decode bc_Mo_termOf 88 = .ok (.iconst 5, 1) := by decide +kernel
theorem d_Mo_termOf_89 : decode bc_Mo_termOf 89 = .ok (.if_icmp .ne 15, 3) := by decide +kernel
theorem d_Mo_termOf_92 : decode bc_Mo_termOf 92 = .ok (.iload 7, 2) := by decide +kernel
theorem d_Mo_termOf_94 : decode bc_Mo_termOf 94 = .ok (.ifCond .ne 10, 3) := by decide +kernel
theorem d_Mo_termOf_97 : decode bc_Mo_termOf 97 = .ok (.aload_n 0, 1) := by decide +kernel
theorem d_Mo_termOf_98 : decode bc_Mo_termOf 98 = .ok (.iconst 1, 1) := by decide +kernel
theorem d_Mo_termOf_99 : decode bc_Mo_termOf 99 = .ok (.putfield 328, 3) := by decide +kernel
theorem d_Mo_termOf_102 : decode bc_Mo_termOf 102 = .ok (.iconst 0, 1) := by decide +kernel
theorem d_Mo_termOf_103 : decode bc_Mo_termOf 103 = .ok (.ireturn, 1) := by decide +kernel
theorem d_Mo_termOf_104 : decode bc_Mo_termOf 104 = .ok (.aload_n 0, 1) := by decide +kernel
theorem d_Mo_termOf_105 : decode bc_Mo_termOf 105 = .ok (.getfield 131, 3) := by decide +kernel
theorem d_Mo_termOf_108 : decode bc_Mo_termOf 108 = .ok (.iload_n 3, 1) := by decide +kernel
theorem d_Mo_termOf_109 : decode bc_Mo_termOf 109 = .ok (.iconst 1, 1) := by decide +kernel
theorem d_Mo_termOf_110 : decode bc_Mo_termOf 110 = .ok (.isub, 1) := by decide +kernel
theorem d_Mo_termOf_111 : decode bc_Mo_termOf 111 = .ok (.iload 5, 2) := by decide +kernel
theorem d_Mo_termOf_113 : decode bc_Mo_termOf 113 = .ok (.iconst 2, 1) := by decide +kernel
theorem d_Mo_termOf_114 : decode bc_Mo_termOf 114 = .ok (.if_icmp .ne 11, 3) := by decide +kernel
theorem d_Mo_termOf_117 : decode bc_Mo_termOf 117 = .ok (.iload 6, 2) := by decide +kernel
theorem d_Mo_termOf_119 : decode bc_Mo_termOf 119 = .ok (.iload 7, 2) := by decide +kernel
theorem d_Mo_termOf_121 : decode bc_Mo_termOf 121 = .ok (.iadd, 1) := by decide +kernel
theorem d_Mo_termOf_122 : decode bc_Mo_termOf 122 = .ok (.goto 36, 3) := by decide +kernel
theorem d_Mo_termOf_125 : decode bc_Mo_termOf 125 = .ok (.iload 5, 2) := by decide +kernel
theorem d_Mo_termOf_127 : decode bc_Mo_termOf 127 = .ok (.iconst 3, 1) := by decide +kernel
theorem d_Mo_termOf_128 : decode bc_Mo_termOf 128 = .ok (.if_icmp .ne 11, 3) := by decide +kernel
theorem d_Mo_termOf_131 : decode bc_Mo_termOf 131 = .ok (.iload 6, 2) := by decide +kernel
theorem d_Mo_termOf_133 : decode bc_Mo_termOf 133 = .ok (.iload 7, 2) := by decide +kernel
theorem d_Mo_termOf_135 : decode bc_Mo_termOf 135 = .ok (.isub, 1) := by decide +kernel
theorem d_Mo_termOf_136 : decode bc_Mo_termOf 136 = .ok (.goto 22, 3) := by decide +kernel
theorem d_Mo_termOf_139 : decode bc_Mo_termOf 139 = .ok (.iload 5, 2) := by decide +kernel
theorem d_Mo_termOf_141 : decode bc_Mo_termOf 141 = .ok (.iconst 4, 1) := by decide +kernel
theorem d_Mo_termOf_142 : decode bc_Mo_termOf 142 = .ok (.if_icmp .ne 11, 3) := by decide +kernel
theorem d_Mo_termOf_145 : decode bc_Mo_termOf 145 = .ok (.iload 6, 2) := by decide +kernel
theorem d_Mo_termOf_147 : decode bc_Mo_termOf 147 = .ok (.iload 7, 2) := by decide +kernel
theorem d_Mo_termOf_149 : decode bc_Mo_termOf 149 = .ok (.imul, 1) := by decide +kernel
theorem d_Mo_termOf_150 : decode bc_Mo_termOf 150 = .ok (.goto 8, 3) := by decide +kernel
theorem d_Mo_termOf_153 : decode bc_Mo_termOf 153 = .ok (.iload 6, 2) := by decide +kernel
theorem d_Mo_termOf_155 : decode bc_Mo_termOf 155 = .ok (.iload 7, 2) := by decide +kernel
theorem d_Mo_termOf_157 : decode bc_Mo_termOf 157 = .ok (.idiv, 1) := by decide +kernel
theorem d_Mo_termOf_158 : decode bc_Mo_termOf 158 = .ok (.iastore, 1) := by decide +kernel
theorem d_Mo_termOf_159 : decode bc_Mo_termOf 159 = .ok (.iinc 4 1, 3) := by decide +kernel
theorem d_Mo_termOf_162 : decode bc_Mo_termOf 162 = .ok (.goto (-157), 3) := by decide +kernel
theorem d_Mo_termOf_165 : decode bc_Mo_termOf 165 = .ok (.aload_n 0, 1) := by decide +kernel
theorem d_Mo_termOf_166 : decode bc_Mo_termOf 166 = .ok (.getfield 131, 3) := by decide +kernel
theorem d_Mo_termOf_169 : decode bc_Mo_termOf 169 = .ok (.iconst 0, 1) := by decide +kernel
theorem d_Mo_termOf_170 : decode bc_Mo_termOf 170 = .ok (.iaload, 1) := by decide +kernel
theorem d_Mo_termOf_171 : decode bc_Mo_termOf 171 = .ok (.ireturn, 1) := by decide +kernel
set_option maxRecDepth 20000 in
theorem w_Mo_termOf_b58 {X : CX} {V : WV} (hV : IsM V) {z : Int32 × Mem} (hC : Ck X V bc_Mo_termOf 8 "SecretWellsModel" (some .int) 0 0) (k5 : Int32 → Int32 → Int32 → Mem → Option (Int32 × Mem)) (hk5 : ∀ (x2 : Int32) (x3 : Int32) (x4 : Int32) (S : Mem), k5 x2 x3 x4 S = some z → G X V 8 (QI X V z.1 z.2) 5 [some (.ref (V.2.2.1 0 0)), none, some (.int x2), some (.int x3), some (.int x4), none, none, none] [] S) (x2 : Int32) (x3 : Int32) (x4 : Int32) (s0 : Int32) (s1 : Int32) (S : Mem) (h : f_Mo_termOf_b58  k5 x2 x3 x4 s0 s1 S = some z) : G X V 8 (QI X V z.1 z.2) 58 [some (.ref (V.2.2.1 0 0)), none, some (.int x2), some (.int x3), some (.int x4), none, none, none] [.int s0, .int s1, .ref (V.2.2.1 0 (54 + 1))] S := by
  unfold f_Mo_termOf_b58 at h
  refine g_iast (pc := 58) hC (ar_Mo_54 hV) d_Mo_termOf_58 h (fun h => ?_)
  refine g_letS h (fun S58 h => ?_)
  refine s_iinc (pc := 59) hC (i := 3) (x := x3) (v := x3 + 1) rfl (by rw [kc_1]) (by decide) d_Mo_termOf_59 (lv2 := [some (.ref (V.2.2.1 0 0)), none, some (.int x2), some (.int (x3 + 1)), some (.int x4), none, none, none]) rfl ?_
  refine g_goto (pc := 62) hC (tgt := 159) (by decide) d_Mo_termOf_62 ?_
  refine s_iinc (pc := 159) hC (i := 4) (x := x4) (v := x4 + 1) rfl (by rw [kc_1]) (by decide) d_Mo_termOf_159 (lv2 := [some (.ref (V.2.2.1 0 0)), none, some (.int x2), some (.int (x3 + 1)), some (.int (x4 + 1)), none, none, none]) rfl ?_
  refine g_goto (pc := 162) hC (tgt := 5) (by decide) d_Mo_termOf_162 ?_
  exact hk5 x2 (x3 + 1) (x4 + 1) S58 h
set_option maxRecDepth 20000 in
theorem w_Mo_termOf_b158 {X : CX} {V : WV} (hV : IsM V) {z : Int32 × Mem} (hC : Ck X V bc_Mo_termOf 8 "SecretWellsModel" (some .int) 0 0) (k5 : Int32 → Int32 → Int32 → Mem → Option (Int32 × Mem)) (hk5 : ∀ (x2 : Int32) (x3 : Int32) (x4 : Int32) (S : Mem), k5 x2 x3 x4 S = some z → G X V 8 (QI X V z.1 z.2) 5 [some (.ref (V.2.2.1 0 0)), none, some (.int x2), some (.int x3), some (.int x4), none, none, none] [] S) (x2 : Int32) (x3 : Int32) (x4 : Int32) (s0 : Int32) (s1 : Int32) (S : Mem) (h : f_Mo_termOf_b158  k5 x2 x3 x4 s0 s1 S = some z) : G X V 8 (QI X V z.1 z.2) 158 [some (.ref (V.2.2.1 0 0)), none, some (.int x2), some (.int x3), some (.int x4), none, none, none] [.int s0, .int s1, .ref (V.2.2.1 0 (54 + 1))] S := by
  unfold f_Mo_termOf_b158 at h
  refine g_iast (pc := 158) hC (ar_Mo_54 hV) d_Mo_termOf_158 h (fun h => ?_)
  refine g_letS h (fun S158 h => ?_)
  refine s_iinc (pc := 159) hC (i := 4) (x := x4) (v := x4 + 1) rfl (by rw [kc_1]) (by decide) d_Mo_termOf_159 (lv2 := [some (.ref (V.2.2.1 0 0)), none, some (.int x2), some (.int x3), some (.int (x4 + 1)), none, none, none]) rfl ?_
  refine g_goto (pc := 162) hC (tgt := 5) (by decide) d_Mo_termOf_162 ?_
  exact hk5 x2 x3 (x4 + 1) S158 h
set_option maxRecDepth 20000 in
theorem w_Mo_termOf_b104 {X : CX} {V : WV} (hV : IsM V) {z : Int32 × Mem} (hC : Ck X V bc_Mo_termOf 8 "SecretWellsModel" (some .int) 0 0) (k5 : Int32 → Int32 → Int32 → Mem → Option (Int32 × Mem)) (hk5 : ∀ (x2 : Int32) (x3 : Int32) (x4 : Int32) (S : Mem), k5 x2 x3 x4 S = some z → G X V 8 (QI X V z.1 z.2) 5 [some (.ref (V.2.2.1 0 0)), none, some (.int x2), some (.int x3), some (.int x4), none, none, none] [] S) (x2 : Int32) (x3 : Int32) (x4 : Int32) (x5 : Int32) (x6 : Int32) (x7 : Int32) (S : Mem) (h : f_Mo_termOf_b104  k5 x2 x3 x4 x5 x6 x7 S = some z) : G X V 8 (QI X V z.1 z.2) 104 [some (.ref (V.2.2.1 0 0)), none, some (.int x2), some (.int x3), some (.int x4), some (.int x5), some (.int x6), some (.int x7)] [] S := by
  unfold f_Mo_termOf_b104 at h
  refine g_aload_n (pc := 104) hC (i := 0) (x := (V.2.2.1 0 0)) rfl rfl d_Mo_termOf_104 ?_
  refine g_getA (pc := 105) hC fo_Mo_131 (ob_Mo hV) rfl d_Mo_termOf_105 ?_
  refine g_iload_n (pc := 108) hC (i := 3) (x := x3) rfl rfl d_Mo_termOf_108 ?_
  refine g_iconst (pc := 109) hC kc_1 d_Mo_termOf_109 ?_
  refine g_isub (pc := 110) hC d_Mo_termOf_110 ?_
  refine g_iload (pc := 111) hC (i := 5) (x := x5) rfl d_Mo_termOf_111 ?_
  refine g_iconst (pc := 113) hC kc_2 d_Mo_termOf_113 ?_
  refine g_icmp_ne (pc := 114) hC (tgt := 125) (by decide) d_Mo_termOf_114 h (fun h => ?_) (fun h => ?_)
  · refine g_iload (pc := 125) hC (i := 5) (x := x5) rfl d_Mo_termOf_125 ?_
    refine g_iconst (pc := 127) hC kc_3 d_Mo_termOf_127 ?_
    refine g_icmp_ne (pc := 128) hC (tgt := 139) (by decide) d_Mo_termOf_128 h (fun h => ?_) (fun h => ?_)
    · refine g_iload (pc := 139) hC (i := 5) (x := x5) rfl d_Mo_termOf_139 ?_
      refine g_iconst (pc := 141) hC kc_4 d_Mo_termOf_141 ?_
      refine g_icmp_ne (pc := 142) hC (tgt := 153) (by decide) d_Mo_termOf_142 h (fun h => ?_) (fun h => ?_)
      · refine g_iload (pc := 153) hC (i := 6) (x := x6) rfl d_Mo_termOf_153 ?_
        refine g_iload (pc := 155) hC (i := 7) (x := x7) rfl d_Mo_termOf_155 ?_
        refine g_idiv (pc := 157) hC d_Mo_termOf_157 h (fun h => ?_)
        refine g_le (lv2 := [some (.ref (V.2.2.1 0 0)), none, some (.int x2), some (.int x3), some (.int x4), none, none, none]) (⟨rfl, ⟨rfl, ⟨rfl, ⟨rfl, trivial⟩⟩⟩⟩) ?_
        exact w_Mo_termOf_b158 hV hC k5 hk5 x2 x3 x4 (x6 / x7) (x3 - 1) S h
      · refine g_iload (pc := 145) hC (i := 6) (x := x6) rfl d_Mo_termOf_145 ?_
        refine g_iload (pc := 147) hC (i := 7) (x := x7) rfl d_Mo_termOf_147 ?_
        refine g_imul (pc := 149) hC d_Mo_termOf_149 ?_
        refine g_goto (pc := 150) hC (tgt := 158) (by decide) d_Mo_termOf_150 ?_
        refine g_le (lv2 := [some (.ref (V.2.2.1 0 0)), none, some (.int x2), some (.int x3), some (.int x4), none, none, none]) (⟨rfl, ⟨rfl, ⟨rfl, ⟨rfl, trivial⟩⟩⟩⟩) ?_
        exact w_Mo_termOf_b158 hV hC k5 hk5 x2 x3 x4 (x6 * x7) (x3 - 1) S h
    · refine g_iload (pc := 131) hC (i := 6) (x := x6) rfl d_Mo_termOf_131 ?_
      refine g_iload (pc := 133) hC (i := 7) (x := x7) rfl d_Mo_termOf_133 ?_
      refine g_isub (pc := 135) hC d_Mo_termOf_135 ?_
      refine g_goto (pc := 136) hC (tgt := 158) (by decide) d_Mo_termOf_136 ?_
      refine g_le (lv2 := [some (.ref (V.2.2.1 0 0)), none, some (.int x2), some (.int x3), some (.int x4), none, none, none]) (⟨rfl, ⟨rfl, ⟨rfl, ⟨rfl, trivial⟩⟩⟩⟩) ?_
      exact w_Mo_termOf_b158 hV hC k5 hk5 x2 x3 x4 (x6 - x7) (x3 - 1) S h
  · refine g_iload (pc := 117) hC (i := 6) (x := x6) rfl d_Mo_termOf_117 ?_
    refine g_iload (pc := 119) hC (i := 7) (x := x7) rfl d_Mo_termOf_119 ?_
    refine g_iadd (pc := 121) hC d_Mo_termOf_121 ?_
    refine g_goto (pc := 122) hC (tgt := 158) (by decide) d_Mo_termOf_122 ?_
    refine g_le (lv2 := [some (.ref (V.2.2.1 0 0)), none, some (.int x2), some (.int x3), some (.int x4), none, none, none]) (⟨rfl, ⟨rfl, ⟨rfl, ⟨rfl, trivial⟩⟩⟩⟩) ?_
    exact w_Mo_termOf_b158 hV hC k5 hk5 x2 x3 x4 (x6 + x7) (x3 - 1) S h
set_option maxRecDepth 20000 in
theorem w_Mo_termOf_b5 {X : CX} {V : WV} (hV : IsM V) {z : Int32 × Mem} (hC : Ck X V bc_Mo_termOf 8 "SecretWellsModel" (some .int) 0 0) (k5 : Int32 → Int32 → Int32 → Mem → Option (Int32 × Mem)) (hk5 : ∀ (x2 : Int32) (x3 : Int32) (x4 : Int32) (S : Mem), k5 x2 x3 x4 S = some z → G X V 8 (QI X V z.1 z.2) 5 [some (.ref (V.2.2.1 0 0)), none, some (.int x2), some (.int x3), some (.int x4), none, none, none] [] S) (x2 : Int32) (x3 : Int32) (x4 : Int32) (S : Mem) (h : f_Mo_termOf_b5  k5 x2 x3 x4 S = some z) : G X V 8 (QI X V z.1 z.2) 5 [some (.ref (V.2.2.1 0 0)), none, some (.int x2), some (.int x3), some (.int x4), none, none, none] [] S := by
  unfold f_Mo_termOf_b5 at h
  refine g_iload (pc := 5) hC (i := 4) (x := x4) rfl d_Mo_termOf_5 ?_
  refine g_iload_n (pc := 7) hC (i := 2) (x := x2) rfl rfl d_Mo_termOf_7 ?_
  refine g_icmp_ge (pc := 8) hC (tgt := 165) (by decide) d_Mo_termOf_8 h (fun h => ?_) (fun h => ?_)
  · refine g_aload_n (pc := 165) hC (i := 0) (x := (V.2.2.1 0 0)) rfl rfl d_Mo_termOf_165 ?_
    refine g_getA (pc := 166) hC fo_Mo_131 (ob_Mo hV) rfl d_Mo_termOf_166 ?_
    refine g_iconst (pc := 169) hC kc_0 d_Mo_termOf_169 ?_
    refine g_iald (pc := 170) hC (ar_Mo_54 hV) d_Mo_termOf_170 h (fun h => ?_)
    exact g_iW (pc := 171) hC rfl d_Mo_termOf_171 h
  · refine g_aload_n (pc := 11) hC (i := 0) (x := (V.2.2.1 0 0)) rfl rfl d_Mo_termOf_11 ?_
    refine g_getA (pc := 12) hC fo_Mo_119 (ob_Mo hV) rfl d_Mo_termOf_12 ?_
    refine g_iload (pc := 15) hC (i := 4) (x := x4) rfl d_Mo_termOf_15 ?_
    refine g_iald (pc := 17) hC (ar_Mo_49 hV) d_Mo_termOf_17 h (fun h => ?_)
    refine g_leti h (fun y18 h => ?_)
    refine s_istore (pc := 18) hC (i := 5) (by decide) d_Mo_termOf_18 (lv2 := [some (.ref (V.2.2.1 0 0)), none, some (.int x2), some (.int x3), some (.int x4), some (.int y18), none, none]) rfl ?_
    refine g_iload (pc := 20) hC (i := 5) (x := y18) rfl d_Mo_termOf_20 ?_
    refine g_iconst (pc := 22) hC kc_2 d_Mo_termOf_22 ?_
    refine g_icmp_ge (pc := 23) hC (tgt := 65) (by decide) d_Mo_termOf_23 h (fun h => ?_) (fun h => ?_)
    · refine s_iinc (pc := 65) hC (i := 3) (x := x3) (v := x3 + (-1)) rfl (by rw [kc_m1]) (by decide) d_Mo_termOf_65 (lv2 := [some (.ref (V.2.2.1 0 0)), none, some (.int x2), some (.int (x3 + (-1))), some (.int x4), some (.int y18), none, none]) rfl ?_
      refine g_aload_n (pc := 68) hC (i := 0) (x := (V.2.2.1 0 0)) rfl rfl d_Mo_termOf_68 ?_
      refine g_getA (pc := 69) hC fo_Mo_131 (ob_Mo hV) rfl d_Mo_termOf_69 ?_
      refine g_iload_n (pc := 72) hC (i := 3) (x := (x3 + (-1))) rfl rfl d_Mo_termOf_72 ?_
      refine g_iconst (pc := 73) hC kc_1 d_Mo_termOf_73 ?_
      refine g_isub (pc := 74) hC d_Mo_termOf_74 ?_
      refine g_iald (pc := 75) hC (ar_Mo_54 hV) d_Mo_termOf_75 h (fun h => ?_)
      refine g_leti h (fun y76 h => ?_)
      refine s_istore (pc := 76) hC (i := 6) (by decide) d_Mo_termOf_76 (lv2 := [some (.ref (V.2.2.1 0 0)), none, some (.int x2), some (.int (x3 + (-1))), some (.int x4), some (.int y18), some (.int y76), none]) rfl ?_
      refine g_aload_n (pc := 78) hC (i := 0) (x := (V.2.2.1 0 0)) rfl rfl d_Mo_termOf_78 ?_
      refine g_getA (pc := 79) hC fo_Mo_131 (ob_Mo hV) rfl d_Mo_termOf_79 ?_
      refine g_iload_n (pc := 82) hC (i := 3) (x := (x3 + (-1))) rfl rfl d_Mo_termOf_82 ?_
      refine g_iald (pc := 83) hC (ar_Mo_54 hV) d_Mo_termOf_83 h (fun h => ?_)
      refine g_leti h (fun y84 h => ?_)
      refine s_istore (pc := 84) hC (i := 7) (by decide) d_Mo_termOf_84 (lv2 := [some (.ref (V.2.2.1 0 0)), none, some (.int x2), some (.int (x3 + (-1))), some (.int x4), some (.int y18), some (.int y76), some (.int y84)]) rfl ?_
      refine g_iload (pc := 86) hC (i := 5) (x := y18) rfl d_Mo_termOf_86 ?_
      refine g_iconst (pc := 88) hC kc_5 d_Mo_termOf_88 ?_
      refine g_icmp_ne (pc := 89) hC (tgt := 104) (by decide) d_Mo_termOf_89 h (fun h => ?_) (fun h => ?_)
      · exact w_Mo_termOf_b104 hV hC k5 hk5 x2 (x3 + (-1)) x4 y18 y76 y84 S h
      · refine g_iload (pc := 92) hC (i := 7) (x := y84) rfl d_Mo_termOf_92 ?_
        refine g_if_ne (pc := 94) hC (tgt := 104) (by decide) d_Mo_termOf_94 h (fun h => ?_) (fun h => ?_)
        · exact w_Mo_termOf_b104 hV hC k5 hk5 x2 (x3 + (-1)) x4 y18 y76 y84 S h
        · refine g_aload_n (pc := 97) hC (i := 0) (x := (V.2.2.1 0 0)) rfl rfl d_Mo_termOf_97 ?_
          refine g_iconst (pc := 98) hC kc_1 d_Mo_termOf_98 ?_
          refine g_putI (pc := 99) hC po_Mo_328 (ob_Mo hV) rfl rfl rfl d_Mo_termOf_99 ?_
          refine g_letS h (fun S99 h => ?_)
          refine g_iconst (pc := 102) hC kc_0 d_Mo_termOf_102 ?_
          exact g_iW (pc := 103) hC rfl d_Mo_termOf_103 h
    · refine g_aload_n (pc := 26) hC (i := 0) (x := (V.2.2.1 0 0)) rfl rfl d_Mo_termOf_26 ?_
      refine g_getA (pc := 27) hC fo_Mo_131 (ob_Mo hV) rfl d_Mo_termOf_27 ?_
      refine g_iload_n (pc := 30) hC (i := 3) (x := x3) rfl rfl d_Mo_termOf_30 ?_
      refine g_iload (pc := 31) hC (i := 5) (x := y18) rfl d_Mo_termOf_31 ?_
      refine g_if_ne (pc := 33) hC (tgt := 46) (by decide) d_Mo_termOf_33 h (fun h => ?_) (fun h => ?_)
      · refine g_aload_n (pc := 46) hC (i := 0) (x := (V.2.2.1 0 0)) rfl rfl d_Mo_termOf_46 ?_
        refine g_getA (pc := 47) hC fo_Mo_128 (ob_Mo hV) rfl d_Mo_termOf_47 ?_
        refine g_aload_n (pc := 50) hC (i := 0) (x := (V.2.2.1 0 0)) rfl rfl d_Mo_termOf_50 ?_
        refine g_getA (pc := 51) hC fo_Mo_122 (ob_Mo hV) rfl d_Mo_termOf_51 ?_
        refine g_iload (pc := 54) hC (i := 4) (x := x4) rfl d_Mo_termOf_54 ?_
        refine g_iald (pc := 56) hC (ar_Mo_50 hV) d_Mo_termOf_56 h (fun h => ?_)
        refine g_iald (pc := 57) hC (ar_Mo_53 hV) d_Mo_termOf_57 h (fun h => ?_)
        refine g_le (lv2 := [some (.ref (V.2.2.1 0 0)), none, some (.int x2), some (.int x3), some (.int x4), none, none, none]) (⟨rfl, ⟨rfl, ⟨rfl, ⟨rfl, trivial⟩⟩⟩⟩) ?_
        exact w_Mo_termOf_b58 hV hC k5 hk5 x2 x3 x4 (S.2.1 0 53 (S.2.1 0 50 x4.toNatClampNeg).toNatClampNeg) x3 S h
      · refine g_aload_n (pc := 36) hC (i := 0) (x := (V.2.2.1 0 0)) rfl rfl d_Mo_termOf_36 ?_
        refine g_getA (pc := 37) hC fo_Mo_122 (ob_Mo hV) rfl d_Mo_termOf_37 ?_
        refine g_iload (pc := 40) hC (i := 4) (x := x4) rfl d_Mo_termOf_40 ?_
        refine g_iald (pc := 42) hC (ar_Mo_50 hV) d_Mo_termOf_42 h (fun h => ?_)
        refine g_goto (pc := 43) hC (tgt := 58) (by decide) d_Mo_termOf_43 ?_
        refine g_le (lv2 := [some (.ref (V.2.2.1 0 0)), none, some (.int x2), some (.int x3), some (.int x4), none, none, none]) (⟨rfl, ⟨rfl, ⟨rfl, ⟨rfl, trivial⟩⟩⟩⟩) ?_
        exact w_Mo_termOf_b58 hV hC k5 hk5 x2 x3 x4 (S.2.1 0 50 x4.toNatClampNeg) x3 S h
theorem w_Mo_termOf_l5 {X : CX} {V : WV} (hV : IsM V) {z : Int32 × Mem} (hC : Ck X V bc_Mo_termOf 8 "SecretWellsModel" (some .int) 0 0) : ∀ (n : Nat) (x2 : Int32) (x3 : Int32) (x4 : Int32) (S : Mem), f_Mo_termOf_l5  n x2 x3 x4 S = some z → G X V 8 (QI X V z.1 z.2) 5 [some (.ref (V.2.2.1 0 0)), none, some (.int x2), some (.int x3), some (.int x4), none, none, none] [] S := by
  intro n
  induction n with
  | zero =>
    intro x2 x3 x4 S h
    have h : (none : Option (Int32 × Mem)) = some z := h
    cases h
  | succ n ih =>
    intro x2 x3 x4 S h
    exact w_Mo_termOf_b5 hV hC (f_Mo_termOf_l5  n) ih x2 x3 x4 S h
set_option maxRecDepth 20000 in
theorem w_Mo_termOf_b0 {X : CX} {V : WV} (hV : IsM V) {z : Int32 × Mem} (hC : Ck X V bc_Mo_termOf 8 "SecretWellsModel" (some .int) 0 0) (x1 : Int32) (x2 : Int32) (S : Mem) (h : f_Mo_termOf_b0  x1 x2 S = some z) : G X V 8 (QI X V z.1 z.2) 0 [some (.ref (V.2.2.1 0 0)), some (.int x1), some (.int x2), none, none, none, none, none] [] S := by
  unfold f_Mo_termOf_b0 at h
  refine g_iconst (pc := 0) hC kc_0 d_Mo_termOf_0 ?_
  refine s_istore_n (pc := 1) hC (i := 3) rfl (by decide) d_Mo_termOf_1 (lv2 := [some (.ref (V.2.2.1 0 0)), some (.int x1), some (.int x2), some (.int 0), none, none, none, none]) rfl ?_
  refine g_iload_n (pc := 2) hC (i := 1) (x := x1) rfl rfl d_Mo_termOf_2 ?_
  refine s_istore (pc := 3) hC (i := 4) (by decide) d_Mo_termOf_3 (lv2 := [some (.ref (V.2.2.1 0 0)), some (.int x1), some (.int x2), some (.int 0), some (.int x1), none, none, none]) rfl ?_
  refine g_le (lv2 := [some (.ref (V.2.2.1 0 0)), none, some (.int x2), some (.int 0), some (.int x1), none, none, none]) (⟨rfl, ⟨rfl, ⟨rfl, ⟨rfl, trivial⟩⟩⟩⟩) ?_
  exact w_Mo_termOf_l5 hV hC 5000 x2 0 x1 S h
theorem c_Mo_termOf {V : WV} {l : Launch} (hV : IsM V) {x1 : Int32} {x2 : Int32} {S : Mem} {z : Int32 × Mem} (h : f_Mo_termOf x1 x2 S = some z) : CI V l y_Mo_termOf bc_Mo_termOf 8 (some .int) 0 0 [.ref (V.2.2.1 0 0), .int x1, .int x2] S z.1 z.2 :=
  ct_i rfl (IsM.ok hV) (Nat.le_of_ble_eq_true rfl) (fun _ _ hC => w_Mo_termOf_b0 hV hC x1 x2 S h)
def f_Mo_in_b0 (x0 : Int32) (x1 : Int32) (x2 : Int32) : Option (Int32) :=
  if x0 < x1 then
    some 0
  else
    if x2 < x0 then
      some 0
    else
      some 1
def f_Mo_in (x0 : Int32) (x1 : Int32) (x2 : Int32) : Option (Int32) := f_Mo_in_b0  x0 x1 x2
theorem d_Mo_in_0 : decode bc_Mo_in 0 = .ok (.iload_n 0, 1) := by decide +kernel
theorem d_Mo_in_1 : decode bc_Mo_in 1 = .ok (.iload_n 1, 1) := by decide +kernel
theorem d_Mo_in_2 : decode bc_Mo_in 2 = .ok (.if_icmp .lt 12, 3) := by decide +kernel
theorem d_Mo_in_5 : decode bc_Mo_in 5 = .ok (.iload_n 0, 1) := by decide +kernel
theorem d_Mo_in_6 : decode bc_Mo_in 6 = .ok (.iload_n 2, 1) := by decide +kernel
theorem d_Mo_in_7 : decode bc_Mo_in 7 = .ok (.if_icmp .gt 7, 3) := by decide +kernel
theorem d_Mo_in_10 : decode bc_Mo_in 10 = .ok (.iconst 1, 1) := by decide +kernel
theorem d_Mo_in_11 : decode bc_Mo_in 11 = .ok (.goto 4, 3) := by decide +kernel
theorem d_Mo_in_14 : decode bc_Mo_in 14 = .ok (.iconst 0, 1) := by decide +kernel
theorem d_Mo_in_15 : decode bc_Mo_in 15 = .ok (.ireturn, 1) := by decide +kernel
set_option maxRecDepth 20000 in
theorem w_Mo_in_b0 {X : CX} {V : WV} (hVO : VOk V) {S : Mem} {z : Int32} (hC : Ck X V bc_Mo_in 3 "SecretWellsModel" (some .boolean) 0 0) (x0 : Int32) (x1 : Int32) (x2 : Int32) (h : f_Mo_in_b0  x0 x1 x2 = some z) : G X V 3 (QI X V z S) 0 [some (.int x0), some (.int x1), some (.int x2)] [] S := by
  unfold f_Mo_in_b0 at h
  refine g_iload_n (pc := 0) hC (i := 0) (x := x0) rfl rfl d_Mo_in_0 ?_
  refine g_iload_n (pc := 1) hC (i := 1) (x := x1) rfl rfl d_Mo_in_1 ?_
  refine g_icmp_lt (pc := 2) hC (tgt := 14) (by decide) d_Mo_in_2 h (fun h => ?_) (fun h => ?_)
  · refine g_iconst (pc := 14) hC kc_0 d_Mo_in_14 ?_
    exact g_iN (pc := 15) hC rfl d_Mo_in_15 h
  · refine g_iload_n (pc := 5) hC (i := 0) (x := x0) rfl rfl d_Mo_in_5 ?_
    refine g_iload_n (pc := 6) hC (i := 2) (x := x2) rfl rfl d_Mo_in_6 ?_
    refine g_icmp_gt (pc := 7) hC (tgt := 14) (by decide) d_Mo_in_7 h (fun h => ?_) (fun h => ?_)
    · refine g_iconst (pc := 14) hC kc_0 d_Mo_in_14 ?_
      exact g_iN (pc := 15) hC rfl d_Mo_in_15 h
    · refine g_iconst (pc := 10) hC kc_1 d_Mo_in_10 ?_
      refine g_goto (pc := 11) hC (tgt := 15) (by decide) d_Mo_in_11 ?_
      exact g_iN (pc := 15) hC rfl d_Mo_in_15 h
theorem c_Mo_in {V : WV} {l : Launch} (hVO : VOk V) {x0 : Int32} {x1 : Int32} {x2 : Int32} {S : Mem} {z : Int32} (h : f_Mo_in x0 x1 x2 = some z) : CI V l y_Mo_in bc_Mo_in 3 (some .boolean) 0 0 [.int x0, .int x1, .int x2] S z S :=
  ct_i rfl hVO (Nat.le_of_ble_eq_true rfl) (fun _ _ hC => w_Mo_in_b0 hVO hC x0 x1 x2 h)
def f_Mo_isWell_b0 (S : Mem) (x1 : Int32) : Option (Int32) :=
  gIn (S.1 0 18) 2 (
  Option.bind (f_Mo_in x1 0 ((S.2.1 0 24 (S.1 0 18).toNatClampNeg) - 1)) (fun q13 =>
  gZ q13 (some q13)))
def f_Mo_isWell (x1 : Int32) (S : Mem) : Option (Int32) := f_Mo_isWell_b0 S x1
theorem d_Mo_isWell_0 : decode bc_Mo_isWell 0 = .ok (.iload_n 1, 1) := by decide +kernel
theorem d_Mo_isWell_1 : decode bc_Mo_isWell 1 = .ok (.iconst 0, 1) := by decide +kernel
theorem d_Mo_isWell_2 : decode bc_Mo_isWell 2 = .ok (.aload_n 0, 1) := by decide +kernel
theorem d_Mo_isWell_3 : decode bc_Mo_isWell 3 = .ok (.getfield 49, 3) := by decide +kernel
theorem d_Mo_isWell_6 : decode bc_Mo_isWell 6 = .ok (.aload_n 0, 1) := by decide +kernel
theorem d_Mo_isWell_7 : decode bc_Mo_isWell 7 = .ok (.getfield 245, 3) := by decide +kernel
theorem d_Mo_isWell_10 : decode bc_Mo_isWell 10 = .ok (.iaload, 1) := by decide +kernel
theorem d_Mo_isWell_11 : decode bc_Mo_isWell 11 = .ok (.iconst 1, 1) := by decide +kernel
theorem d_Mo_isWell_12 : decode bc_Mo_isWell 12 = .ok (.isub, 1) := by decide +kernel
theorem d_Mo_isWell_13 : decode bc_Mo_isWell 13 = .ok (.invokestatic 332, 3) := by decide +kernel
theorem d_Mo_isWell_16 : decode bc_Mo_isWell 16 = .ok (.ireturn, 1) := by decide +kernel
set_option maxRecDepth 20000 in
theorem w_Mo_isWell_b0 {X : CX} {V : WV} (hV : IsM V) {S : Mem} {z : Int32} (hC : Ck X V bc_Mo_isWell 2 "SecretWellsModel" (some .boolean) 1 22) (x1 : Int32) (h : f_Mo_isWell_b0 S x1 = some z) : G X V 2 (QI X V z S) 0 [some (.ref (V.2.2.1 0 0)), some (.int x1)] [] S := by
  unfold f_Mo_isWell_b0 at h
  refine g_iload_n (pc := 0) hC (i := 1) (x := x1) rfl rfl d_Mo_isWell_0 ?_
  refine g_iconst (pc := 1) hC kc_0 d_Mo_isWell_1 ?_
  refine g_aload_n (pc := 2) hC (i := 0) (x := (V.2.2.1 0 0)) rfl rfl d_Mo_isWell_2 ?_
  refine g_getA (pc := 3) hC fo_Mo_49 (ob_Mo hV) rfl d_Mo_isWell_3 ?_
  refine g_aload_n (pc := 6) hC (i := 0) (x := (V.2.2.1 0 0)) rfl rfl d_Mo_isWell_6 ?_
  refine g_getI (pc := 7) hC fo_Mo_245 (ob_Mo hV) rfl d_Mo_isWell_7 ?_
  refine g_iald (pc := 10) hC (ar_Mo_24 hV) d_Mo_isWell_10 h (fun h => ?_)
  refine g_iconst (pc := 11) hC kc_1 d_Mo_isWell_11 ?_
  refine g_isub (pc := 12) hC d_Mo_isWell_12 ?_
  obtain ⟨q13, hq13, h⟩ := Option.bind_eq_some_iff.mp h
  refine g_si (pc := 13) hC (As := [.int x1, .int 0, .int ((S.2.1 0 24 (S.1 0 18).toNatClampNeg) - 1)]) (st := []) mt_Mo_in lk_Mo_332 (Nat.le_of_ble_eq_true rfl) ⟨Nat.le_of_ble_eq_true rfl, Nat.le_of_ble_eq_true rfl⟩ rfl d_Mo_isWell_13 (c_Mo_in (IsM.ok hV) hq13) ?_
  exact g_zN (pc := 16) hC d_Mo_isWell_16 h
theorem c_Mo_isWell {V : WV} {l : Launch} (hV : IsM V) {x1 : Int32} {S : Mem} {z : Int32} (h : f_Mo_isWell x1 S = some z) : CI V l y_Mo_isWell bc_Mo_isWell 2 (some .boolean) 1 22 [.ref (V.2.2.1 0 0), .int x1] S z S :=
  ct_i rfl (IsM.ok hV) (Nat.le_of_ble_eq_true rfl) (fun _ _ hC => w_Mo_isWell_b0 hV hC x1 h)
def f_Mo_isMan_b0 (S : Mem) (x1 : Int32) : Option (Int32) :=
  gIn (S.1 0 18) 2 (
  Option.bind (f_Mo_in x1 0 ((S.2.1 0 27 (S.1 0 18).toNatClampNeg) - 1)) (fun q13 =>
  gZ q13 (some q13)))
def f_Mo_isMan (x1 : Int32) (S : Mem) : Option (Int32) := f_Mo_isMan_b0 S x1
theorem d_Mo_isMan_0 : decode bc_Mo_isMan 0 = .ok (.iload_n 1, 1) := by decide +kernel
theorem d_Mo_isMan_1 : decode bc_Mo_isMan 1 = .ok (.iconst 0, 1) := by decide +kernel
theorem d_Mo_isMan_2 : decode bc_Mo_isMan 2 = .ok (.aload_n 0, 1) := by decide +kernel
theorem d_Mo_isMan_3 : decode bc_Mo_isMan 3 = .ok (.getfield 58, 3) := by decide +kernel
theorem d_Mo_isMan_6 : decode bc_Mo_isMan 6 = .ok (.aload_n 0, 1) := by decide +kernel
theorem d_Mo_isMan_7 : decode bc_Mo_isMan 7 = .ok (.getfield 245, 3) := by decide +kernel
theorem d_Mo_isMan_10 : decode bc_Mo_isMan 10 = .ok (.iaload, 1) := by decide +kernel
theorem d_Mo_isMan_11 : decode bc_Mo_isMan 11 = .ok (.iconst 1, 1) := by decide +kernel
theorem d_Mo_isMan_12 : decode bc_Mo_isMan 12 = .ok (.isub, 1) := by decide +kernel
theorem d_Mo_isMan_13 : decode bc_Mo_isMan 13 = .ok (.invokestatic 332, 3) := by decide +kernel
theorem d_Mo_isMan_16 : decode bc_Mo_isMan 16 = .ok (.ireturn, 1) := by decide +kernel
set_option maxRecDepth 20000 in
theorem w_Mo_isMan_b0 {X : CX} {V : WV} (hV : IsM V) {S : Mem} {z : Int32} (hC : Ck X V bc_Mo_isMan 2 "SecretWellsModel" (some .boolean) 1 22) (x1 : Int32) (h : f_Mo_isMan_b0 S x1 = some z) : G X V 2 (QI X V z S) 0 [some (.ref (V.2.2.1 0 0)), some (.int x1)] [] S := by
  unfold f_Mo_isMan_b0 at h
  refine g_iload_n (pc := 0) hC (i := 1) (x := x1) rfl rfl d_Mo_isMan_0 ?_
  refine g_iconst (pc := 1) hC kc_0 d_Mo_isMan_1 ?_
  refine g_aload_n (pc := 2) hC (i := 0) (x := (V.2.2.1 0 0)) rfl rfl d_Mo_isMan_2 ?_
  refine g_getA (pc := 3) hC fo_Mo_58 (ob_Mo hV) rfl d_Mo_isMan_3 ?_
  refine g_aload_n (pc := 6) hC (i := 0) (x := (V.2.2.1 0 0)) rfl rfl d_Mo_isMan_6 ?_
  refine g_getI (pc := 7) hC fo_Mo_245 (ob_Mo hV) rfl d_Mo_isMan_7 ?_
  refine g_iald (pc := 10) hC (ar_Mo_27 hV) d_Mo_isMan_10 h (fun h => ?_)
  refine g_iconst (pc := 11) hC kc_1 d_Mo_isMan_11 ?_
  refine g_isub (pc := 12) hC d_Mo_isMan_12 ?_
  obtain ⟨q13, hq13, h⟩ := Option.bind_eq_some_iff.mp h
  refine g_si (pc := 13) hC (As := [.int x1, .int 0, .int ((S.2.1 0 27 (S.1 0 18).toNatClampNeg) - 1)]) (st := []) mt_Mo_in lk_Mo_332 (Nat.le_of_ble_eq_true rfl) ⟨Nat.le_of_ble_eq_true rfl, Nat.le_of_ble_eq_true rfl⟩ rfl d_Mo_isMan_13 (c_Mo_in (IsM.ok hV) hq13) ?_
  exact g_zN (pc := 16) hC d_Mo_isMan_16 h
theorem c_Mo_isMan {V : WV} {l : Launch} (hV : IsM V) {x1 : Int32} {S : Mem} {z : Int32} (h : f_Mo_isMan x1 S = some z) : CI V l y_Mo_isMan bc_Mo_isMan 2 (some .boolean) 1 22 [.ref (V.2.2.1 0 0), .int x1] S z S :=
  ct_i rfl (IsM.ok hV) (Nat.le_of_ble_eq_true rfl) (fun _ _ hC => w_Mo_isMan_b0 hV hC x1 h)
def f_Mo_isSecret_b0 (S : Mem) (x1 : Int32) : Option (Int32) :=
  gIn (S.1 0 18) 2 (
  Option.bind (f_Mo_in x1 0 ((S.2.1 0 30 (S.1 0 18).toNatClampNeg) - 1)) (fun q13 =>
  gZ q13 (some q13)))
def f_Mo_isSecret (x1 : Int32) (S : Mem) : Option (Int32) := f_Mo_isSecret_b0 S x1
theorem d_Mo_isSecret_0 : decode bc_Mo_isSecret 0 = .ok (.iload_n 1, 1) := by decide +kernel
theorem d_Mo_isSecret_1 : decode bc_Mo_isSecret 1 = .ok (.iconst 0, 1) := by decide +kernel
theorem d_Mo_isSecret_2 : decode bc_Mo_isSecret 2 = .ok (.aload_n 0, 1) := by decide +kernel
theorem d_Mo_isSecret_3 : decode bc_Mo_isSecret 3 = .ok (.getfield 67, 3) := by decide +kernel
theorem d_Mo_isSecret_6 : decode bc_Mo_isSecret 6 = .ok (.aload_n 0, 1) := by decide +kernel
theorem d_Mo_isSecret_7 : decode bc_Mo_isSecret 7 = .ok (.getfield 245, 3) := by decide +kernel
theorem d_Mo_isSecret_10 : decode bc_Mo_isSecret 10 = .ok (.iaload, 1) := by decide +kernel
theorem d_Mo_isSecret_11 : decode bc_Mo_isSecret 11 = .ok (.iconst 1, 1) := by decide +kernel
theorem d_Mo_isSecret_12 : decode bc_Mo_isSecret 12 = .ok (.isub, 1) := by decide +kernel
theorem d_Mo_isSecret_13 : decode bc_Mo_isSecret 13 = .ok (.invokestatic 332, 3) := by decide +kernel
theorem d_Mo_isSecret_16 : decode bc_Mo_isSecret 16 = .ok (.ireturn, 1) := by decide +kernel
set_option maxRecDepth 20000 in
theorem w_Mo_isSecret_b0 {X : CX} {V : WV} (hV : IsM V) {S : Mem} {z : Int32} (hC : Ck X V bc_Mo_isSecret 2 "SecretWellsModel" (some .boolean) 1 22) (x1 : Int32) (h : f_Mo_isSecret_b0 S x1 = some z) : G X V 2 (QI X V z S) 0 [some (.ref (V.2.2.1 0 0)), some (.int x1)] [] S := by
  unfold f_Mo_isSecret_b0 at h
  refine g_iload_n (pc := 0) hC (i := 1) (x := x1) rfl rfl d_Mo_isSecret_0 ?_
  refine g_iconst (pc := 1) hC kc_0 d_Mo_isSecret_1 ?_
  refine g_aload_n (pc := 2) hC (i := 0) (x := (V.2.2.1 0 0)) rfl rfl d_Mo_isSecret_2 ?_
  refine g_getA (pc := 3) hC fo_Mo_67 (ob_Mo hV) rfl d_Mo_isSecret_3 ?_
  refine g_aload_n (pc := 6) hC (i := 0) (x := (V.2.2.1 0 0)) rfl rfl d_Mo_isSecret_6 ?_
  refine g_getI (pc := 7) hC fo_Mo_245 (ob_Mo hV) rfl d_Mo_isSecret_7 ?_
  refine g_iald (pc := 10) hC (ar_Mo_30 hV) d_Mo_isSecret_10 h (fun h => ?_)
  refine g_iconst (pc := 11) hC kc_1 d_Mo_isSecret_11 ?_
  refine g_isub (pc := 12) hC d_Mo_isSecret_12 ?_
  obtain ⟨q13, hq13, h⟩ := Option.bind_eq_some_iff.mp h
  refine g_si (pc := 13) hC (As := [.int x1, .int 0, .int ((S.2.1 0 30 (S.1 0 18).toNatClampNeg) - 1)]) (st := []) mt_Mo_in lk_Mo_332 (Nat.le_of_ble_eq_true rfl) ⟨Nat.le_of_ble_eq_true rfl, Nat.le_of_ble_eq_true rfl⟩ rfl d_Mo_isSecret_13 (c_Mo_in (IsM.ok hV) hq13) ?_
  exact g_zN (pc := 16) hC d_Mo_isSecret_16 h
theorem c_Mo_isSecret {V : WV} {l : Launch} (hV : IsM V) {x1 : Int32} {S : Mem} {z : Int32} (h : f_Mo_isSecret x1 S = some z) : CI V l y_Mo_isSecret bc_Mo_isSecret 2 (some .boolean) 1 22 [.ref (V.2.2.1 0 0), .int x1] S z S :=
  ct_i rfl (IsM.ok hV) (Nat.le_of_ble_eq_true rfl) (fun _ _ hC => w_Mo_isSecret_b0 hV hC x1 h)
def f_Mo_copies_b2 (k2 : Int32 → Mem → Option (Mem)) (x1 : Int32) (S : Mem) : Option (Mem) :=
  if 40 ≤ x1 then
    gIn (S.1 0 18) 2 (
    letS (pI S 0 58 (S.2.1 0 39 (S.1 0 18).toNatClampNeg)) (fun S36 =>
    some S36))
  else
    gIn x1 40 (
    gIn x1 40 (letS (sA S 0 57 x1 (S.2.1 0 56 x1.toNatClampNeg)) (fun S19 =>
    k2 (x1 + 1) S19)))
def f_Mo_copies_l2 : Nat → Int32 → Mem → Option (Mem)
  | 0 => fun _ _ => none
  | n + 1 => f_Mo_copies_b2  (f_Mo_copies_l2  n)
def f_Mo_copies_b0 (S : Mem) : Option (Mem) :=
  f_Mo_copies_l2 5000 0 S
def f_Mo_copies (S : Mem) : Option (Mem) := f_Mo_copies_b0  S
theorem d_Mo_copies_0 : decode bc_Mo_copies 0 = .ok (.iconst 0, 1) := by decide +kernel
theorem d_Mo_copies_1 : decode bc_Mo_copies 1 = .ok (.istore_n 1, 1) := by decide +kernel
theorem d_Mo_copies_2 : decode bc_Mo_copies 2 = .ok (.iload_n 1, 1) := by decide +kernel
theorem d_Mo_copies_3 : decode bc_Mo_copies 3 = .ok (.bipush 40, 2) := by decide +kernel
theorem d_Mo_copies_5 : decode bc_Mo_copies 5 = .ok (.if_icmp .ge 21, 3) := by decide +kernel
theorem d_Mo_copies_8 : decode bc_Mo_copies 8 = .ok (.aload_n 0, 1) := by decide +kernel
theorem d_Mo_copies_9 : decode bc_Mo_copies 9 = .ok (.getfield 137, 3) := by decide +kernel
theorem d_Mo_copies_12 : decode bc_Mo_copies 12 = .ok (.iload_n 1, 1) := by decide +kernel
theorem d_Mo_copies_13 : decode bc_Mo_copies 13 = .ok (.aload_n 0, 1) := by decide +kernel
theorem d_Mo_copies_14 : decode bc_Mo_copies 14 = .ok (.getfield 134, 3) := by decide +kernel
theorem d_Mo_copies_17 : decode bc_Mo_copies 17 = .ok (.iload_n 1, 1) := by decide +kernel
theorem d_Mo_copies_18 : decode bc_Mo_copies 18 = .ok (.iaload, 1) := by decide +kernel
theorem d_Mo_copies_19 : decode bc_Mo_copies 19 = .ok (.iastore, 1) := by decide +kernel
theorem d_Mo_copies_20 : decode bc_Mo_copies 20 = .ok (.iinc 1 1, 3) := by decide +kernel
theorem d_Mo_copies_23 : decode bc_Mo_copies 23 = .ok (.goto (-21), 3) := by decide +kernel
theorem d_Mo_copies_26 : decode bc_Mo_copies 26 = .ok (.aload_n 0, 1) := by decide +kernel
theorem d_Mo_copies_27 : decode bc_Mo_copies 27 = .ok (.aload_n 0, 1) := by decide +kernel
theorem d_Mo_copies_28 : decode bc_Mo_copies 28 = .ok (.getfield 95, 3) := by decide +kernel
theorem d_Mo_copies_31 : decode bc_Mo_copies 31 = .ok (.aload_n 0, 1) := by decide +kernel
theorem d_Mo_copies_32 : decode bc_Mo_copies 32 = .ok (.getfield 245, 3) := by decide +kernel
theorem d_Mo_copies_35 : decode bc_Mo_copies 35 = .ok (.iaload, 1) := by decide +kernel
theorem d_Mo_copies_36 : decode bc_Mo_copies 36 = .ok (.putfield 336, 3) := by decide +kernel
theorem d_Mo_copies_39 : decode bc_Mo_copies 39 = .ok (.return_, 1) := by decide +kernel
set_option maxRecDepth 20000 in
theorem w_Mo_copies_b2 {X : CX} {V : WV} (hV : IsM V) {z : Mem} (hC : Ck X V bc_Mo_copies 2 "SecretWellsModel" none 0 0) (k2 : Int32 → Mem → Option (Mem)) (hk2 : ∀ (x1 : Int32) (S : Mem), k2 x1 S = some z → G X V 2 (QV X V z) 2 [some (.ref (V.2.2.1 0 0)), some (.int x1)] [] S) (x1 : Int32) (S : Mem) (h : f_Mo_copies_b2  k2 x1 S = some z) : G X V 2 (QV X V z) 2 [some (.ref (V.2.2.1 0 0)), some (.int x1)] [] S := by
  unfold f_Mo_copies_b2 at h
  refine g_iload_n (pc := 2) hC (i := 1) (x := x1) rfl rfl d_Mo_copies_2 ?_
  refine g_bipush (pc := 3) hC kb_40 d_Mo_copies_3 ?_
  refine g_icmp_ge (pc := 5) hC (tgt := 26) (by decide) d_Mo_copies_5 h (fun h => ?_) (fun h => ?_)
  · refine g_aload_n (pc := 26) hC (i := 0) (x := (V.2.2.1 0 0)) rfl rfl d_Mo_copies_26 ?_
    refine g_aload_n (pc := 27) hC (i := 0) (x := (V.2.2.1 0 0)) rfl rfl d_Mo_copies_27 ?_
    refine g_getA (pc := 28) hC fo_Mo_95 (ob_Mo hV) rfl d_Mo_copies_28 ?_
    refine g_aload_n (pc := 31) hC (i := 0) (x := (V.2.2.1 0 0)) rfl rfl d_Mo_copies_31 ?_
    refine g_getI (pc := 32) hC fo_Mo_245 (ob_Mo hV) rfl d_Mo_copies_32 ?_
    refine g_iald (pc := 35) hC (ar_Mo_39 hV) d_Mo_copies_35 h (fun h => ?_)
    refine g_putI (pc := 36) hC po_Mo_336 (ob_Mo hV) rfl rfl rfl d_Mo_copies_36 ?_
    refine g_letS h (fun S36 h => ?_)
    exact g_vW (pc := 39) hC d_Mo_copies_39 h
  · refine g_aload_n (pc := 8) hC (i := 0) (x := (V.2.2.1 0 0)) rfl rfl d_Mo_copies_8 ?_
    refine g_getA (pc := 9) hC fo_Mo_137 (ob_Mo hV) rfl d_Mo_copies_9 ?_
    refine g_iload_n (pc := 12) hC (i := 1) (x := x1) rfl rfl d_Mo_copies_12 ?_
    refine g_aload_n (pc := 13) hC (i := 0) (x := (V.2.2.1 0 0)) rfl rfl d_Mo_copies_13 ?_
    refine g_getA (pc := 14) hC fo_Mo_134 (ob_Mo hV) rfl d_Mo_copies_14 ?_
    refine g_iload_n (pc := 17) hC (i := 1) (x := x1) rfl rfl d_Mo_copies_17 ?_
    refine g_iald (pc := 18) hC (ar_Mo_56 hV) d_Mo_copies_18 h (fun h => ?_)
    refine g_iast (pc := 19) hC (ar_Mo_57 hV) d_Mo_copies_19 h (fun h => ?_)
    refine g_letS h (fun S19 h => ?_)
    refine s_iinc (pc := 20) hC (i := 1) (x := x1) (v := x1 + 1) rfl (by rw [kc_1]) (by decide) d_Mo_copies_20 (lv2 := [some (.ref (V.2.2.1 0 0)), some (.int (x1 + 1))]) rfl ?_
    refine g_goto (pc := 23) hC (tgt := 2) (by decide) d_Mo_copies_23 ?_
    exact hk2 (x1 + 1) S19 h
theorem w_Mo_copies_l2 {X : CX} {V : WV} (hV : IsM V) {z : Mem} (hC : Ck X V bc_Mo_copies 2 "SecretWellsModel" none 0 0) : ∀ (n : Nat) (x1 : Int32) (S : Mem), f_Mo_copies_l2  n x1 S = some z → G X V 2 (QV X V z) 2 [some (.ref (V.2.2.1 0 0)), some (.int x1)] [] S := by
  intro n
  induction n with
  | zero =>
    intro x1 S h
    have h : (none : Option (Mem)) = some z := h
    cases h
  | succ n ih =>
    intro x1 S h
    exact w_Mo_copies_b2 hV hC (f_Mo_copies_l2  n) ih x1 S h
set_option maxRecDepth 20000 in
theorem w_Mo_copies_b0 {X : CX} {V : WV} (hV : IsM V) {z : Mem} (hC : Ck X V bc_Mo_copies 2 "SecretWellsModel" none 0 0) (S : Mem) (h : f_Mo_copies_b0  S = some z) : G X V 2 (QV X V z) 0 [some (.ref (V.2.2.1 0 0)), none] [] S := by
  unfold f_Mo_copies_b0 at h
  refine g_iconst (pc := 0) hC kc_0 d_Mo_copies_0 ?_
  refine s_istore_n (pc := 1) hC (i := 1) rfl (by decide) d_Mo_copies_1 (lv2 := [some (.ref (V.2.2.1 0 0)), some (.int 0)]) rfl ?_
  exact w_Mo_copies_l2 hV hC 5000 0 S h
theorem c_Mo_copies {V : WV} {l : Launch} (hV : IsM V) {S : Mem} {z : Mem} (h : f_Mo_copies S = some z) : CV V l y_Mo_copies bc_Mo_copies 2 none 0 0 [.ref (V.2.2.1 0 0)] S z :=
  ct_v rfl (IsM.ok hV) (Nat.le_of_ble_eq_true rfl) (fun _ _ hC => w_Mo_copies_b0 hV hC S h)
def f_Mo_isAlive_b0 (S : Mem) (x1 : Int32) : Option (Int32) :=
  gIn 33 40 (
  if (((S.2.1 0 57 (33 : Int32).toNatClampNeg) >>> (x1 &&& 31)) &&& 1) = 1 then
    some 1
  else
    some 0)
def f_Mo_isAlive (x1 : Int32) (S : Mem) : Option (Int32) := f_Mo_isAlive_b0 S x1
theorem d_Mo_isAlive_0 : decode bc_Mo_isAlive 0 = .ok (.aload_n 0, 1) := by decide +kernel
theorem d_Mo_isAlive_1 : decode bc_Mo_isAlive 1 = .ok (.getfield 137, 3) := by decide +kernel
theorem d_Mo_isAlive_4 : decode bc_Mo_isAlive 4 = .ok (.bipush 33, 2) := by decide +kernel
theorem d_Mo_isAlive_6 : decode bc_Mo_isAlive 6 = .ok (.iaload, 1) := by decide +kernel
theorem d_Mo_isAlive_7 : decode bc_Mo_isAlive 7 = .ok (.iload_n 1, 1) := by decide +kernel
theorem d_Mo_isAlive_8 : decode bc_Mo_isAlive 8 = .ok (.ishr, 1) := by decide +kernel
theorem d_Mo_isAlive_9 : decode bc_Mo_isAlive 9 = .ok (.iconst 1, 1) := by decide +kernel
theorem d_Mo_isAlive_10 : decode bc_Mo_isAlive 10 = .ok (.iand, 1) := by decide +kernel
theorem d_Mo_isAlive_11 : decode bc_Mo_isAlive 11 = .ok (.iconst 1, 1) := by decide +kernel
theorem d_Mo_isAlive_12 : decode bc_Mo_isAlive 12 = .ok (.if_icmp .ne 7, 3) := by decide +kernel
theorem d_Mo_isAlive_15 : decode bc_Mo_isAlive 15 = .ok (.iconst 1, 1) := by decide +kernel
theorem d_Mo_isAlive_16 : decode bc_Mo_isAlive 16 = .ok (.goto 4, 3) := by decide +kernel
theorem d_Mo_isAlive_19 : decode bc_Mo_isAlive 19 = .ok (.iconst 0, 1) := by decide +kernel
theorem d_Mo_isAlive_20 : decode bc_Mo_isAlive 20 = .ok (.ireturn, 1) := by decide +kernel
set_option maxRecDepth 20000 in
theorem w_Mo_isAlive_b0 {X : CX} {V : WV} (hV : IsM V) {S : Mem} {z : Int32} (hC : Ck X V bc_Mo_isAlive 2 "SecretWellsModel" (some .boolean) 0 0) (x1 : Int32) (h : f_Mo_isAlive_b0 S x1 = some z) : G X V 2 (QI X V z S) 0 [some (.ref (V.2.2.1 0 0)), some (.int x1)] [] S := by
  unfold f_Mo_isAlive_b0 at h
  refine g_aload_n (pc := 0) hC (i := 0) (x := (V.2.2.1 0 0)) rfl rfl d_Mo_isAlive_0 ?_
  refine g_getA (pc := 1) hC fo_Mo_137 (ob_Mo hV) rfl d_Mo_isAlive_1 ?_
  refine g_bipush (pc := 4) hC kb_33 d_Mo_isAlive_4 ?_
  refine g_iald (pc := 6) hC (ar_Mo_57 hV) d_Mo_isAlive_6 h (fun h => ?_)
  refine g_iload_n (pc := 7) hC (i := 1) (x := x1) rfl rfl d_Mo_isAlive_7 ?_
  refine g_ishr (pc := 8) hC d_Mo_isAlive_8 ?_
  refine g_iconst (pc := 9) hC kc_1 d_Mo_isAlive_9 ?_
  refine g_iand (pc := 10) hC d_Mo_isAlive_10 ?_
  refine g_iconst (pc := 11) hC kc_1 d_Mo_isAlive_11 ?_
  refine g_icmp_ne (pc := 12) hC (tgt := 19) (by decide) d_Mo_isAlive_12 h (fun h => ?_) (fun h => ?_)
  · refine g_iconst (pc := 19) hC kc_0 d_Mo_isAlive_19 ?_
    exact g_iN (pc := 20) hC rfl d_Mo_isAlive_20 h
  · refine g_iconst (pc := 15) hC kc_1 d_Mo_isAlive_15 ?_
    refine g_goto (pc := 16) hC (tgt := 20) (by decide) d_Mo_isAlive_16 ?_
    exact g_iN (pc := 20) hC rfl d_Mo_isAlive_20 h
theorem c_Mo_isAlive {V : WV} {l : Launch} (hV : IsM V) {x1 : Int32} {S : Mem} {z : Int32} (h : f_Mo_isAlive x1 S = some z) : CI V l y_Mo_isAlive bc_Mo_isAlive 2 (some .boolean) 0 0 [.ref (V.2.2.1 0 0), .int x1] S z S :=
  ct_i rfl (IsM.ok hV) (Nat.le_of_ble_eq_true rfl) (fun _ _ hC => w_Mo_isAlive_b0 hV hC x1 h)
def f_Mo_isHolding_b0 (S : Mem) (x1 : Int32) : Option (Int32) :=
  Option.bind (f_Mo_knownBy x1 S) (fun q2 =>
  gIn 33 40 (
  Option.bind (f_Mo_bits (S.2.1 0 57 (33 : Int32).toNatClampNeg)) (fun q13 =>
  gIn ((8 * (S.1 0 18)) + x1) 16 (
  if (S.2.1 0 32 ((8 * (S.1 0 18)) + x1).toNatClampNeg) = 0 then
    if q2 ≤ 0 then
      some 0
    else
      if q2 < q13 then
        some 1
      else
        if q13 = 1 then
          some 1
        else
          some 0
  else
    some 0))))
def f_Mo_isHolding (x1 : Int32) (S : Mem) : Option (Int32) := f_Mo_isHolding_b0 S x1
theorem d_Mo_isHolding_0 : decode bc_Mo_isHolding 0 = .ok (.aload_n 0, 1) := by decide +kernel
theorem d_Mo_isHolding_1 : decode bc_Mo_isHolding 1 = .ok (.iload_n 1, 1) := by decide +kernel
theorem d_Mo_isHolding_2 : decode bc_Mo_isHolding 2 = .ok (.invokevirtual 352, 3) := by decide +kernel
theorem d_Mo_isHolding_5 : decode bc_Mo_isHolding 5 = .ok (.istore_n 2, 1) := by decide +kernel
theorem d_Mo_isHolding_6 : decode bc_Mo_isHolding 6 = .ok (.aload_n 0, 1) := by decide +kernel
theorem d_Mo_isHolding_7 : decode bc_Mo_isHolding 7 = .ok (.getfield 137, 3) := by decide +kernel
theorem d_Mo_isHolding_10 : decode bc_Mo_isHolding 10 = .ok (.bipush 33, 2) := by decide +kernel
theorem d_Mo_isHolding_12 : decode bc_Mo_isHolding 12 = .ok (.iaload, 1) := by decide +kernel
theorem d_Mo_isHolding_13 : decode bc_Mo_isHolding 13 = .ok (.invokestatic 349, 3) := by decide +kernel
theorem d_Mo_isHolding_16 : decode bc_Mo_isHolding 16 = .ok (.istore_n 3, 1) := by decide +kernel
theorem d_Mo_isHolding_17 : decode bc_Mo_isHolding 17 = .ok (.aload_n 0, 1) := by decide +kernel
theorem d_Mo_isHolding_18 : decode bc_Mo_isHolding 18 = .ok (.getfield 73, 3) := by decide +kernel
theorem d_Mo_isHolding_21 : decode bc_Mo_isHolding 21 = .ok (.bipush 8, 2) := by decide +kernel
theorem d_Mo_isHolding_23 : decode bc_Mo_isHolding 23 = .ok (.aload_n 0, 1) := by decide +kernel
theorem d_Mo_isHolding_24 : decode bc_Mo_isHolding 24 = .ok (.getfield 245, 3) := by decide +kernel
theorem d_Mo_isHolding_27 : decode bc_Mo_isHolding 27 = .ok (.imul, 1) := by decide +kernel
theorem d_Mo_isHolding_28 : decode bc_Mo_isHolding 28 = .ok (.iload_n 1, 1) := by decide +kernel
theorem d_Mo_isHolding_29 : decode bc_Mo_isHolding 29 = .ok (.iadd, 1) := by decide +kernel
theorem d_Mo_isHolding_30 : decode bc_Mo_isHolding 30 = .ok (.baload, 1) := by decide +kernel
theorem d_Mo_isHolding_31 : decode bc_Mo_isHolding 31 = .ok (.ifCond .ne 21, 3) := by decide +kernel
theorem d_Mo_isHolding_34 : decode bc_Mo_isHolding 34 = .ok (.iload_n 2, 1) := by decide +kernel
theorem d_Mo_isHolding_35 : decode bc_Mo_isHolding 35 = .ok (.ifCond .le 17, 3) := by decide +kernel
theorem d_Mo_isHolding_38 : decode bc_Mo_isHolding 38 = .ok (.iload_n 2, 1) := by decide +kernel
theorem d_Mo_isHolding_39 : decode bc_Mo_isHolding 39 = .ok (.iload_n 3, 1) := by decide +kernel
theorem d_Mo_isHolding_40 : decode bc_Mo_isHolding 40 = .ok (.if_icmp .lt 8, 3) := by decide +kernel
theorem d_Mo_isHolding_43 : decode bc_Mo_isHolding 43 = .ok (.iload_n 3, 1) := by decide +kernel
theorem d_Mo_isHolding_44 : decode bc_Mo_isHolding 44 = .ok (.iconst 1, 1) := by decide +kernel
theorem d_Mo_isHolding_45 : decode bc_Mo_isHolding 45 = .ok (.if_icmp .ne 7, 3) := by decide +kernel
theorem d_Mo_isHolding_48 : decode bc_Mo_isHolding 48 = .ok (.iconst 1, 1) := by decide +kernel
theorem d_Mo_isHolding_49 : decode bc_Mo_isHolding 49 = .ok (.goto 4, 3) := by decide +kernel
theorem d_Mo_isHolding_52 : decode bc_Mo_isHolding 52 = .ok (.iconst 0, 1) := by decide +kernel
theorem d_Mo_isHolding_53 : decode bc_Mo_isHolding 53 = .ok (.ireturn, 1) := by decide +kernel
set_option maxRecDepth 20000 in
theorem w_Mo_isHolding_b0 {X : CX} {V : WV} (hV : IsM V) {S : Mem} {z : Int32} (hC : Ck X V bc_Mo_isHolding 4 "SecretWellsModel" (some .boolean) 3 66) (x1 : Int32) (h : f_Mo_isHolding_b0 S x1 = some z) : G X V 4 (QI X V z S) 0 [some (.ref (V.2.2.1 0 0)), some (.int x1), none, none] [] S := by
  unfold f_Mo_isHolding_b0 at h
  refine g_aload_n (pc := 0) hC (i := 0) (x := (V.2.2.1 0 0)) rfl rfl d_Mo_isHolding_0 ?_
  refine g_iload_n (pc := 1) hC (i := 1) (x := x1) rfl rfl d_Mo_isHolding_1 ?_
  obtain ⟨q2, hq2, h⟩ := Option.bind_eq_some_iff.mp h
  refine g_vi (pc := 2) hC (As := [.int x1]) (st := []) mt_Mo_knownBy lk_Mo_352 rfl (ob_Mo hV) (Nat.le_of_ble_eq_true rfl) ⟨Nat.le_of_ble_eq_true rfl, Nat.le_of_ble_eq_true rfl⟩ rfl d_Mo_isHolding_2 (c_Mo_knownBy hV hq2) ?_
  refine s_istore_n (pc := 5) hC (i := 2) rfl (by decide) d_Mo_isHolding_5 (lv2 := [some (.ref (V.2.2.1 0 0)), some (.int x1), some (.int q2), none]) rfl ?_
  refine g_aload_n (pc := 6) hC (i := 0) (x := (V.2.2.1 0 0)) rfl rfl d_Mo_isHolding_6 ?_
  refine g_getA (pc := 7) hC fo_Mo_137 (ob_Mo hV) rfl d_Mo_isHolding_7 ?_
  refine g_bipush (pc := 10) hC kb_33 d_Mo_isHolding_10 ?_
  refine g_iald (pc := 12) hC (ar_Mo_57 hV) d_Mo_isHolding_12 h (fun h => ?_)
  obtain ⟨q13, hq13, h⟩ := Option.bind_eq_some_iff.mp h
  refine g_si (pc := 13) hC (As := [.int (S.2.1 0 57 (33 : Int32).toNatClampNeg)]) (st := []) mt_Mo_bits lk_Mo_349 (Nat.le_of_ble_eq_true rfl) ⟨Nat.le_of_ble_eq_true rfl, Nat.le_of_ble_eq_true rfl⟩ rfl d_Mo_isHolding_13 (c_Mo_bits (IsM.ok hV) hq13) ?_
  refine s_istore_n (pc := 16) hC (i := 3) rfl (by decide) d_Mo_isHolding_16 (lv2 := [some (.ref (V.2.2.1 0 0)), some (.int x1), some (.int q2), some (.int q13)]) rfl ?_
  refine g_aload_n (pc := 17) hC (i := 0) (x := (V.2.2.1 0 0)) rfl rfl d_Mo_isHolding_17 ?_
  refine g_getA (pc := 18) hC fo_Mo_73 (ob_Mo hV) rfl d_Mo_isHolding_18 ?_
  refine g_bipush (pc := 21) hC kb_8 d_Mo_isHolding_21 ?_
  refine g_aload_n (pc := 23) hC (i := 0) (x := (V.2.2.1 0 0)) rfl rfl d_Mo_isHolding_23 ?_
  refine g_getI (pc := 24) hC fo_Mo_245 (ob_Mo hV) rfl d_Mo_isHolding_24 ?_
  refine g_imul (pc := 27) hC d_Mo_isHolding_27 ?_
  refine g_iload_n (pc := 28) hC (i := 1) (x := x1) rfl rfl d_Mo_isHolding_28 ?_
  refine g_iadd (pc := 29) hC d_Mo_isHolding_29 ?_
  refine g_zald (pc := 30) hC (ar_Mo_32 hV) d_Mo_isHolding_30 h (fun h => ?_)
  refine g_if_ne (pc := 31) hC (tgt := 52) (by decide) d_Mo_isHolding_31 h (fun h => ?_) (fun h => ?_)
  · refine g_iconst (pc := 52) hC kc_0 d_Mo_isHolding_52 ?_
    exact g_iN (pc := 53) hC rfl d_Mo_isHolding_53 h
  · refine g_iload_n (pc := 34) hC (i := 2) (x := q2) rfl rfl d_Mo_isHolding_34 ?_
    refine g_if_le (pc := 35) hC (tgt := 52) (by decide) d_Mo_isHolding_35 h (fun h => ?_) (fun h => ?_)
    · refine g_iconst (pc := 52) hC kc_0 d_Mo_isHolding_52 ?_
      exact g_iN (pc := 53) hC rfl d_Mo_isHolding_53 h
    · refine g_iload_n (pc := 38) hC (i := 2) (x := q2) rfl rfl d_Mo_isHolding_38 ?_
      refine g_iload_n (pc := 39) hC (i := 3) (x := q13) rfl rfl d_Mo_isHolding_39 ?_
      refine g_icmp_lt (pc := 40) hC (tgt := 48) (by decide) d_Mo_isHolding_40 h (fun h => ?_) (fun h => ?_)
      · refine g_iconst (pc := 48) hC kc_1 d_Mo_isHolding_48 ?_
        refine g_goto (pc := 49) hC (tgt := 53) (by decide) d_Mo_isHolding_49 ?_
        exact g_iN (pc := 53) hC rfl d_Mo_isHolding_53 h
      · refine g_iload_n (pc := 43) hC (i := 3) (x := q13) rfl rfl d_Mo_isHolding_43 ?_
        refine g_iconst (pc := 44) hC kc_1 d_Mo_isHolding_44 ?_
        refine g_icmp_ne (pc := 45) hC (tgt := 52) (by decide) d_Mo_isHolding_45 h (fun h => ?_) (fun h => ?_)
        · refine g_iconst (pc := 52) hC kc_0 d_Mo_isHolding_52 ?_
          exact g_iN (pc := 53) hC rfl d_Mo_isHolding_53 h
        · refine g_iconst (pc := 48) hC kc_1 d_Mo_isHolding_48 ?_
          refine g_goto (pc := 49) hC (tgt := 53) (by decide) d_Mo_isHolding_49 ?_
          exact g_iN (pc := 53) hC rfl d_Mo_isHolding_53 h
theorem c_Mo_isHolding {V : WV} {l : Launch} (hV : IsM V) {x1 : Int32} {S : Mem} {z : Int32} (h : f_Mo_isHolding x1 S = some z) : CI V l y_Mo_isHolding bc_Mo_isHolding 4 (some .boolean) 3 66 [.ref (V.2.2.1 0 0), .int x1] S z S :=
  ct_i rfl (IsM.ok hV) (Nat.le_of_ble_eq_true rfl) (fun _ _ hC => w_Mo_isHolding_b0 hV hC x1 h)
def f_Mo_holding_b4 (S : Mem) (k4 : Int32 → Int32 → Int32 → Option (Int32)) (x1 : Int32) (x2 : Int32) (x3 : Int32) : Option (Int32) :=
  gIn (S.1 0 18) 2 (
  if (S.2.1 0 30 (S.1 0 18).toNatClampNeg) ≤ x3 then
    some x2
  else
    gIn (4 + x3) 40 (
    if (S.2.1 0 57 (4 + x3).toNatClampNeg) = x1 then
      Option.bind (f_Mo_isHolding x3 S) (fun q31 =>
      if q31 = 0 then
        k4 x1 x2 (x3 + 1)
      else
        letS (x2 ||| ((1 : Int32) <<< (x3 &&& 31))) (fun y42 =>
        k4 x1 y42 (x3 + 1)))
    else
      k4 x1 x2 (x3 + 1)))
def f_Mo_holding_l4 (S : Mem) : Nat → Int32 → Int32 → Int32 → Option (Int32)
  | 0 => fun _ _ _ => none
  | n + 1 => f_Mo_holding_b4 S (f_Mo_holding_l4 S n)
def f_Mo_holding_b0 (S : Mem) (x1 : Int32) : Option (Int32) :=
  f_Mo_holding_l4 S 5000 x1 0 0
def f_Mo_holding (x1 : Int32) (S : Mem) : Option (Int32) := f_Mo_holding_b0 S x1
theorem d_Mo_holding_0 : decode bc_Mo_holding 0 = .ok (.iconst 0, 1) := by decide +kernel
theorem d_Mo_holding_1 : decode bc_Mo_holding 1 = .ok (.istore_n 2, 1) := by decide +kernel
theorem d_Mo_holding_2 : decode bc_Mo_holding 2 = .ok (.iconst 0, 1) := by decide +kernel
theorem d_Mo_holding_3 : decode bc_Mo_holding 3 = .ok (.istore_n 3, 1) := by decide +kernel
theorem d_Mo_holding_4 : decode bc_Mo_holding 4 = .ok (.iload_n 3, 1) := by decide +kernel
theorem d_Mo_holding_5 : decode bc_Mo_holding 5 = .ok (.aload_n 0, 1) := by decide +kernel
theorem d_Mo_holding_6 : decode bc_Mo_holding 6 = .ok (.getfield 67, 3) := by decide +kernel
theorem d_Mo_holding_9 : decode bc_Mo_holding 9 = .ok (.aload_n 0, 1) := by decide +kernel
theorem d_Mo_holding_10 : decode bc_Mo_holding 10 = .ok (.getfield 245, 3) := by decide +kernel
theorem d_Mo_holding_13 : decode bc_Mo_holding 13 = .ok (.iaload, 1) := by decide +kernel
theorem d_Mo_holding_14 : decode bc_Mo_holding 14 = .ok (.if_icmp .ge 35, 3) := by decide +kernel
theorem d_Mo_holding_17 : decode bc_Mo_holding 17 = .ok (.aload_n 0, 1) := by decide +kernel
theorem d_Mo_holding_18 : decode bc_Mo_holding 18 = .ok (.getfield 137, 3) := by decide +kernel
theorem d_Mo_holding_21 : decode bc_Mo_holding 21 = .ok (.iconst 4, 1) := by decide +kernel
theorem d_Mo_holding_22 : decode bc_Mo_holding 22 = .ok (.iload_n 3, 1) := by decide +kernel
theorem d_Mo_holding_23 : decode bc_Mo_holding 23 = .ok (.iadd, 1) := by decide +kernel
theorem d_Mo_holding_24 : decode bc_Mo_holding 24 = .ok (.iaload, 1) := by decide +kernel
theorem d_Mo_holding_25 : decode bc_Mo_holding 25 = .ok (.iload_n 1, 1) := by decide +kernel
theorem d_Mo_holding_26 : decode bc_Mo_holding 26 = .ok (.if_icmp .ne 17, 3) := by decide +kernel
theorem d_Mo_holding_29 : decode bc_Mo_holding 29 = .ok (.aload_n 0, 1) := by decide +kernel
theorem d_Mo_holding_30 : decode bc_Mo_holding 30 = .ok (.iload_n 3, 1) := by decide +kernel
theorem d_Mo_holding_31 : decode bc_Mo_holding 31 = .ok (.invokevirtual 358, 3) := by decide +kernel
theorem d_Mo_holding_34 : decode bc_Mo_holding 34 = .ok (.ifCond .eq 9, 3) := by decide +kernel
theorem d_Mo_holding_37 : decode bc_Mo_holding 37 = .ok (.iload_n 2, 1) := by decide +kernel
theorem d_Mo_holding_38 : decode bc_Mo_holding 38 = .ok (.iconst 1, 1) := by decide +kernel
theorem d_Mo_holding_39 : decode bc_Mo_holding 39 = .ok (.iload_n 3, 1) := by decide +kernel
theorem d_Mo_holding_40 : decode bc_Mo_holding 40 = .ok (.ishl, 1) := by decide +kernel
theorem d_Mo_holding_41 : decode bc_Mo_holding 41 = .ok (.ior, 1) := by decide +kernel
theorem d_Mo_holding_42 : decode bc_Mo_holding 42 = .ok (.istore_n 2, 1) := by decide +kernel
theorem d_Mo_holding_43 : decode bc_Mo_holding 43 = .ok (.iinc 3 1, 3) := by decide +kernel
theorem d_Mo_holding_46 : decode bc_Mo_holding 46 = .ok (.goto (-42), 3) := by decide +kernel
theorem d_Mo_holding_49 : decode bc_Mo_holding 49 = .ok (.iload_n 2, 1) := by decide +kernel
theorem d_Mo_holding_50 : decode bc_Mo_holding 50 = .ok (.ireturn, 1) := by decide +kernel
set_option maxRecDepth 20000 in
theorem w_Mo_holding_b4 {X : CX} {V : WV} (hV : IsM V) {S : Mem} {z : Int32} (hC : Ck X V bc_Mo_holding 4 "SecretWellsModel" (some .int) 4 89) (k4 : Int32 → Int32 → Int32 → Option (Int32)) (hk4 : ∀ (x1 : Int32) (x2 : Int32) (x3 : Int32), k4 x1 x2 x3 = some z → G X V 4 (QI X V z S) 4 [some (.ref (V.2.2.1 0 0)), some (.int x1), some (.int x2), some (.int x3)] [] S) (x1 : Int32) (x2 : Int32) (x3 : Int32) (h : f_Mo_holding_b4 S k4 x1 x2 x3 = some z) : G X V 4 (QI X V z S) 4 [some (.ref (V.2.2.1 0 0)), some (.int x1), some (.int x2), some (.int x3)] [] S := by
  unfold f_Mo_holding_b4 at h
  refine g_iload_n (pc := 4) hC (i := 3) (x := x3) rfl rfl d_Mo_holding_4 ?_
  refine g_aload_n (pc := 5) hC (i := 0) (x := (V.2.2.1 0 0)) rfl rfl d_Mo_holding_5 ?_
  refine g_getA (pc := 6) hC fo_Mo_67 (ob_Mo hV) rfl d_Mo_holding_6 ?_
  refine g_aload_n (pc := 9) hC (i := 0) (x := (V.2.2.1 0 0)) rfl rfl d_Mo_holding_9 ?_
  refine g_getI (pc := 10) hC fo_Mo_245 (ob_Mo hV) rfl d_Mo_holding_10 ?_
  refine g_iald (pc := 13) hC (ar_Mo_30 hV) d_Mo_holding_13 h (fun h => ?_)
  refine g_icmp_ge (pc := 14) hC (tgt := 49) (by decide) d_Mo_holding_14 h (fun h => ?_) (fun h => ?_)
  · refine g_iload_n (pc := 49) hC (i := 2) (x := x2) rfl rfl d_Mo_holding_49 ?_
    exact g_iN (pc := 50) hC rfl d_Mo_holding_50 h
  · refine g_aload_n (pc := 17) hC (i := 0) (x := (V.2.2.1 0 0)) rfl rfl d_Mo_holding_17 ?_
    refine g_getA (pc := 18) hC fo_Mo_137 (ob_Mo hV) rfl d_Mo_holding_18 ?_
    refine g_iconst (pc := 21) hC kc_4 d_Mo_holding_21 ?_
    refine g_iload_n (pc := 22) hC (i := 3) (x := x3) rfl rfl d_Mo_holding_22 ?_
    refine g_iadd (pc := 23) hC d_Mo_holding_23 ?_
    refine g_iald (pc := 24) hC (ar_Mo_57 hV) d_Mo_holding_24 h (fun h => ?_)
    refine g_iload_n (pc := 25) hC (i := 1) (x := x1) rfl rfl d_Mo_holding_25 ?_
    refine g_icmp_ne (pc := 26) hC (tgt := 43) (by decide) d_Mo_holding_26 h (fun h => ?_) (fun h => ?_)
    · refine s_iinc (pc := 43) hC (i := 3) (x := x3) (v := x3 + 1) rfl (by rw [kc_1]) (by decide) d_Mo_holding_43 (lv2 := [some (.ref (V.2.2.1 0 0)), some (.int x1), some (.int x2), some (.int (x3 + 1))]) rfl ?_
      refine g_goto (pc := 46) hC (tgt := 4) (by decide) d_Mo_holding_46 ?_
      exact hk4 x1 x2 (x3 + 1) h
    · refine g_aload_n (pc := 29) hC (i := 0) (x := (V.2.2.1 0 0)) rfl rfl d_Mo_holding_29 ?_
      refine g_iload_n (pc := 30) hC (i := 3) (x := x3) rfl rfl d_Mo_holding_30 ?_
      obtain ⟨q31, hq31, h⟩ := Option.bind_eq_some_iff.mp h
      refine g_vi (pc := 31) hC (As := [.int x3]) (st := []) mt_Mo_isHolding lk_Mo_358 rfl (ob_Mo hV) (Nat.le_of_ble_eq_true rfl) ⟨Nat.le_of_ble_eq_true rfl, Nat.le_of_ble_eq_true rfl⟩ rfl d_Mo_holding_31 (c_Mo_isHolding hV hq31) ?_
      refine g_if_eq (pc := 34) hC (tgt := 43) (by decide) d_Mo_holding_34 h (fun h => ?_) (fun h => ?_)
      · refine s_iinc (pc := 43) hC (i := 3) (x := x3) (v := x3 + 1) rfl (by rw [kc_1]) (by decide) d_Mo_holding_43 (lv2 := [some (.ref (V.2.2.1 0 0)), some (.int x1), some (.int x2), some (.int (x3 + 1))]) rfl ?_
        refine g_goto (pc := 46) hC (tgt := 4) (by decide) d_Mo_holding_46 ?_
        exact hk4 x1 x2 (x3 + 1) h
      · refine g_iload_n (pc := 37) hC (i := 2) (x := x2) rfl rfl d_Mo_holding_37 ?_
        refine g_iconst (pc := 38) hC kc_1 d_Mo_holding_38 ?_
        refine g_iload_n (pc := 39) hC (i := 3) (x := x3) rfl rfl d_Mo_holding_39 ?_
        refine g_ishl (pc := 40) hC d_Mo_holding_40 ?_
        refine g_ior (pc := 41) hC d_Mo_holding_41 ?_
        refine g_leti h (fun y42 h => ?_)
        refine s_istore_n (pc := 42) hC (i := 2) rfl (by decide) d_Mo_holding_42 (lv2 := [some (.ref (V.2.2.1 0 0)), some (.int x1), some (.int y42), some (.int x3)]) rfl ?_
        refine s_iinc (pc := 43) hC (i := 3) (x := x3) (v := x3 + 1) rfl (by rw [kc_1]) (by decide) d_Mo_holding_43 (lv2 := [some (.ref (V.2.2.1 0 0)), some (.int x1), some (.int y42), some (.int (x3 + 1))]) rfl ?_
        refine g_goto (pc := 46) hC (tgt := 4) (by decide) d_Mo_holding_46 ?_
        exact hk4 x1 y42 (x3 + 1) h
theorem w_Mo_holding_l4 {X : CX} {V : WV} (hV : IsM V) {S : Mem} {z : Int32} (hC : Ck X V bc_Mo_holding 4 "SecretWellsModel" (some .int) 4 89) : ∀ (n : Nat) (x1 : Int32) (x2 : Int32) (x3 : Int32), f_Mo_holding_l4 S n x1 x2 x3 = some z → G X V 4 (QI X V z S) 4 [some (.ref (V.2.2.1 0 0)), some (.int x1), some (.int x2), some (.int x3)] [] S := by
  intro n
  induction n with
  | zero =>
    intro x1 x2 x3 h
    have h : (none : Option (Int32)) = some z := h
    cases h
  | succ n ih =>
    intro x1 x2 x3 h
    exact w_Mo_holding_b4 hV hC (f_Mo_holding_l4 S n) ih x1 x2 x3 h
set_option maxRecDepth 20000 in
theorem w_Mo_holding_b0 {X : CX} {V : WV} (hV : IsM V) {S : Mem} {z : Int32} (hC : Ck X V bc_Mo_holding 4 "SecretWellsModel" (some .int) 4 89) (x1 : Int32) (h : f_Mo_holding_b0 S x1 = some z) : G X V 4 (QI X V z S) 0 [some (.ref (V.2.2.1 0 0)), some (.int x1), none, none] [] S := by
  unfold f_Mo_holding_b0 at h
  refine g_iconst (pc := 0) hC kc_0 d_Mo_holding_0 ?_
  refine s_istore_n (pc := 1) hC (i := 2) rfl (by decide) d_Mo_holding_1 (lv2 := [some (.ref (V.2.2.1 0 0)), some (.int x1), some (.int 0), none]) rfl ?_
  refine g_iconst (pc := 2) hC kc_0 d_Mo_holding_2 ?_
  refine s_istore_n (pc := 3) hC (i := 3) rfl (by decide) d_Mo_holding_3 (lv2 := [some (.ref (V.2.2.1 0 0)), some (.int x1), some (.int 0), some (.int 0)]) rfl ?_
  exact w_Mo_holding_l4 hV hC 5000 x1 0 0 h
theorem c_Mo_holding {V : WV} {l : Launch} (hV : IsM V) {x1 : Int32} {S : Mem} {z : Int32} (h : f_Mo_holding x1 S = some z) : CI V l y_Mo_holding bc_Mo_holding 4 (some .int) 4 89 [.ref (V.2.2.1 0 0), .int x1] S z S :=
  ct_i rfl (IsM.ok hV) (Nat.le_of_ble_eq_true rfl) (fun _ _ hC => w_Mo_holding_b0 hV hC x1 h)
def f_Mo_drinkersOf_b4 (S : Mem) (k4 : Int32 → Int32 → Int32 → Option (Int32)) (x1 : Int32) (x2 : Int32) (x3 : Int32) : Option (Int32) :=
  gIn (S.1 0 18) 2 (
  if (S.2.1 0 27 (S.1 0 18).toNatClampNeg) ≤ x3 then
    some x2
  else
    Option.bind (f_Mo_isAlive x3 S) (fun q19 =>
    if q19 = 0 then
      k4 x1 x2 (x3 + 1)
    else
      gIn (12 + x3) 40 (
      if (S.2.1 0 57 (12 + x3).toNatClampNeg) = x1 then
        letS (x2 ||| ((1 : Int32) <<< (x3 &&& 31))) (fun y43 =>
        k4 x1 y43 (x3 + 1))
      else
        k4 x1 x2 (x3 + 1))))
def f_Mo_drinkersOf_l4 (S : Mem) : Nat → Int32 → Int32 → Int32 → Option (Int32)
  | 0 => fun _ _ _ => none
  | n + 1 => f_Mo_drinkersOf_b4 S (f_Mo_drinkersOf_l4 S n)
def f_Mo_drinkersOf_b0 (S : Mem) (x1 : Int32) : Option (Int32) :=
  f_Mo_drinkersOf_l4 S 5000 x1 0 0
def f_Mo_drinkersOf (x1 : Int32) (S : Mem) : Option (Int32) := f_Mo_drinkersOf_b0 S x1
theorem d_Mo_drinkersOf_0 : decode bc_Mo_drinkersOf 0 = .ok (.iconst 0, 1) := by decide +kernel
theorem d_Mo_drinkersOf_1 : decode bc_Mo_drinkersOf 1 = .ok (.istore_n 2, 1) := by decide +kernel
theorem d_Mo_drinkersOf_2 : decode bc_Mo_drinkersOf 2 = .ok (.iconst 0, 1) := by decide +kernel
theorem d_Mo_drinkersOf_3 : decode bc_Mo_drinkersOf 3 = .ok (.istore_n 3, 1) := by decide +kernel
theorem d_Mo_drinkersOf_4 : decode bc_Mo_drinkersOf 4 = .ok (.iload_n 3, 1) := by decide +kernel
theorem d_Mo_drinkersOf_5 : decode bc_Mo_drinkersOf 5 = .ok (.aload_n 0, 1) := by decide +kernel
theorem d_Mo_drinkersOf_6 : decode bc_Mo_drinkersOf 6 = .ok (.getfield 58, 3) := by decide +kernel
theorem d_Mo_drinkersOf_9 : decode bc_Mo_drinkersOf 9 = .ok (.aload_n 0, 1) := by decide +kernel
theorem d_Mo_drinkersOf_10 : decode bc_Mo_drinkersOf 10 = .ok (.getfield 245, 3) := by decide +kernel
theorem d_Mo_drinkersOf_13 : decode bc_Mo_drinkersOf 13 = .ok (.iaload, 1) := by decide +kernel
theorem d_Mo_drinkersOf_14 : decode bc_Mo_drinkersOf 14 = .ok (.if_icmp .ge 36, 3) := by decide +kernel
theorem d_Mo_drinkersOf_17 : decode bc_Mo_drinkersOf 17 = .ok (.aload_n 0, 1) := by decide +kernel
theorem d_Mo_drinkersOf_18 : decode bc_Mo_drinkersOf 18 = .ok (.iload_n 3, 1) := by decide +kernel
theorem d_Mo_drinkersOf_19 : decode bc_Mo_drinkersOf 19 = .ok (.invokevirtual 367, 3) := by decide +kernel
theorem d_Mo_drinkersOf_22 : decode bc_Mo_drinkersOf 22 = .ok (.ifCond .eq 22, 3) := by decide +kernel
theorem d_Mo_drinkersOf_25 : decode bc_Mo_drinkersOf 25 = .ok (.aload_n 0, 1) := by decide +kernel
theorem d_Mo_drinkersOf_26 : decode bc_Mo_drinkersOf 26 = .ok (.getfield 137, 3) := by decide +kernel
theorem d_Mo_drinkersOf_29 : decode bc_Mo_drinkersOf 29 = .ok (.bipush 12, 2) := by decide +kernel
theorem d_Mo_drinkersOf_31 : decode bc_Mo_drinkersOf 31 = .ok (.iload_n 3, 1) := by decide +kernel
theorem d_Mo_drinkersOf_32 : decode bc_Mo_drinkersOf 32 = .ok (.iadd, 1) := by decide +kernel
theorem d_Mo_drinkersOf_33 : decode bc_Mo_drinkersOf 33 = .ok (.iaload, 1) := by decide +kernel
theorem d_Mo_drinkersOf_34 : decode bc_Mo_drinkersOf 34 = .ok (.iload_n 1, 1) := by decide +kernel
theorem d_Mo_drinkersOf_35 : decode bc_Mo_drinkersOf 35 = .ok (.if_icmp .ne 9, 3) := by decide +kernel
theorem d_Mo_drinkersOf_38 : decode bc_Mo_drinkersOf 38 = .ok (.iload_n 2, 1) := by decide +kernel
theorem d_Mo_drinkersOf_39 : decode bc_Mo_drinkersOf 39 = .ok (.iconst 1, 1) := by decide +kernel
theorem d_Mo_drinkersOf_40 : decode bc_Mo_drinkersOf 40 = .ok (.iload_n 3, 1) := by decide +kernel
theorem d_Mo_drinkersOf_41 : decode bc_Mo_drinkersOf 41 = .ok (.ishl, 1) := by decide +kernel
theorem d_Mo_drinkersOf_42 : decode bc_Mo_drinkersOf 42 = .ok (.ior, 1) := by decide +kernel
theorem d_Mo_drinkersOf_43 : decode bc_Mo_drinkersOf 43 = .ok (.istore_n 2, 1) := by decide +kernel
theorem d_Mo_drinkersOf_44 : decode bc_Mo_drinkersOf 44 = .ok (.iinc 3 1, 3) := by decide +kernel
theorem d_Mo_drinkersOf_47 : decode bc_Mo_drinkersOf 47 = .ok (.goto (-43), 3) := by decide +kernel
theorem d_Mo_drinkersOf_50 : decode bc_Mo_drinkersOf 50 = .ok (.iload_n 2, 1) := by decide +kernel
theorem d_Mo_drinkersOf_51 : decode bc_Mo_drinkersOf 51 = .ok (.ireturn, 1) := by decide +kernel
set_option maxRecDepth 20000 in
theorem w_Mo_drinkersOf_b4 {X : CX} {V : WV} (hV : IsM V) {S : Mem} {z : Int32} (hC : Ck X V bc_Mo_drinkersOf 4 "SecretWellsModel" (some .int) 1 21) (k4 : Int32 → Int32 → Int32 → Option (Int32)) (hk4 : ∀ (x1 : Int32) (x2 : Int32) (x3 : Int32), k4 x1 x2 x3 = some z → G X V 4 (QI X V z S) 4 [some (.ref (V.2.2.1 0 0)), some (.int x1), some (.int x2), some (.int x3)] [] S) (x1 : Int32) (x2 : Int32) (x3 : Int32) (h : f_Mo_drinkersOf_b4 S k4 x1 x2 x3 = some z) : G X V 4 (QI X V z S) 4 [some (.ref (V.2.2.1 0 0)), some (.int x1), some (.int x2), some (.int x3)] [] S := by
  unfold f_Mo_drinkersOf_b4 at h
  refine g_iload_n (pc := 4) hC (i := 3) (x := x3) rfl rfl d_Mo_drinkersOf_4 ?_
  refine g_aload_n (pc := 5) hC (i := 0) (x := (V.2.2.1 0 0)) rfl rfl d_Mo_drinkersOf_5 ?_
  refine g_getA (pc := 6) hC fo_Mo_58 (ob_Mo hV) rfl d_Mo_drinkersOf_6 ?_
  refine g_aload_n (pc := 9) hC (i := 0) (x := (V.2.2.1 0 0)) rfl rfl d_Mo_drinkersOf_9 ?_
  refine g_getI (pc := 10) hC fo_Mo_245 (ob_Mo hV) rfl d_Mo_drinkersOf_10 ?_
  refine g_iald (pc := 13) hC (ar_Mo_27 hV) d_Mo_drinkersOf_13 h (fun h => ?_)
  refine g_icmp_ge (pc := 14) hC (tgt := 50) (by decide) d_Mo_drinkersOf_14 h (fun h => ?_) (fun h => ?_)
  · refine g_iload_n (pc := 50) hC (i := 2) (x := x2) rfl rfl d_Mo_drinkersOf_50 ?_
    exact g_iN (pc := 51) hC rfl d_Mo_drinkersOf_51 h
  · refine g_aload_n (pc := 17) hC (i := 0) (x := (V.2.2.1 0 0)) rfl rfl d_Mo_drinkersOf_17 ?_
    refine g_iload_n (pc := 18) hC (i := 3) (x := x3) rfl rfl d_Mo_drinkersOf_18 ?_
    obtain ⟨q19, hq19, h⟩ := Option.bind_eq_some_iff.mp h
    refine g_vi (pc := 19) hC (As := [.int x3]) (st := []) mt_Mo_isAlive lk_Mo_367 rfl (ob_Mo hV) (Nat.le_of_ble_eq_true rfl) ⟨Nat.le_of_ble_eq_true rfl, Nat.le_of_ble_eq_true rfl⟩ rfl d_Mo_drinkersOf_19 (c_Mo_isAlive hV hq19) ?_
    refine g_if_eq (pc := 22) hC (tgt := 44) (by decide) d_Mo_drinkersOf_22 h (fun h => ?_) (fun h => ?_)
    · refine s_iinc (pc := 44) hC (i := 3) (x := x3) (v := x3 + 1) rfl (by rw [kc_1]) (by decide) d_Mo_drinkersOf_44 (lv2 := [some (.ref (V.2.2.1 0 0)), some (.int x1), some (.int x2), some (.int (x3 + 1))]) rfl ?_
      refine g_goto (pc := 47) hC (tgt := 4) (by decide) d_Mo_drinkersOf_47 ?_
      exact hk4 x1 x2 (x3 + 1) h
    · refine g_aload_n (pc := 25) hC (i := 0) (x := (V.2.2.1 0 0)) rfl rfl d_Mo_drinkersOf_25 ?_
      refine g_getA (pc := 26) hC fo_Mo_137 (ob_Mo hV) rfl d_Mo_drinkersOf_26 ?_
      refine g_bipush (pc := 29) hC kb_12 d_Mo_drinkersOf_29 ?_
      refine g_iload_n (pc := 31) hC (i := 3) (x := x3) rfl rfl d_Mo_drinkersOf_31 ?_
      refine g_iadd (pc := 32) hC d_Mo_drinkersOf_32 ?_
      refine g_iald (pc := 33) hC (ar_Mo_57 hV) d_Mo_drinkersOf_33 h (fun h => ?_)
      refine g_iload_n (pc := 34) hC (i := 1) (x := x1) rfl rfl d_Mo_drinkersOf_34 ?_
      refine g_icmp_ne (pc := 35) hC (tgt := 44) (by decide) d_Mo_drinkersOf_35 h (fun h => ?_) (fun h => ?_)
      · refine s_iinc (pc := 44) hC (i := 3) (x := x3) (v := x3 + 1) rfl (by rw [kc_1]) (by decide) d_Mo_drinkersOf_44 (lv2 := [some (.ref (V.2.2.1 0 0)), some (.int x1), some (.int x2), some (.int (x3 + 1))]) rfl ?_
        refine g_goto (pc := 47) hC (tgt := 4) (by decide) d_Mo_drinkersOf_47 ?_
        exact hk4 x1 x2 (x3 + 1) h
      · refine g_iload_n (pc := 38) hC (i := 2) (x := x2) rfl rfl d_Mo_drinkersOf_38 ?_
        refine g_iconst (pc := 39) hC kc_1 d_Mo_drinkersOf_39 ?_
        refine g_iload_n (pc := 40) hC (i := 3) (x := x3) rfl rfl d_Mo_drinkersOf_40 ?_
        refine g_ishl (pc := 41) hC d_Mo_drinkersOf_41 ?_
        refine g_ior (pc := 42) hC d_Mo_drinkersOf_42 ?_
        refine g_leti h (fun y43 h => ?_)
        refine s_istore_n (pc := 43) hC (i := 2) rfl (by decide) d_Mo_drinkersOf_43 (lv2 := [some (.ref (V.2.2.1 0 0)), some (.int x1), some (.int y43), some (.int x3)]) rfl ?_
        refine s_iinc (pc := 44) hC (i := 3) (x := x3) (v := x3 + 1) rfl (by rw [kc_1]) (by decide) d_Mo_drinkersOf_44 (lv2 := [some (.ref (V.2.2.1 0 0)), some (.int x1), some (.int y43), some (.int (x3 + 1))]) rfl ?_
        refine g_goto (pc := 47) hC (tgt := 4) (by decide) d_Mo_drinkersOf_47 ?_
        exact hk4 x1 y43 (x3 + 1) h
theorem w_Mo_drinkersOf_l4 {X : CX} {V : WV} (hV : IsM V) {S : Mem} {z : Int32} (hC : Ck X V bc_Mo_drinkersOf 4 "SecretWellsModel" (some .int) 1 21) : ∀ (n : Nat) (x1 : Int32) (x2 : Int32) (x3 : Int32), f_Mo_drinkersOf_l4 S n x1 x2 x3 = some z → G X V 4 (QI X V z S) 4 [some (.ref (V.2.2.1 0 0)), some (.int x1), some (.int x2), some (.int x3)] [] S := by
  intro n
  induction n with
  | zero =>
    intro x1 x2 x3 h
    have h : (none : Option (Int32)) = some z := h
    cases h
  | succ n ih =>
    intro x1 x2 x3 h
    exact w_Mo_drinkersOf_b4 hV hC (f_Mo_drinkersOf_l4 S n) ih x1 x2 x3 h
set_option maxRecDepth 20000 in
theorem w_Mo_drinkersOf_b0 {X : CX} {V : WV} (hV : IsM V) {S : Mem} {z : Int32} (hC : Ck X V bc_Mo_drinkersOf 4 "SecretWellsModel" (some .int) 1 21) (x1 : Int32) (h : f_Mo_drinkersOf_b0 S x1 = some z) : G X V 4 (QI X V z S) 0 [some (.ref (V.2.2.1 0 0)), some (.int x1), none, none] [] S := by
  unfold f_Mo_drinkersOf_b0 at h
  refine g_iconst (pc := 0) hC kc_0 d_Mo_drinkersOf_0 ?_
  refine s_istore_n (pc := 1) hC (i := 2) rfl (by decide) d_Mo_drinkersOf_1 (lv2 := [some (.ref (V.2.2.1 0 0)), some (.int x1), some (.int 0), none]) rfl ?_
  refine g_iconst (pc := 2) hC kc_0 d_Mo_drinkersOf_2 ?_
  refine s_istore_n (pc := 3) hC (i := 3) rfl (by decide) d_Mo_drinkersOf_3 (lv2 := [some (.ref (V.2.2.1 0 0)), some (.int x1), some (.int 0), some (.int 0)]) rfl ?_
  exact w_Mo_drinkersOf_l4 hV hC 5000 x1 0 0 h
theorem c_Mo_drinkersOf {V : WV} {l : Launch} (hV : IsM V) {x1 : Int32} {S : Mem} {z : Int32} (h : f_Mo_drinkersOf x1 S = some z) : CI V l y_Mo_drinkersOf bc_Mo_drinkersOf 4 (some .int) 1 21 [.ref (V.2.2.1 0 0), .int x1] S z S :=
  ct_i rfl (IsM.ok hV) (Nat.le_of_ble_eq_true rfl) (fun _ _ hC => w_Mo_drinkersOf_b0 hV hC x1 h)
def f_Mo_mixed_b0 (x0 : Int32) (x1 : Int32) : Option (Int32) :=
  letS (((x0 ^^^ x1) * 1103515245) + 12345) (fun y11 =>
  some (y11 ^^^ (jUshr y11 15)))
def f_Mo_mixed (x0 : Int32) (x1 : Int32) : Option (Int32) := f_Mo_mixed_b0  x0 x1
theorem d_Mo_mixed_0 : decode bc_Mo_mixed 0 = .ok (.iload_n 0, 1) := by decide +kernel
theorem d_Mo_mixed_1 : decode bc_Mo_mixed 1 = .ok (.iload_n 1, 1) := by decide +kernel
theorem d_Mo_mixed_2 : decode bc_Mo_mixed 2 = .ok (.ixor, 1) := by decide +kernel
theorem d_Mo_mixed_3 : decode bc_Mo_mixed 3 = .ok (.ldc_w 370, 3) := by decide +kernel
theorem d_Mo_mixed_6 : decode bc_Mo_mixed 6 = .ok (.imul, 1) := by decide +kernel
theorem d_Mo_mixed_7 : decode bc_Mo_mixed 7 = .ok (.sipush 12345, 3) := by decide +kernel
theorem d_Mo_mixed_10 : decode bc_Mo_mixed 10 = .ok (.iadd, 1) := by decide +kernel
theorem d_Mo_mixed_11 : decode bc_Mo_mixed 11 = .ok (.istore_n 2, 1) := by decide +kernel
theorem d_Mo_mixed_12 : decode bc_Mo_mixed 12 = .ok (.iload_n 2, 1) := by decide +kernel
theorem d_Mo_mixed_13 : decode bc_Mo_mixed 13 = .ok (.iload_n 2, 1) := by decide +kernel
theorem d_Mo_mixed_14 : decode bc_Mo_mixed 14 = .ok (.bipush 15, 2) := by decide +kernel
theorem d_Mo_mixed_16 : decode bc_Mo_mixed 16 = .ok (.iushr, 1) := by decide +kernel
theorem d_Mo_mixed_17 : decode bc_Mo_mixed 17 = .ok (.ixor, 1) := by decide +kernel
theorem d_Mo_mixed_18 : decode bc_Mo_mixed 18 = .ok (.ireturn, 1) := by decide +kernel
set_option maxRecDepth 20000 in
theorem w_Mo_mixed_b0 {X : CX} {V : WV} (hVO : VOk V) {S : Mem} {z : Int32} (hC : Ck X V bc_Mo_mixed 3 "SecretWellsModel" (some .int) 0 0) (x0 : Int32) (x1 : Int32) (h : f_Mo_mixed_b0  x0 x1 = some z) : G X V 3 (QI X V z S) 0 [some (.int x0), some (.int x1), none] [] S := by
  unfold f_Mo_mixed_b0 at h
  refine g_iload_n (pc := 0) hC (i := 0) (x := x0) rfl rfl d_Mo_mixed_0 ?_
  refine g_iload_n (pc := 1) hC (i := 1) (x := x1) rfl rfl d_Mo_mixed_1 ?_
  refine g_ixor (pc := 2) hC d_Mo_mixed_2 ?_
  refine g_ldcw (pc := 3) hC q_Mo_k370 d_Mo_mixed_3 ?_
  refine g_imul (pc := 6) hC d_Mo_mixed_6 ?_
  refine g_sipush (pc := 7) hC ks_12345 d_Mo_mixed_7 ?_
  refine g_iadd (pc := 10) hC d_Mo_mixed_10 ?_
  refine g_leti h (fun y11 h => ?_)
  refine s_istore_n (pc := 11) hC (i := 2) rfl (by decide) d_Mo_mixed_11 (lv2 := [some (.int x0), some (.int x1), some (.int y11)]) rfl ?_
  refine g_iload_n (pc := 12) hC (i := 2) (x := y11) rfl rfl d_Mo_mixed_12 ?_
  refine g_iload_n (pc := 13) hC (i := 2) (x := y11) rfl rfl d_Mo_mixed_13 ?_
  refine g_bipush (pc := 14) hC kb_15 d_Mo_mixed_14 ?_
  refine g_iushr (pc := 16) hC d_Mo_mixed_16 ?_
  refine g_ixor (pc := 17) hC d_Mo_mixed_17 ?_
  exact g_iN (pc := 18) hC rfl d_Mo_mixed_18 h
theorem c_Mo_mixed {V : WV} {l : Launch} (hVO : VOk V) {x0 : Int32} {x1 : Int32} {S : Mem} {z : Int32} (h : f_Mo_mixed x0 x1 = some z) : CI V l y_Mo_mixed bc_Mo_mixed 3 (some .int) 0 0 [.int x0, .int x1] S z S :=
  ct_i rfl hVO (Nat.le_of_ble_eq_true rfl) (fun _ _ hC => w_Mo_mixed_b0 hVO hC x0 x1 h)
def f_Mo_lotOf_b0 (S : Mem) (x1 : Int32) (x2 : Int32) : Option (Int32) :=
  Option.bind (f_Mo_mixed (S.1 0 58) 49) (fun q6 =>
  gIn 35 40 (
  Option.bind (f_Mo_mixed q6 (((128 * (S.2.1 0 57 (35 : Int32).toNatClampNeg)) + (8 * x1)) + x2)) (fun q27 =>
  gNz 100 (
  some ((jUshr q27 1) - (jUshr q27 1) / 100 * 100)))))
def f_Mo_lotOf (x1 : Int32) (x2 : Int32) (S : Mem) : Option (Int32) := f_Mo_lotOf_b0 S x1 x2
theorem d_Mo_lotOf_0 : decode bc_Mo_lotOf 0 = .ok (.aload_n 0, 1) := by decide +kernel
theorem d_Mo_lotOf_1 : decode bc_Mo_lotOf 1 = .ok (.getfield 336, 3) := by decide +kernel
theorem d_Mo_lotOf_4 : decode bc_Mo_lotOf 4 = .ok (.bipush 49, 2) := by decide +kernel
theorem d_Mo_lotOf_6 : decode bc_Mo_lotOf 6 = .ok (.invokestatic 371, 3) := by decide +kernel
theorem d_Mo_lotOf_9 : decode bc_Mo_lotOf 9 = .ok (.sipush 128, 3) := by decide +kernel
theorem d_Mo_lotOf_12 : decode bc_Mo_lotOf 12 = .ok (.aload_n 0, 1) := by decide +kernel
theorem d_Mo_lotOf_13 : decode bc_Mo_lotOf 13 = .ok (.getfield 137, 3) := by decide +kernel
theorem d_Mo_lotOf_16 : decode bc_Mo_lotOf 16 = .ok (.bipush 35, 2) := by decide +kernel
theorem d_Mo_lotOf_18 : decode bc_Mo_lotOf 18 = .ok (.iaload, 1) := by decide +kernel
theorem d_Mo_lotOf_19 : decode bc_Mo_lotOf 19 = .ok (.imul, 1) := by decide +kernel
theorem d_Mo_lotOf_20 : decode bc_Mo_lotOf 20 = .ok (.bipush 8, 2) := by decide +kernel
theorem d_Mo_lotOf_22 : decode bc_Mo_lotOf 22 = .ok (.iload_n 1, 1) := by decide +kernel
theorem d_Mo_lotOf_23 : decode bc_Mo_lotOf 23 = .ok (.imul, 1) := by decide +kernel
theorem d_Mo_lotOf_24 : decode bc_Mo_lotOf 24 = .ok (.iadd, 1) := by decide +kernel
theorem d_Mo_lotOf_25 : decode bc_Mo_lotOf 25 = .ok (.iload_n 2, 1) := by decide +kernel
theorem d_Mo_lotOf_26 : decode bc_Mo_lotOf 26 = .ok (.iadd, 1) := by decide +kernel
theorem d_Mo_lotOf_27 : decode bc_Mo_lotOf 27 = .ok (.invokestatic 371, 3) := by decide +kernel
theorem d_Mo_lotOf_30 : decode bc_Mo_lotOf 30 = .ok (.iconst 1, 1) := by decide +kernel
theorem d_Mo_lotOf_31 : decode bc_Mo_lotOf 31 = .ok (.iushr, 1) := by decide +kernel
theorem d_Mo_lotOf_32 : decode bc_Mo_lotOf 32 = .ok (.bipush 100, 2) := by decide +kernel
theorem d_Mo_lotOf_34 : decode bc_Mo_lotOf 34 = .ok (.irem, 1) := by decide +kernel
theorem d_Mo_lotOf_35 : decode bc_Mo_lotOf 35 = .ok (.ireturn, 1) := by decide +kernel
set_option maxRecDepth 20000 in
theorem w_Mo_lotOf_b0 {X : CX} {V : WV} (hV : IsM V) {S : Mem} {z : Int32} (hC : Ck X V bc_Mo_lotOf 3 "SecretWellsModel" (some .int) 1 22) (x1 : Int32) (x2 : Int32) (h : f_Mo_lotOf_b0 S x1 x2 = some z) : G X V 3 (QI X V z S) 0 [some (.ref (V.2.2.1 0 0)), some (.int x1), some (.int x2)] [] S := by
  unfold f_Mo_lotOf_b0 at h
  refine g_aload_n (pc := 0) hC (i := 0) (x := (V.2.2.1 0 0)) rfl rfl d_Mo_lotOf_0 ?_
  refine g_getI (pc := 1) hC fo_Mo_336 (ob_Mo hV) rfl d_Mo_lotOf_1 ?_
  refine g_bipush (pc := 4) hC kb_49 d_Mo_lotOf_4 ?_
  obtain ⟨q6, hq6, h⟩ := Option.bind_eq_some_iff.mp h
  refine g_si (pc := 6) hC (As := [.int (S.1 0 58), .int 49]) (st := []) mt_Mo_mixed lk_Mo_371 (Nat.le_of_ble_eq_true rfl) ⟨Nat.le_of_ble_eq_true rfl, Nat.le_of_ble_eq_true rfl⟩ rfl d_Mo_lotOf_6 (c_Mo_mixed (IsM.ok hV) hq6) ?_
  refine g_sipush (pc := 9) hC ks_128 d_Mo_lotOf_9 ?_
  refine g_aload_n (pc := 12) hC (i := 0) (x := (V.2.2.1 0 0)) rfl rfl d_Mo_lotOf_12 ?_
  refine g_getA (pc := 13) hC fo_Mo_137 (ob_Mo hV) rfl d_Mo_lotOf_13 ?_
  refine g_bipush (pc := 16) hC kb_35 d_Mo_lotOf_16 ?_
  refine g_iald (pc := 18) hC (ar_Mo_57 hV) d_Mo_lotOf_18 h (fun h => ?_)
  refine g_imul (pc := 19) hC d_Mo_lotOf_19 ?_
  refine g_bipush (pc := 20) hC kb_8 d_Mo_lotOf_20 ?_
  refine g_iload_n (pc := 22) hC (i := 1) (x := x1) rfl rfl d_Mo_lotOf_22 ?_
  refine g_imul (pc := 23) hC d_Mo_lotOf_23 ?_
  refine g_iadd (pc := 24) hC d_Mo_lotOf_24 ?_
  refine g_iload_n (pc := 25) hC (i := 2) (x := x2) rfl rfl d_Mo_lotOf_25 ?_
  refine g_iadd (pc := 26) hC d_Mo_lotOf_26 ?_
  obtain ⟨q27, hq27, h⟩ := Option.bind_eq_some_iff.mp h
  refine g_si (pc := 27) hC (As := [.int q6, .int (((128 * (S.2.1 0 57 (35 : Int32).toNatClampNeg)) + (8 * x1)) + x2)]) (st := []) mt_Mo_mixed lk_Mo_371 (Nat.le_of_ble_eq_true rfl) ⟨Nat.le_of_ble_eq_true rfl, Nat.le_of_ble_eq_true rfl⟩ rfl d_Mo_lotOf_27 (c_Mo_mixed (IsM.ok hV) hq27) ?_
  refine g_iconst (pc := 30) hC kc_1 d_Mo_lotOf_30 ?_
  refine g_iushr (pc := 31) hC d_Mo_lotOf_31 ?_
  refine g_bipush (pc := 32) hC kb_100 d_Mo_lotOf_32 ?_
  refine g_irem (pc := 34) hC d_Mo_lotOf_34 h (fun h => ?_)
  exact g_iN (pc := 35) hC rfl d_Mo_lotOf_35 h
theorem c_Mo_lotOf {V : WV} {l : Launch} (hV : IsM V) {x1 : Int32} {x2 : Int32} {S : Mem} {z : Int32} (h : f_Mo_lotOf x1 x2 S = some z) : CI V l y_Mo_lotOf bc_Mo_lotOf 3 (some .int) 1 22 [.ref (V.2.2.1 0 0), .int x1, .int x2] S z S :=
  ct_i rfl (IsM.ok hV) (Nat.le_of_ble_eq_true rfl) (fun _ _ hC => w_Mo_lotOf_b0 hV hC x1 x2 h)
def f_Mo_held_b0 (x0 : Int32) (x1 : Int32) : Option (Int32) :=
  if 0 ≤ x0 then
    if x0 ≤ x1 then
      some x0
    else
      some x1
  else
    some 0
def f_Mo_held (x0 : Int32) (x1 : Int32) : Option (Int32) := f_Mo_held_b0  x0 x1
theorem d_Mo_held_0 : decode bc_Mo_held 0 = .ok (.iload_n 0, 1) := by decide +kernel
theorem d_Mo_held_1 : decode bc_Mo_held 1 = .ok (.ifCond .ge 7, 3) := by decide +kernel
theorem d_Mo_held_4 : decode bc_Mo_held 4 = .ok (.iconst 0, 1) := by decide +kernel
theorem d_Mo_held_5 : decode bc_Mo_held 5 = .ok (.goto 13, 3) := by decide +kernel
theorem d_Mo_held_8 : decode bc_Mo_held 8 = .ok (.iload_n 0, 1) := by decide +kernel
theorem d_Mo_held_9 : decode bc_Mo_held 9 = .ok (.iload_n 1, 1) := by decide +kernel
theorem d_Mo_held_10 : decode bc_Mo_held 10 = .ok (.if_icmp .le 7, 3) := by decide +kernel
theorem d_Mo_held_13 : decode bc_Mo_held 13 = .ok (.iload_n 1, 1) := by decide +kernel
theorem d_Mo_held_14 : decode bc_Mo_held 14 = .ok (.goto 4, 3) := by decide +kernel
theorem d_Mo_held_17 : decode bc_Mo_held 17 = .ok (.iload_n 0, 1) := by decide +kernel
theorem d_Mo_held_18 : decode bc_Mo_held 18 = .ok (.ireturn, 1) := by decide +kernel
set_option maxRecDepth 20000 in
theorem w_Mo_held_b0 {X : CX} {V : WV} (hVO : VOk V) {S : Mem} {z : Int32} (hC : Ck X V bc_Mo_held 2 "SecretWellsModel" (some .int) 0 0) (x0 : Int32) (x1 : Int32) (h : f_Mo_held_b0  x0 x1 = some z) : G X V 2 (QI X V z S) 0 [some (.int x0), some (.int x1)] [] S := by
  unfold f_Mo_held_b0 at h
  refine g_iload_n (pc := 0) hC (i := 0) (x := x0) rfl rfl d_Mo_held_0 ?_
  refine g_if_ge (pc := 1) hC (tgt := 8) (by decide) d_Mo_held_1 h (fun h => ?_) (fun h => ?_)
  · refine g_iload_n (pc := 8) hC (i := 0) (x := x0) rfl rfl d_Mo_held_8 ?_
    refine g_iload_n (pc := 9) hC (i := 1) (x := x1) rfl rfl d_Mo_held_9 ?_
    refine g_icmp_le (pc := 10) hC (tgt := 17) (by decide) d_Mo_held_10 h (fun h => ?_) (fun h => ?_)
    · refine g_iload_n (pc := 17) hC (i := 0) (x := x0) rfl rfl d_Mo_held_17 ?_
      exact g_iN (pc := 18) hC rfl d_Mo_held_18 h
    · refine g_iload_n (pc := 13) hC (i := 1) (x := x1) rfl rfl d_Mo_held_13 ?_
      refine g_goto (pc := 14) hC (tgt := 18) (by decide) d_Mo_held_14 ?_
      exact g_iN (pc := 18) hC rfl d_Mo_held_18 h
  · refine g_iconst (pc := 4) hC kc_0 d_Mo_held_4 ?_
    refine g_goto (pc := 5) hC (tgt := 18) (by decide) d_Mo_held_5 ?_
    exact g_iN (pc := 18) hC rfl d_Mo_held_18 h
theorem c_Mo_held {V : WV} {l : Launch} (hVO : VOk V) {x0 : Int32} {x1 : Int32} {S : Mem} {z : Int32} (h : f_Mo_held x0 x1 = some z) : CI V l y_Mo_held bc_Mo_held 2 (some .int) 0 0 [.int x0, .int x1] S z S :=
  ct_i rfl hVO (Nat.le_of_ble_eq_true rfl) (fun _ _ hC => w_Mo_held_b0 hVO hC x0 x1 h)
def f_Mo_asks_b128 (x3 : Int32) (x5 : Int32) (S : Mem) : Option (Int32 × Mem) :=
  gIn x5 260 (
  gIn x5 260 (
  Option.bind (f_Mo_termOf (S.2.1 0 46 x5.toNatClampNeg) (S.2.1 0 47 x5.toNatClampNeg) S) (fun q143 =>
  letS q143.1 (fun y146 =>
  if (q143.2.1 0 55) = 0 then
    Option.bind (f_Mo_held y146 x3) (fun q162 =>
    some (q162, q143.2))
  else
    some (0, q143.2)))))
def f_Mo_asks_b47 (k47 : Int32 → Int32 → Int32 → Mem → Option (Int32 × Mem)) (x3 : Int32) (x4 : Int32) (x5 : Int32) (S : Mem) : Option (Int32 × Mem) :=
  gIn x4 6 (
  if (S.2.1 0 41 x4.toNatClampNeg) ≤ x5 then
    some (0, S)
  else
    gIn x5 260 (
    if (S.2.1 0 43 x5.toNatClampNeg) = 0 then
      f_Mo_asks_b128 x3 x5 S
    else
      gIn x5 260 (
      gIn x5 260 (
      Option.bind (f_Mo_termOf (S.2.1 0 44 x5.toNatClampNeg) (S.2.1 0 45 x5.toNatClampNeg) S) (fun q84 =>
      letS q84.1 (fun y87 =>
      gIn x5 260 (
      gIn x5 260 (
      Option.bind (f_Mo_termOf (q84.2.2.1 0 45 x5.toNatClampNeg) (q84.2.2.1 0 46 x5.toNatClampNeg) q84.2) (fun q104 =>
      letS q104.1 (fun y107 =>
      if (q104.2.1 0 55) = 0 then
        if y87 < y107 then
          f_Mo_asks_b128 x3 x5 q104.2
        else
          k47 x3 x4 (x5 + 1) q104.2
      else
        some (0, q104.2)))))))))))
def f_Mo_asks_l47 : Nat → Int32 → Int32 → Int32 → Mem → Option (Int32 × Mem)
  | 0 => fun _ _ _ _ => none
  | n + 1 => f_Mo_asks_b47  (f_Mo_asks_l47  n)
def f_Mo_asks_b0 (x1 : Int32) (x2 : Int32) (x3 : Int32) (S : Mem) : Option (Int32 × Mem) :=
  letS ((3 * (S.1 0 18)) + x1) (fun y8 =>
  gIn y8 6 (
  gIn y8 6 (
  if (S.2.1 0 40 y8.toNatClampNeg) = (S.2.1 0 41 y8.toNatClampNeg) then
    Option.bind (f_Mo_held x2 x3) (fun q29 =>
    some (q29, S))
  else
    letS (pI S 0 55 0) (fun S35 =>
    gIn y8 6 (
    letS (S35.2.1 0 40 y8.toNatClampNeg) (fun y45 =>
    f_Mo_asks_l47 5000 x3 y8 y45 S35))))))
def f_Mo_asks (x1 : Int32) (x2 : Int32) (x3 : Int32) (S : Mem) : Option (Int32 × Mem) := f_Mo_asks_b0  x1 x2 x3 S
theorem d_Mo_asks_0 : decode bc_Mo_asks 0 = .ok (.iconst 3, 1) := by decide +kernel
theorem d_Mo_asks_1 : decode bc_Mo_asks 1 = .ok (.aload_n 0, 1) := by decide +kernel
theorem d_Mo_asks_2 : decode bc_Mo_asks 2 = .ok (.getfield 245, 3) := by decide +kernel
theorem d_Mo_asks_5 : decode bc_Mo_asks 5 = .ok (.imul, 1) := by decide +kernel
theorem d_Mo_asks_6 : decode bc_Mo_asks 6 = .ok (.iload_n 1, 1) := by decide +kernel
theorem d_Mo_asks_7 : decode bc_Mo_asks 7 = .ok (.iadd, 1) := by decide +kernel
theorem d_Mo_asks_8 : decode bc_Mo_asks 8 = .ok (.istore 4, 2) := by decide +kernel
theorem d_Mo_asks_10 : decode bc_Mo_asks 10 = .ok (.aload_n 0, 1) := by decide +kernel
theorem d_Mo_asks_11 : decode bc_Mo_asks 11 = .ok (.getfield 98, 3) := by decide +kernel
theorem d_Mo_asks_14 : decode bc_Mo_asks 14 = .ok (.iload 4, 2) := by decide +kernel
theorem d_Mo_asks_16 : decode bc_Mo_asks 16 = .ok (.iaload, 1) := by decide +kernel
theorem d_Mo_asks_17 : decode bc_Mo_asks 17 = .ok (.aload_n 0, 1) := by decide +kernel
theorem d_Mo_asks_18 : decode bc_Mo_asks 18 = .ok (.getfield 101, 3) := by decide +kernel
theorem d_Mo_asks_21 : decode bc_Mo_asks 21 = .ok (.iload 4, 2) := by decide +kernel
theorem d_Mo_asks_23 : decode bc_Mo_asks 23 = .ok (.iaload, 1) := by decide +kernel
theorem d_Mo_asks_24 : decode bc_Mo_asks 24 = .ok (.if_icmp .ne 9, 3) := by decide +kernel
theorem d_Mo_asks_27 : decode bc_Mo_asks 27 = .ok (.iload_n 2, 1) := by decide +kernel
theorem d_Mo_asks_28 : decode bc_Mo_asks 28 = .ok (.iload_n 3, 1) := by decide +kernel
theorem d_Mo_asks_29 : decode bc_Mo_asks 29 = .ok (.invokestatic 374, 3) := by decide +kernel
theorem d_Mo_asks_32 : decode bc_Mo_asks 32 = .ok (.ireturn, 1) := by decide +kernel
theorem d_Mo_asks_33 : decode bc_Mo_asks 33 = .ok (.aload_n 0, 1) := by decide +kernel
theorem d_Mo_asks_34 : decode bc_Mo_asks 34 = .ok (.iconst 0, 1) := by decide +kernel
theorem d_Mo_asks_35 : decode bc_Mo_asks 35 = .ok (.putfield 328, 3) := by decide +kernel
theorem d_Mo_asks_38 : decode bc_Mo_asks 38 = .ok (.aload_n 0, 1) := by decide +kernel
theorem d_Mo_asks_39 : decode bc_Mo_asks 39 = .ok (.getfield 98, 3) := by decide +kernel
theorem d_Mo_asks_42 : decode bc_Mo_asks 42 = .ok (.iload 4, 2) := by decide +kernel
theorem d_Mo_asks_44 : decode bc_Mo_asks 44 = .ok (.iaload, 1) := by decide +kernel
theorem d_Mo_asks_45 : decode bc_Mo_asks 45 = .ok (.istore 5, 2) := by decide +kernel
theorem d_Mo_asks_47 : decode bc_Mo_asks 47 = .ok (.iload 5, 2) := by decide +kernel
theorem d_Mo_asks_49 : decode bc_Mo_asks 49 = .ok (.aload_n 0, 1) := by decide +kernel
theorem d_Mo_asks_50 : decode bc_Mo_asks 50 = .ok (.getfield 101, 3) := by decide +kernel
theorem d_Mo_asks_53 : decode bc_Mo_asks 53 = .ok (.iload 4, 2) := by decide +kernel
theorem d_Mo_asks_55 : decode bc_Mo_asks 55 = .ok (.iaload, 1) := by decide +kernel
theorem d_Mo_asks_56 : decode bc_Mo_asks 56 = .ok (.if_icmp .ge 116, 3) := by decide +kernel
theorem d_Mo_asks_59 : decode bc_Mo_asks 59 = .ok (.aload_n 0, 1) := by decide +kernel
theorem d_Mo_asks_60 : decode bc_Mo_asks 60 = .ok (.getfield 104, 3) := by decide +kernel
theorem d_Mo_asks_63 : decode bc_Mo_asks 63 = .ok (.iload 5, 2) := by decide +kernel
theorem d_Mo_asks_65 : decode bc_Mo_asks 65 = .ok (.baload, 1) := by decide +kernel
theorem d_Mo_asks_66 : decode bc_Mo_asks 66 = .ok (.ifCond .eq 62, 3) := by decide +kernel
theorem d_Mo_asks_69 : decode bc_Mo_asks 69 = .ok (.aload_n 0, 1) := by decide +kernel
theorem d_Mo_asks_70 : decode bc_Mo_asks 70 = .ok (.aload_n 0, 1) := by decide +kernel
theorem d_Mo_asks_71 : decode bc_Mo_asks 71 = .ok (.getfield 107, 3) := by decide +kernel
theorem d_Mo_asks_74 : decode bc_Mo_asks 74 = .ok (.iload 5, 2) := by decide +kernel
theorem d_Mo_asks_76 : decode bc_Mo_asks 76 = .ok (.iaload, 1) := by decide +kernel
theorem d_Mo_asks_77 : decode bc_Mo_asks 77 = .ok (.aload_n 0, 1) := by decide +kernel
theorem d_Mo_asks_78 : decode bc_Mo_asks 78 = .ok (.getfield 110, 3) := by decide +kernel
theorem d_Mo_asks_81 : decode bc_Mo_asks 81 = .ok (.iload 5, 2) := by decide +kernel
theorem d_Mo_asks_83 : decode bc_Mo_asks 83 = .ok (.iaload, 1) := by decide +kernel
theorem d_Mo_asks_84 : decode bc_Mo_asks 84 = .ok (.invokevirtual 377, 3) := by decide +kernel
theorem d_Mo_asks_87 : decode bc_Mo_asks 87 = .ok (.istore 6, 2) := by decide +kernel
theorem d_Mo_asks_89 : decode bc_Mo_asks 89 = .ok (.aload_n 0, 1) := by decide +kernel
theorem d_Mo_asks_90 : decode bc_Mo_asks 90 = .ok (.aload_n 0, 1) := by decide +kernel
theorem d_Mo_asks_91 : decode bc_Mo_asks 91 = .ok (.getfield 110, 3) := by decide +kernel
theorem d_Mo_asks_94 : decode bc_Mo_asks 94 = .ok (.iload 5, 2) := by decide +kernel
theorem d_Mo_asks_96 : decode bc_Mo_asks 96 = .ok (.iaload, 1) := by decide +kernel
theorem d_Mo_asks_97 : decode bc_Mo_asks 97 = .ok (.aload_n 0, 1) := by decide +kernel
theorem d_Mo_asks_98 : decode bc_Mo_asks 98 = .ok (.getfield 113, 3) := by decide +kernel
theorem d_Mo_asks_101 : decode bc_Mo_asks 101 = .ok (.iload 5, 2) := by decide +kernel
theorem d_Mo_asks_103 : decode bc_Mo_asks 103 = .ok (.iaload, 1) := by decide +kernel
theorem d_Mo_asks_104 : decode bc_Mo_asks 104 = .ok (.invokevirtual 377, 3) := by decide +kernel
theorem d_Mo_asks_107 : decode bc_Mo_asks 107 = .ok (.istore 7, 2) := by decide +kernel
theorem d_Mo_asks_109 : decode bc_Mo_asks 109 = .ok (.aload_n 0, 1) := by decide +kernel
theorem d_Mo_asks_110 : decode bc_Mo_asks 110 = .ok (.getfield 328, 3) := by decide +kernel
theorem d_Mo_asks_113 : decode bc_Mo_asks 113 = .ok (.ifCond .eq 5, 3) := by decide +kernel
theorem d_Mo_asks_116 : decode bc_Mo_asks 116 = .ok (.iconst 0, 1) := by decide +kernel
theorem d_Mo_asks_117 : decode bc_Mo_asks 117 = .ok (.ireturn, 1) := by decide +kernel
theorem d_Mo_asks_118 : decode bc_Mo_asks 118 = .ok (.iload 6, 2) := by decide +kernel
theorem d_Mo_asks_120 : decode bc_Mo_asks 120 = .ok (.iload 7, 2) := by decide +kernel
theorem d_Mo_asks_122 : decode bc_Mo_asks 122 = .ok (.if_icmp .lt 6, 3) := by decide +kernel
theorem d_Mo_asks_125 : decode bc_Mo_asks 125 = .ok (.goto 41, 3) := by decide +kernel
theorem d_Mo_asks_128 : decode bc_Mo_asks 128 = .ok (.aload_n 0, 1) := by decide +kernel
theorem d_Mo_asks_129 : decode bc_Mo_asks 129 = .ok (.aload_n 0, 1) := by decide +kernel
theorem d_Mo_asks_130 : decode bc_Mo_asks 130 = .ok (.getfield 113, 3) := by decide +kernel
theorem d_Mo_asks_133 : decode bc_Mo_asks 133 = .ok (.iload 5, 2) := by decide +kernel
theorem d_Mo_asks_135 : decode bc_Mo_asks 135 = .ok (.iaload, 1) := by decide +kernel
theorem d_Mo_asks_136 : decode bc_Mo_asks 136 = .ok (.aload_n 0, 1) := by decide +kernel
theorem d_Mo_asks_137 : decode bc_Mo_asks 137 = .ok (.getfield 116, 3) := by decide +kernel
theorem d_Mo_asks_140 : decode bc_Mo_asks 140 = .ok (.iload 5, 2) := by decide +kernel
theorem d_Mo_asks_142 : decode bc_Mo_asks 142 = .ok (.iaload, 1) := by decide +kernel
theorem d_Mo_asks_143 : decode bc_Mo_asks 143 = .ok (.invokevirtual 377, 3) := by decide +kernel
theorem d_Mo_asks_146 : decode bc_Mo_asks 146 = .ok (.istore 6, 2) := by decide +kernel
theorem d_Mo_asks_148 : decode bc_Mo_asks 148 = .ok (.aload_n 0, 1) := by decide +kernel
theorem d_Mo_asks_149 : decode bc_Mo_asks 149 = .ok (.getfield 328, 3) := by decide +kernel
theorem d_Mo_asks_152 : decode bc_Mo_asks 152 = .ok (.ifCond .eq 7, 3) := by decide +kernel
theorem d_Mo_asks_155 : decode bc_Mo_asks 155 = .ok (.iconst 0, 1) := by decide +kernel
theorem d_Mo_asks_156 : decode bc_Mo_asks 156 = .ok (.goto 9, 3) := by decide +kernel
theorem d_Mo_asks_159 : decode bc_Mo_asks 159 = .ok (.iload 6, 2) := by decide +kernel
theorem d_Mo_asks_161 : decode bc_Mo_asks 161 = .ok (.iload_n 3, 1) := by decide +kernel
theorem d_Mo_asks_162 : decode bc_Mo_asks 162 = .ok (.invokestatic 374, 3) := by decide +kernel
theorem d_Mo_asks_165 : decode bc_Mo_asks 165 = .ok (.ireturn, 1) := by decide +kernel
theorem d_Mo_asks_166 : decode bc_Mo_asks 166 = .ok (.iinc 5 1, 3) := by decide +kernel
theorem d_Mo_asks_169 : decode bc_Mo_asks 169 = .ok (.goto (-122), 3) := by decide +kernel
theorem d_Mo_asks_172 : decode bc_Mo_asks 172 = .ok (.iconst 0, 1) := by decide +kernel
theorem d_Mo_asks_173 : decode bc_Mo_asks 173 = .ok (.ireturn, 1) := by decide +kernel
set_option maxRecDepth 20000 in
theorem w_Mo_asks_b128 {X : CX} {V : WV} (hV : IsM V) {z : Int32 × Mem} (hC : Ck X V bc_Mo_asks 8 "SecretWellsModel" (some .int) 1 27) (x3 : Int32) (x5 : Int32) (S : Mem) (h : f_Mo_asks_b128  x3 x5 S = some z) : G X V 8 (QI X V z.1 z.2) 128 [some (.ref (V.2.2.1 0 0)), none, none, some (.int x3), none, some (.int x5), none, none] [] S := by
  unfold f_Mo_asks_b128 at h
  refine g_aload_n (pc := 128) hC (i := 0) (x := (V.2.2.1 0 0)) rfl rfl d_Mo_asks_128 ?_
  refine g_aload_n (pc := 129) hC (i := 0) (x := (V.2.2.1 0 0)) rfl rfl d_Mo_asks_129 ?_
  refine g_getA (pc := 130) hC fo_Mo_113 (ob_Mo hV) rfl d_Mo_asks_130 ?_
  refine g_iload (pc := 133) hC (i := 5) (x := x5) rfl d_Mo_asks_133 ?_
  refine g_iald (pc := 135) hC (ar_Mo_46 hV) d_Mo_asks_135 h (fun h => ?_)
  refine g_aload_n (pc := 136) hC (i := 0) (x := (V.2.2.1 0 0)) rfl rfl d_Mo_asks_136 ?_
  refine g_getA (pc := 137) hC fo_Mo_116 (ob_Mo hV) rfl d_Mo_asks_137 ?_
  refine g_iload (pc := 140) hC (i := 5) (x := x5) rfl d_Mo_asks_140 ?_
  refine g_iald (pc := 142) hC (ar_Mo_47 hV) d_Mo_asks_142 h (fun h => ?_)
  obtain ⟨q143, hq143, h⟩ := Option.bind_eq_some_iff.mp h
  refine g_vi (pc := 143) hC (As := [.int (S.2.1 0 46 x5.toNatClampNeg), .int (S.2.1 0 47 x5.toNatClampNeg)]) (st := []) mt_Mo_termOf lk_Mo_377 rfl (ob_Mo hV) (Nat.le_of_ble_eq_true rfl) ⟨Nat.le_of_ble_eq_true rfl, Nat.le_of_ble_eq_true rfl⟩ rfl d_Mo_asks_143 (c_Mo_termOf hV hq143) ?_
  refine g_leti h (fun y146 h => ?_)
  refine s_istore (pc := 146) hC (i := 6) (by decide) d_Mo_asks_146 (lv2 := [some (.ref (V.2.2.1 0 0)), none, none, some (.int x3), none, some (.int x5), some (.int y146), none]) rfl ?_
  refine g_aload_n (pc := 148) hC (i := 0) (x := (V.2.2.1 0 0)) rfl rfl d_Mo_asks_148 ?_
  refine g_getI (pc := 149) hC fo_Mo_328 (ob_Mo hV) rfl d_Mo_asks_149 ?_
  refine g_if_eq (pc := 152) hC (tgt := 159) (by decide) d_Mo_asks_152 h (fun h => ?_) (fun h => ?_)
  · refine g_iload (pc := 159) hC (i := 6) (x := y146) rfl d_Mo_asks_159 ?_
    refine g_iload_n (pc := 161) hC (i := 3) (x := x3) rfl rfl d_Mo_asks_161 ?_
    obtain ⟨q162, hq162, h⟩ := Option.bind_eq_some_iff.mp h
    refine g_si (pc := 162) hC (As := [.int y146, .int x3]) (st := []) mt_Mo_held lk_Mo_374 (Nat.le_of_ble_eq_true rfl) ⟨Nat.le_of_ble_eq_true rfl, Nat.le_of_ble_eq_true rfl⟩ rfl d_Mo_asks_162 (c_Mo_held (IsM.ok hV) hq162) ?_
    exact g_iW (pc := 165) hC rfl d_Mo_asks_165 h
  · refine g_iconst (pc := 155) hC kc_0 d_Mo_asks_155 ?_
    refine g_goto (pc := 156) hC (tgt := 165) (by decide) d_Mo_asks_156 ?_
    exact g_iW (pc := 165) hC rfl d_Mo_asks_165 h
set_option maxRecDepth 20000 in
theorem w_Mo_asks_b47 {X : CX} {V : WV} (hV : IsM V) {z : Int32 × Mem} (hC : Ck X V bc_Mo_asks 8 "SecretWellsModel" (some .int) 1 27) (k47 : Int32 → Int32 → Int32 → Mem → Option (Int32 × Mem)) (hk47 : ∀ (x3 : Int32) (x4 : Int32) (x5 : Int32) (S : Mem), k47 x3 x4 x5 S = some z → G X V 8 (QI X V z.1 z.2) 47 [some (.ref (V.2.2.1 0 0)), none, none, some (.int x3), some (.int x4), some (.int x5), none, none] [] S) (x3 : Int32) (x4 : Int32) (x5 : Int32) (S : Mem) (h : f_Mo_asks_b47  k47 x3 x4 x5 S = some z) : G X V 8 (QI X V z.1 z.2) 47 [some (.ref (V.2.2.1 0 0)), none, none, some (.int x3), some (.int x4), some (.int x5), none, none] [] S := by
  unfold f_Mo_asks_b47 at h
  refine g_iload (pc := 47) hC (i := 5) (x := x5) rfl d_Mo_asks_47 ?_
  refine g_aload_n (pc := 49) hC (i := 0) (x := (V.2.2.1 0 0)) rfl rfl d_Mo_asks_49 ?_
  refine g_getA (pc := 50) hC fo_Mo_101 (ob_Mo hV) rfl d_Mo_asks_50 ?_
  refine g_iload (pc := 53) hC (i := 4) (x := x4) rfl d_Mo_asks_53 ?_
  refine g_iald (pc := 55) hC (ar_Mo_41 hV) d_Mo_asks_55 h (fun h => ?_)
  refine g_icmp_ge (pc := 56) hC (tgt := 172) (by decide) d_Mo_asks_56 h (fun h => ?_) (fun h => ?_)
  · refine g_iconst (pc := 172) hC kc_0 d_Mo_asks_172 ?_
    exact g_iW (pc := 173) hC rfl d_Mo_asks_173 h
  · refine g_aload_n (pc := 59) hC (i := 0) (x := (V.2.2.1 0 0)) rfl rfl d_Mo_asks_59 ?_
    refine g_getA (pc := 60) hC fo_Mo_104 (ob_Mo hV) rfl d_Mo_asks_60 ?_
    refine g_iload (pc := 63) hC (i := 5) (x := x5) rfl d_Mo_asks_63 ?_
    refine g_zald (pc := 65) hC (ar_Mo_43 hV) d_Mo_asks_65 h (fun h => ?_)
    refine g_if_eq (pc := 66) hC (tgt := 128) (by decide) d_Mo_asks_66 h (fun h => ?_) (fun h => ?_)
    · refine g_le (lv2 := [some (.ref (V.2.2.1 0 0)), none, none, some (.int x3), none, some (.int x5), none, none]) (⟨rfl, ⟨rfl, ⟨rfl, trivial⟩⟩⟩) ?_
      exact w_Mo_asks_b128 hV hC x3 x5 S h
    · refine g_aload_n (pc := 69) hC (i := 0) (x := (V.2.2.1 0 0)) rfl rfl d_Mo_asks_69 ?_
      refine g_aload_n (pc := 70) hC (i := 0) (x := (V.2.2.1 0 0)) rfl rfl d_Mo_asks_70 ?_
      refine g_getA (pc := 71) hC fo_Mo_107 (ob_Mo hV) rfl d_Mo_asks_71 ?_
      refine g_iload (pc := 74) hC (i := 5) (x := x5) rfl d_Mo_asks_74 ?_
      refine g_iald (pc := 76) hC (ar_Mo_44 hV) d_Mo_asks_76 h (fun h => ?_)
      refine g_aload_n (pc := 77) hC (i := 0) (x := (V.2.2.1 0 0)) rfl rfl d_Mo_asks_77 ?_
      refine g_getA (pc := 78) hC fo_Mo_110 (ob_Mo hV) rfl d_Mo_asks_78 ?_
      refine g_iload (pc := 81) hC (i := 5) (x := x5) rfl d_Mo_asks_81 ?_
      refine g_iald (pc := 83) hC (ar_Mo_45 hV) d_Mo_asks_83 h (fun h => ?_)
      obtain ⟨q84, hq84, h⟩ := Option.bind_eq_some_iff.mp h
      refine g_vi (pc := 84) hC (As := [.int (S.2.1 0 44 x5.toNatClampNeg), .int (S.2.1 0 45 x5.toNatClampNeg)]) (st := []) mt_Mo_termOf lk_Mo_377 rfl (ob_Mo hV) (Nat.le_of_ble_eq_true rfl) ⟨Nat.le_of_ble_eq_true rfl, Nat.le_of_ble_eq_true rfl⟩ rfl d_Mo_asks_84 (c_Mo_termOf hV hq84) ?_
      refine g_leti h (fun y87 h => ?_)
      refine s_istore (pc := 87) hC (i := 6) (by decide) d_Mo_asks_87 (lv2 := [some (.ref (V.2.2.1 0 0)), none, none, some (.int x3), some (.int x4), some (.int x5), some (.int y87), none]) rfl ?_
      refine g_aload_n (pc := 89) hC (i := 0) (x := (V.2.2.1 0 0)) rfl rfl d_Mo_asks_89 ?_
      refine g_aload_n (pc := 90) hC (i := 0) (x := (V.2.2.1 0 0)) rfl rfl d_Mo_asks_90 ?_
      refine g_getA (pc := 91) hC fo_Mo_110 (ob_Mo hV) rfl d_Mo_asks_91 ?_
      refine g_iload (pc := 94) hC (i := 5) (x := x5) rfl d_Mo_asks_94 ?_
      refine g_iald (pc := 96) hC (ar_Mo_45 hV) d_Mo_asks_96 h (fun h => ?_)
      refine g_aload_n (pc := 97) hC (i := 0) (x := (V.2.2.1 0 0)) rfl rfl d_Mo_asks_97 ?_
      refine g_getA (pc := 98) hC fo_Mo_113 (ob_Mo hV) rfl d_Mo_asks_98 ?_
      refine g_iload (pc := 101) hC (i := 5) (x := x5) rfl d_Mo_asks_101 ?_
      refine g_iald (pc := 103) hC (ar_Mo_46 hV) d_Mo_asks_103 h (fun h => ?_)
      obtain ⟨q104, hq104, h⟩ := Option.bind_eq_some_iff.mp h
      refine g_vi (pc := 104) hC (As := [.int (q84.2.2.1 0 45 x5.toNatClampNeg), .int (q84.2.2.1 0 46 x5.toNatClampNeg)]) (st := []) mt_Mo_termOf lk_Mo_377 rfl (ob_Mo hV) (Nat.le_of_ble_eq_true rfl) ⟨Nat.le_of_ble_eq_true rfl, Nat.le_of_ble_eq_true rfl⟩ rfl d_Mo_asks_104 (c_Mo_termOf hV hq104) ?_
      refine g_leti h (fun y107 h => ?_)
      refine s_istore (pc := 107) hC (i := 7) (by decide) d_Mo_asks_107 (lv2 := [some (.ref (V.2.2.1 0 0)), none, none, some (.int x3), some (.int x4), some (.int x5), some (.int y87), some (.int y107)]) rfl ?_
      refine g_aload_n (pc := 109) hC (i := 0) (x := (V.2.2.1 0 0)) rfl rfl d_Mo_asks_109 ?_
      refine g_getI (pc := 110) hC fo_Mo_328 (ob_Mo hV) rfl d_Mo_asks_110 ?_
      refine g_if_eq (pc := 113) hC (tgt := 118) (by decide) d_Mo_asks_113 h (fun h => ?_) (fun h => ?_)
      · refine g_iload (pc := 118) hC (i := 6) (x := y87) rfl d_Mo_asks_118 ?_
        refine g_iload (pc := 120) hC (i := 7) (x := y107) rfl d_Mo_asks_120 ?_
        refine g_icmp_lt (pc := 122) hC (tgt := 128) (by decide) d_Mo_asks_122 h (fun h => ?_) (fun h => ?_)
        · refine g_le (lv2 := [some (.ref (V.2.2.1 0 0)), none, none, some (.int x3), none, some (.int x5), none, none]) (⟨rfl, ⟨rfl, ⟨rfl, trivial⟩⟩⟩) ?_
          exact w_Mo_asks_b128 hV hC x3 x5 q104.2 h
        · refine g_goto (pc := 125) hC (tgt := 166) (by decide) d_Mo_asks_125 ?_
          refine s_iinc (pc := 166) hC (i := 5) (x := x5) (v := x5 + 1) rfl (by rw [kc_1]) (by decide) d_Mo_asks_166 (lv2 := [some (.ref (V.2.2.1 0 0)), none, none, some (.int x3), some (.int x4), some (.int (x5 + 1)), some (.int y87), some (.int y107)]) rfl ?_
          refine g_goto (pc := 169) hC (tgt := 47) (by decide) d_Mo_asks_169 ?_
          refine g_le (lv2 := [some (.ref (V.2.2.1 0 0)), none, none, some (.int x3), some (.int x4), some (.int (x5 + 1)), none, none]) (⟨rfl, ⟨rfl, ⟨rfl, ⟨rfl, trivial⟩⟩⟩⟩) ?_
          exact hk47 x3 x4 (x5 + 1) q104.2 h
      · refine g_iconst (pc := 116) hC kc_0 d_Mo_asks_116 ?_
        exact g_iW (pc := 117) hC rfl d_Mo_asks_117 h
theorem w_Mo_asks_l47 {X : CX} {V : WV} (hV : IsM V) {z : Int32 × Mem} (hC : Ck X V bc_Mo_asks 8 "SecretWellsModel" (some .int) 1 27) : ∀ (n : Nat) (x3 : Int32) (x4 : Int32) (x5 : Int32) (S : Mem), f_Mo_asks_l47  n x3 x4 x5 S = some z → G X V 8 (QI X V z.1 z.2) 47 [some (.ref (V.2.2.1 0 0)), none, none, some (.int x3), some (.int x4), some (.int x5), none, none] [] S := by
  intro n
  induction n with
  | zero =>
    intro x3 x4 x5 S h
    have h : (none : Option (Int32 × Mem)) = some z := h
    cases h
  | succ n ih =>
    intro x3 x4 x5 S h
    exact w_Mo_asks_b47 hV hC (f_Mo_asks_l47  n) ih x3 x4 x5 S h
set_option maxRecDepth 20000 in
theorem w_Mo_asks_b0 {X : CX} {V : WV} (hV : IsM V) {z : Int32 × Mem} (hC : Ck X V bc_Mo_asks 8 "SecretWellsModel" (some .int) 1 27) (x1 : Int32) (x2 : Int32) (x3 : Int32) (S : Mem) (h : f_Mo_asks_b0  x1 x2 x3 S = some z) : G X V 8 (QI X V z.1 z.2) 0 [some (.ref (V.2.2.1 0 0)), some (.int x1), some (.int x2), some (.int x3), none, none, none, none] [] S := by
  unfold f_Mo_asks_b0 at h
  refine g_iconst (pc := 0) hC kc_3 d_Mo_asks_0 ?_
  refine g_aload_n (pc := 1) hC (i := 0) (x := (V.2.2.1 0 0)) rfl rfl d_Mo_asks_1 ?_
  refine g_getI (pc := 2) hC fo_Mo_245 (ob_Mo hV) rfl d_Mo_asks_2 ?_
  refine g_imul (pc := 5) hC d_Mo_asks_5 ?_
  refine g_iload_n (pc := 6) hC (i := 1) (x := x1) rfl rfl d_Mo_asks_6 ?_
  refine g_iadd (pc := 7) hC d_Mo_asks_7 ?_
  refine g_leti h (fun y8 h => ?_)
  refine s_istore (pc := 8) hC (i := 4) (by decide) d_Mo_asks_8 (lv2 := [some (.ref (V.2.2.1 0 0)), some (.int x1), some (.int x2), some (.int x3), some (.int y8), none, none, none]) rfl ?_
  refine g_aload_n (pc := 10) hC (i := 0) (x := (V.2.2.1 0 0)) rfl rfl d_Mo_asks_10 ?_
  refine g_getA (pc := 11) hC fo_Mo_98 (ob_Mo hV) rfl d_Mo_asks_11 ?_
  refine g_iload (pc := 14) hC (i := 4) (x := y8) rfl d_Mo_asks_14 ?_
  refine g_iald (pc := 16) hC (ar_Mo_40 hV) d_Mo_asks_16 h (fun h => ?_)
  refine g_aload_n (pc := 17) hC (i := 0) (x := (V.2.2.1 0 0)) rfl rfl d_Mo_asks_17 ?_
  refine g_getA (pc := 18) hC fo_Mo_101 (ob_Mo hV) rfl d_Mo_asks_18 ?_
  refine g_iload (pc := 21) hC (i := 4) (x := y8) rfl d_Mo_asks_21 ?_
  refine g_iald (pc := 23) hC (ar_Mo_41 hV) d_Mo_asks_23 h (fun h => ?_)
  refine g_icmp_ne (pc := 24) hC (tgt := 33) (by decide) d_Mo_asks_24 h (fun h => ?_) (fun h => ?_)
  · refine g_aload_n (pc := 33) hC (i := 0) (x := (V.2.2.1 0 0)) rfl rfl d_Mo_asks_33 ?_
    refine g_iconst (pc := 34) hC kc_0 d_Mo_asks_34 ?_
    refine g_putI (pc := 35) hC po_Mo_328 (ob_Mo hV) rfl rfl rfl d_Mo_asks_35 ?_
    refine g_letS h (fun S35 h => ?_)
    refine g_aload_n (pc := 38) hC (i := 0) (x := (V.2.2.1 0 0)) rfl rfl d_Mo_asks_38 ?_
    refine g_getA (pc := 39) hC fo_Mo_98 (ob_Mo hV) rfl d_Mo_asks_39 ?_
    refine g_iload (pc := 42) hC (i := 4) (x := y8) rfl d_Mo_asks_42 ?_
    refine g_iald (pc := 44) hC (ar_Mo_40 hV) d_Mo_asks_44 h (fun h => ?_)
    refine g_leti h (fun y45 h => ?_)
    refine s_istore (pc := 45) hC (i := 5) (by decide) d_Mo_asks_45 (lv2 := [some (.ref (V.2.2.1 0 0)), some (.int x1), some (.int x2), some (.int x3), some (.int y8), some (.int y45), none, none]) rfl ?_
    refine g_le (lv2 := [some (.ref (V.2.2.1 0 0)), none, none, some (.int x3), some (.int y8), some (.int y45), none, none]) (⟨rfl, ⟨rfl, ⟨rfl, ⟨rfl, trivial⟩⟩⟩⟩) ?_
    exact w_Mo_asks_l47 hV hC 5000 x3 y8 y45 S35 h
  · refine g_iload_n (pc := 27) hC (i := 2) (x := x2) rfl rfl d_Mo_asks_27 ?_
    refine g_iload_n (pc := 28) hC (i := 3) (x := x3) rfl rfl d_Mo_asks_28 ?_
    obtain ⟨q29, hq29, h⟩ := Option.bind_eq_some_iff.mp h
    refine g_si (pc := 29) hC (As := [.int x2, .int x3]) (st := []) mt_Mo_held lk_Mo_374 (Nat.le_of_ble_eq_true rfl) ⟨Nat.le_of_ble_eq_true rfl, Nat.le_of_ble_eq_true rfl⟩ rfl d_Mo_asks_29 (c_Mo_held (IsM.ok hV) hq29) ?_
    exact g_iW (pc := 32) hC rfl d_Mo_asks_32 h
theorem c_Mo_asks {V : WV} {l : Launch} (hV : IsM V) {x1 : Int32} {x2 : Int32} {x3 : Int32} {S : Mem} {z : Int32 × Mem} (h : f_Mo_asks x1 x2 x3 S = some z) : CI V l y_Mo_asks bc_Mo_asks 8 (some .int) 1 27 [.ref (V.2.2.1 0 0), .int x1, .int x2, .int x3] S z.1 z.2 :=
  ct_i rfl (IsM.ok hV) (Nat.le_of_ble_eq_true rfl) (fun _ _ hC => w_Mo_asks_b0 hV hC x1 x2 x3 S h)
def f_Mo_setsWell_b0 (x1 : Int32) (S : Mem) : Option (Mem) :=
  gIn 35 40 (
  gIn 0 8 (letS (sA S 0 53 0 (S.2.1 0 57 (35 : Int32).toNatClampNeg)) (fun S12 =>
  Option.bind (f_Mo_deepOf x1 S12) (fun q20 =>
  gIn 1 8 (letS (sA S12 0 53 1 q20) (fun S23 =>
  gIn x1 40 (
  gIn 2 8 (letS (sA S23 0 53 2 (S23.2.1 0 57 x1.toNatClampNeg)) (fun S35 =>
  Option.bind (f_Mo_drinkersOf x1 S35) (fun q44 =>
  Option.bind (f_Mo_bits q44) (fun q47 =>
  gIn 6 8 (letS (sA S35 0 53 6 q47) (fun S50 =>
  gIn 3 8 (letS (sA S50 0 53 3 0) (fun S57 =>
  gIn 5 8 (letS (sA S57 0 53 5 0) (fun S64 =>
  some S64)))))))))))))))))
def f_Mo_setsWell (x1 : Int32) (S : Mem) : Option (Mem) := f_Mo_setsWell_b0  x1 S
theorem d_Mo_setsWell_0 : decode bc_Mo_setsWell 0 = .ok (.aload_n 0, 1) := by decide +kernel
theorem d_Mo_setsWell_1 : decode bc_Mo_setsWell 1 = .ok (.getfield 128, 3) := by decide +kernel
theorem d_Mo_setsWell_4 : decode bc_Mo_setsWell 4 = .ok (.iconst 0, 1) := by decide +kernel
theorem d_Mo_setsWell_5 : decode bc_Mo_setsWell 5 = .ok (.aload_n 0, 1) := by decide +kernel
theorem d_Mo_setsWell_6 : decode bc_Mo_setsWell 6 = .ok (.getfield 137, 3) := by decide +kernel
theorem d_Mo_setsWell_9 : decode bc_Mo_setsWell 9 = .ok (.bipush 35, 2) := by decide +kernel
theorem d_Mo_setsWell_11 : decode bc_Mo_setsWell 11 = .ok (.iaload, 1) := by decide +kernel
theorem d_Mo_setsWell_12 : decode bc_Mo_setsWell 12 = .ok (.iastore, 1) := by decide +kernel
theorem d_Mo_setsWell_13 : decode bc_Mo_setsWell 13 = .ok (.aload_n 0, 1) := by decide +kernel
theorem d_Mo_setsWell_14 : decode bc_Mo_setsWell 14 = .ok (.getfield 128, 3) := by decide +kernel
theorem d_Mo_setsWell_17 : decode bc_Mo_setsWell 17 = .ok (.iconst 1, 1) := by decide +kernel
theorem d_Mo_setsWell_18 : decode bc_Mo_setsWell 18 = .ok (.aload_n 0, 1) := by decide +kernel
theorem d_Mo_setsWell_19 : decode bc_Mo_setsWell 19 = .ok (.iload_n 1, 1) := by decide +kernel
theorem d_Mo_setsWell_20 : decode bc_Mo_setsWell 20 = .ok (.invokevirtual 364, 3) := by decide +kernel
theorem d_Mo_setsWell_23 : decode bc_Mo_setsWell 23 = .ok (.iastore, 1) := by decide +kernel
theorem d_Mo_setsWell_24 : decode bc_Mo_setsWell 24 = .ok (.aload_n 0, 1) := by decide +kernel
theorem d_Mo_setsWell_25 : decode bc_Mo_setsWell 25 = .ok (.getfield 128, 3) := by decide +kernel
theorem d_Mo_setsWell_28 : decode bc_Mo_setsWell 28 = .ok (.iconst 2, 1) := by decide +kernel
theorem d_Mo_setsWell_29 : decode bc_Mo_setsWell 29 = .ok (.aload_n 0, 1) := by decide +kernel
theorem d_Mo_setsWell_30 : decode bc_Mo_setsWell 30 = .ok (.getfield 137, 3) := by decide +kernel
theorem d_Mo_setsWell_33 : decode bc_Mo_setsWell 33 = .ok (.iload_n 1, 1) := by decide +kernel
theorem d_Mo_setsWell_34 : decode bc_Mo_setsWell 34 = .ok (.iaload, 1) := by decide +kernel
theorem d_Mo_setsWell_35 : decode bc_Mo_setsWell 35 = .ok (.iastore, 1) := by decide +kernel
theorem d_Mo_setsWell_36 : decode bc_Mo_setsWell 36 = .ok (.aload_n 0, 1) := by decide +kernel
theorem d_Mo_setsWell_37 : decode bc_Mo_setsWell 37 = .ok (.getfield 128, 3) := by decide +kernel
theorem d_Mo_setsWell_40 : decode bc_Mo_setsWell 40 = .ok (.bipush 6, 2) := by decide +kernel
theorem d_Mo_setsWell_42 : decode bc_Mo_setsWell 42 = .ok (.aload_n 0, 1) := by decide +kernel
theorem d_Mo_setsWell_43 : decode bc_Mo_setsWell 43 = .ok (.iload_n 1, 1) := by decide +kernel
theorem d_Mo_setsWell_44 : decode bc_Mo_setsWell 44 = .ok (.invokevirtual 380, 3) := by decide +kernel
theorem d_Mo_setsWell_47 : decode bc_Mo_setsWell 47 = .ok (.invokestatic 349, 3) := by decide +kernel
theorem d_Mo_setsWell_50 : decode bc_Mo_setsWell 50 = .ok (.iastore, 1) := by decide +kernel
theorem d_Mo_setsWell_51 : decode bc_Mo_setsWell 51 = .ok (.aload_n 0, 1) := by decide +kernel
theorem d_Mo_setsWell_52 : decode bc_Mo_setsWell 52 = .ok (.getfield 128, 3) := by decide +kernel
theorem d_Mo_setsWell_55 : decode bc_Mo_setsWell 55 = .ok (.iconst 3, 1) := by decide +kernel
theorem d_Mo_setsWell_56 : decode bc_Mo_setsWell 56 = .ok (.iconst 0, 1) := by decide +kernel
theorem d_Mo_setsWell_57 : decode bc_Mo_setsWell 57 = .ok (.iastore, 1) := by decide +kernel
theorem d_Mo_setsWell_58 : decode bc_Mo_setsWell 58 = .ok (.aload_n 0, 1) := by decide +kernel
theorem d_Mo_setsWell_59 : decode bc_Mo_setsWell 59 = .ok (.getfield 128, 3) := by decide +kernel
theorem d_Mo_setsWell_62 : decode bc_Mo_setsWell 62 = .ok (.iconst 5, 1) := by decide +kernel
theorem d_Mo_setsWell_63 : decode bc_Mo_setsWell 63 = .ok (.iconst 0, 1) := by decide +kernel
theorem d_Mo_setsWell_64 : decode bc_Mo_setsWell 64 = .ok (.iastore, 1) := by decide +kernel
theorem d_Mo_setsWell_65 : decode bc_Mo_setsWell 65 = .ok (.return_, 1) := by decide +kernel
set_option maxRecDepth 20000 in
theorem w_Mo_setsWell_b0 {X : CX} {V : WV} (hV : IsM V) {z : Mem} (hC : Ck X V bc_Mo_setsWell 2 "SecretWellsModel" none 5 110) (x1 : Int32) (S : Mem) (h : f_Mo_setsWell_b0  x1 S = some z) : G X V 2 (QV X V z) 0 [some (.ref (V.2.2.1 0 0)), some (.int x1)] [] S := by
  unfold f_Mo_setsWell_b0 at h
  refine g_aload_n (pc := 0) hC (i := 0) (x := (V.2.2.1 0 0)) rfl rfl d_Mo_setsWell_0 ?_
  refine g_getA (pc := 1) hC fo_Mo_128 (ob_Mo hV) rfl d_Mo_setsWell_1 ?_
  refine g_iconst (pc := 4) hC kc_0 d_Mo_setsWell_4 ?_
  refine g_aload_n (pc := 5) hC (i := 0) (x := (V.2.2.1 0 0)) rfl rfl d_Mo_setsWell_5 ?_
  refine g_getA (pc := 6) hC fo_Mo_137 (ob_Mo hV) rfl d_Mo_setsWell_6 ?_
  refine g_bipush (pc := 9) hC kb_35 d_Mo_setsWell_9 ?_
  refine g_iald (pc := 11) hC (ar_Mo_57 hV) d_Mo_setsWell_11 h (fun h => ?_)
  refine g_iast (pc := 12) hC (ar_Mo_53 hV) d_Mo_setsWell_12 h (fun h => ?_)
  refine g_letS h (fun S12 h => ?_)
  refine g_aload_n (pc := 13) hC (i := 0) (x := (V.2.2.1 0 0)) rfl rfl d_Mo_setsWell_13 ?_
  refine g_getA (pc := 14) hC fo_Mo_128 (ob_Mo hV) rfl d_Mo_setsWell_14 ?_
  refine g_iconst (pc := 17) hC kc_1 d_Mo_setsWell_17 ?_
  refine g_aload_n (pc := 18) hC (i := 0) (x := (V.2.2.1 0 0)) rfl rfl d_Mo_setsWell_18 ?_
  refine g_iload_n (pc := 19) hC (i := 1) (x := x1) rfl rfl d_Mo_setsWell_19 ?_
  obtain ⟨q20, hq20, h⟩ := Option.bind_eq_some_iff.mp h
  refine g_vi (pc := 20) hC (As := [.int x1]) (st := [.int 1, .ref (V.2.2.1 0 (53 + 1))]) mt_Mo_deepOf lk_Mo_364 rfl (ob_Mo hV) (Nat.le_of_ble_eq_true rfl) ⟨Nat.le_of_ble_eq_true rfl, Nat.le_of_ble_eq_true rfl⟩ rfl d_Mo_setsWell_20 (c_Mo_deepOf hV hq20) ?_
  refine g_iast (pc := 23) hC (ar_Mo_53 hV) d_Mo_setsWell_23 h (fun h => ?_)
  refine g_letS h (fun S23 h => ?_)
  refine g_aload_n (pc := 24) hC (i := 0) (x := (V.2.2.1 0 0)) rfl rfl d_Mo_setsWell_24 ?_
  refine g_getA (pc := 25) hC fo_Mo_128 (ob_Mo hV) rfl d_Mo_setsWell_25 ?_
  refine g_iconst (pc := 28) hC kc_2 d_Mo_setsWell_28 ?_
  refine g_aload_n (pc := 29) hC (i := 0) (x := (V.2.2.1 0 0)) rfl rfl d_Mo_setsWell_29 ?_
  refine g_getA (pc := 30) hC fo_Mo_137 (ob_Mo hV) rfl d_Mo_setsWell_30 ?_
  refine g_iload_n (pc := 33) hC (i := 1) (x := x1) rfl rfl d_Mo_setsWell_33 ?_
  refine g_iald (pc := 34) hC (ar_Mo_57 hV) d_Mo_setsWell_34 h (fun h => ?_)
  refine g_iast (pc := 35) hC (ar_Mo_53 hV) d_Mo_setsWell_35 h (fun h => ?_)
  refine g_letS h (fun S35 h => ?_)
  refine g_aload_n (pc := 36) hC (i := 0) (x := (V.2.2.1 0 0)) rfl rfl d_Mo_setsWell_36 ?_
  refine g_getA (pc := 37) hC fo_Mo_128 (ob_Mo hV) rfl d_Mo_setsWell_37 ?_
  refine g_bipush (pc := 40) hC kb_6 d_Mo_setsWell_40 ?_
  refine g_aload_n (pc := 42) hC (i := 0) (x := (V.2.2.1 0 0)) rfl rfl d_Mo_setsWell_42 ?_
  refine g_iload_n (pc := 43) hC (i := 1) (x := x1) rfl rfl d_Mo_setsWell_43 ?_
  obtain ⟨q44, hq44, h⟩ := Option.bind_eq_some_iff.mp h
  refine g_vi (pc := 44) hC (As := [.int x1]) (st := [.int 6, .ref (V.2.2.1 0 (53 + 1))]) mt_Mo_drinkersOf lk_Mo_380 rfl (ob_Mo hV) (Nat.le_of_ble_eq_true rfl) ⟨Nat.le_of_ble_eq_true rfl, Nat.le_of_ble_eq_true rfl⟩ rfl d_Mo_setsWell_44 (c_Mo_drinkersOf hV hq44) ?_
  obtain ⟨q47, hq47, h⟩ := Option.bind_eq_some_iff.mp h
  refine g_si (pc := 47) hC (As := [.int q44]) (st := [.int 6, .ref (V.2.2.1 0 (53 + 1))]) mt_Mo_bits lk_Mo_349 (Nat.le_of_ble_eq_true rfl) ⟨Nat.le_of_ble_eq_true rfl, Nat.le_of_ble_eq_true rfl⟩ rfl d_Mo_setsWell_47 (c_Mo_bits (IsM.ok hV) hq47) ?_
  refine g_iast (pc := 50) hC (ar_Mo_53 hV) d_Mo_setsWell_50 h (fun h => ?_)
  refine g_letS h (fun S50 h => ?_)
  refine g_aload_n (pc := 51) hC (i := 0) (x := (V.2.2.1 0 0)) rfl rfl d_Mo_setsWell_51 ?_
  refine g_getA (pc := 52) hC fo_Mo_128 (ob_Mo hV) rfl d_Mo_setsWell_52 ?_
  refine g_iconst (pc := 55) hC kc_3 d_Mo_setsWell_55 ?_
  refine g_iconst (pc := 56) hC kc_0 d_Mo_setsWell_56 ?_
  refine g_iast (pc := 57) hC (ar_Mo_53 hV) d_Mo_setsWell_57 h (fun h => ?_)
  refine g_letS h (fun S57 h => ?_)
  refine g_aload_n (pc := 58) hC (i := 0) (x := (V.2.2.1 0 0)) rfl rfl d_Mo_setsWell_58 ?_
  refine g_getA (pc := 59) hC fo_Mo_128 (ob_Mo hV) rfl d_Mo_setsWell_59 ?_
  refine g_iconst (pc := 62) hC kc_5 d_Mo_setsWell_62 ?_
  refine g_iconst (pc := 63) hC kc_0 d_Mo_setsWell_63 ?_
  refine g_iast (pc := 64) hC (ar_Mo_53 hV) d_Mo_setsWell_64 h (fun h => ?_)
  refine g_letS h (fun S64 h => ?_)
  exact g_vW (pc := 65) hC d_Mo_setsWell_65 h
theorem c_Mo_setsWell {V : WV} {l : Launch} (hV : IsM V) {x1 : Int32} {S : Mem} {z : Mem} (h : f_Mo_setsWell x1 S = some z) : CV V l y_Mo_setsWell bc_Mo_setsWell 2 none 5 110 [.ref (V.2.2.1 0 0), .int x1] S z :=
  ct_v rfl (IsM.ok hV) (Nat.le_of_ble_eq_true rfl) (fun _ _ hC => w_Mo_setsWell_b0 hV hC x1 S h)
def f_Mo_fillsOf_b0 (x1 : Int32) (S : Mem) : Option (Int32 × Mem) :=
  Option.bind (f_Mo_setsWell x1 S) (fun q2 =>
  Option.bind (f_Mo_holding x1 q2) (fun q12 =>
  Option.bind (f_Mo_bits q12) (fun q15 =>
  gIn 4 8 (letS (sA q2 0 53 4 q15) (fun S18 =>
  gIn 7 8 (letS (sA S18 0 53 7 x1) (fun S26 =>
  Option.bind (f_Mo_asks 0 10 999 S26) (fun q34 =>
  some (q34.1, q34.2)))))))))
def f_Mo_fillsOf (x1 : Int32) (S : Mem) : Option (Int32 × Mem) := f_Mo_fillsOf_b0  x1 S
theorem d_Mo_fillsOf_0 : decode bc_Mo_fillsOf 0 = .ok (.aload_n 0, 1) := by decide +kernel
theorem d_Mo_fillsOf_1 : decode bc_Mo_fillsOf 1 = .ok (.iload_n 1, 1) := by decide +kernel
theorem d_Mo_fillsOf_2 : decode bc_Mo_fillsOf 2 = .ok (.invokevirtual 383, 3) := by decide +kernel
theorem d_Mo_fillsOf_5 : decode bc_Mo_fillsOf 5 = .ok (.aload_n 0, 1) := by decide +kernel
theorem d_Mo_fillsOf_6 : decode bc_Mo_fillsOf 6 = .ok (.getfield 128, 3) := by decide +kernel
theorem d_Mo_fillsOf_9 : decode bc_Mo_fillsOf 9 = .ok (.iconst 4, 1) := by decide +kernel
theorem d_Mo_fillsOf_10 : decode bc_Mo_fillsOf 10 = .ok (.aload_n 0, 1) := by decide +kernel
theorem d_Mo_fillsOf_11 : decode bc_Mo_fillsOf 11 = .ok (.iload_n 1, 1) := by decide +kernel
theorem d_Mo_fillsOf_12 : decode bc_Mo_fillsOf 12 = .ok (.invokevirtual 386, 3) := by decide +kernel
theorem d_Mo_fillsOf_15 : decode bc_Mo_fillsOf 15 = .ok (.invokestatic 349, 3) := by decide +kernel
theorem d_Mo_fillsOf_18 : decode bc_Mo_fillsOf 18 = .ok (.iastore, 1) := by decide +kernel
theorem d_Mo_fillsOf_19 : decode bc_Mo_fillsOf 19 = .ok (.aload_n 0, 1) := by decide +kernel
theorem d_Mo_fillsOf_20 : decode bc_Mo_fillsOf 20 = .ok (.getfield 128, 3) := by decide +kernel
theorem d_Mo_fillsOf_23 : decode bc_Mo_fillsOf 23 = .ok (.bipush 7, 2) := by decide +kernel
theorem d_Mo_fillsOf_25 : decode bc_Mo_fillsOf 25 = .ok (.iload_n 1, 1) := by decide +kernel
theorem d_Mo_fillsOf_26 : decode bc_Mo_fillsOf 26 = .ok (.iastore, 1) := by decide +kernel
theorem d_Mo_fillsOf_27 : decode bc_Mo_fillsOf 27 = .ok (.aload_n 0, 1) := by decide +kernel
theorem d_Mo_fillsOf_28 : decode bc_Mo_fillsOf 28 = .ok (.iconst 0, 1) := by decide +kernel
theorem d_Mo_fillsOf_29 : decode bc_Mo_fillsOf 29 = .ok (.bipush 10, 2) := by decide +kernel
theorem d_Mo_fillsOf_31 : decode bc_Mo_fillsOf 31 = .ok (.sipush 999, 3) := by decide +kernel
theorem d_Mo_fillsOf_34 : decode bc_Mo_fillsOf 34 = .ok (.invokevirtual 389, 3) := by decide +kernel
theorem d_Mo_fillsOf_37 : decode bc_Mo_fillsOf 37 = .ok (.ireturn, 1) := by decide +kernel
set_option maxRecDepth 20000 in
theorem w_Mo_fillsOf_b0 {X : CX} {V : WV} (hV : IsM V) {z : Int32 × Mem} (hC : Ck X V bc_Mo_fillsOf 2 "SecretWellsModel" (some .int) 6 131) (x1 : Int32) (S : Mem) (h : f_Mo_fillsOf_b0  x1 S = some z) : G X V 2 (QI X V z.1 z.2) 0 [some (.ref (V.2.2.1 0 0)), some (.int x1)] [] S := by
  unfold f_Mo_fillsOf_b0 at h
  refine g_aload_n (pc := 0) hC (i := 0) (x := (V.2.2.1 0 0)) rfl rfl d_Mo_fillsOf_0 ?_
  refine g_iload_n (pc := 1) hC (i := 1) (x := x1) rfl rfl d_Mo_fillsOf_1 ?_
  obtain ⟨q2, hq2, h⟩ := Option.bind_eq_some_iff.mp h
  refine g_vv (pc := 2) hC (As := [.int x1]) (st := []) mt_Mo_setsWell lk_Mo_383 rfl (ob_Mo hV) (Nat.le_of_ble_eq_true rfl) ⟨Nat.le_of_ble_eq_true rfl, Nat.le_of_ble_eq_true rfl⟩ rfl d_Mo_fillsOf_2 (c_Mo_setsWell hV hq2) ?_
  refine g_aload_n (pc := 5) hC (i := 0) (x := (V.2.2.1 0 0)) rfl rfl d_Mo_fillsOf_5 ?_
  refine g_getA (pc := 6) hC fo_Mo_128 (ob_Mo hV) rfl d_Mo_fillsOf_6 ?_
  refine g_iconst (pc := 9) hC kc_4 d_Mo_fillsOf_9 ?_
  refine g_aload_n (pc := 10) hC (i := 0) (x := (V.2.2.1 0 0)) rfl rfl d_Mo_fillsOf_10 ?_
  refine g_iload_n (pc := 11) hC (i := 1) (x := x1) rfl rfl d_Mo_fillsOf_11 ?_
  obtain ⟨q12, hq12, h⟩ := Option.bind_eq_some_iff.mp h
  refine g_vi (pc := 12) hC (As := [.int x1]) (st := [.int 4, .ref (V.2.2.1 0 (53 + 1))]) mt_Mo_holding lk_Mo_386 rfl (ob_Mo hV) (Nat.le_of_ble_eq_true rfl) ⟨Nat.le_of_ble_eq_true rfl, Nat.le_of_ble_eq_true rfl⟩ rfl d_Mo_fillsOf_12 (c_Mo_holding hV hq12) ?_
  obtain ⟨q15, hq15, h⟩ := Option.bind_eq_some_iff.mp h
  refine g_si (pc := 15) hC (As := [.int q12]) (st := [.int 4, .ref (V.2.2.1 0 (53 + 1))]) mt_Mo_bits lk_Mo_349 (Nat.le_of_ble_eq_true rfl) ⟨Nat.le_of_ble_eq_true rfl, Nat.le_of_ble_eq_true rfl⟩ rfl d_Mo_fillsOf_15 (c_Mo_bits (IsM.ok hV) hq15) ?_
  refine g_iast (pc := 18) hC (ar_Mo_53 hV) d_Mo_fillsOf_18 h (fun h => ?_)
  refine g_letS h (fun S18 h => ?_)
  refine g_aload_n (pc := 19) hC (i := 0) (x := (V.2.2.1 0 0)) rfl rfl d_Mo_fillsOf_19 ?_
  refine g_getA (pc := 20) hC fo_Mo_128 (ob_Mo hV) rfl d_Mo_fillsOf_20 ?_
  refine g_bipush (pc := 23) hC kb_7 d_Mo_fillsOf_23 ?_
  refine g_iload_n (pc := 25) hC (i := 1) (x := x1) rfl rfl d_Mo_fillsOf_25 ?_
  refine g_iast (pc := 26) hC (ar_Mo_53 hV) d_Mo_fillsOf_26 h (fun h => ?_)
  refine g_letS h (fun S26 h => ?_)
  refine g_aload_n (pc := 27) hC (i := 0) (x := (V.2.2.1 0 0)) rfl rfl d_Mo_fillsOf_27 ?_
  refine g_iconst (pc := 28) hC kc_0 d_Mo_fillsOf_28 ?_
  refine g_bipush (pc := 29) hC kb_10 d_Mo_fillsOf_29 ?_
  refine g_sipush (pc := 31) hC ks_999 d_Mo_fillsOf_31 ?_
  obtain ⟨q34, hq34, h⟩ := Option.bind_eq_some_iff.mp h
  refine g_vi (pc := 34) hC (As := [.int 0, .int 10, .int 999]) (st := []) mt_Mo_asks lk_Mo_389 rfl (ob_Mo hV) (Nat.le_of_ble_eq_true rfl) ⟨Nat.le_of_ble_eq_true rfl, Nat.le_of_ble_eq_true rfl⟩ rfl d_Mo_fillsOf_34 (c_Mo_asks hV hq34) ?_
  exact g_iW (pc := 37) hC rfl d_Mo_fillsOf_37 h
theorem c_Mo_fillsOf {V : WV} {l : Launch} (hV : IsM V) {x1 : Int32} {S : Mem} {z : Int32 × Mem} (h : f_Mo_fillsOf x1 S = some z) : CI V l y_Mo_fillsOf bc_Mo_fillsOf 2 (some .int) 6 131 [.ref (V.2.2.1 0 0), .int x1] S z.1 z.2 :=
  ct_i rfl (IsM.ok hV) (Nat.le_of_ble_eq_true rfl) (fun _ _ hC => w_Mo_fillsOf_b0 hV hC x1 S h)
def f_Mo_setsMan_b0 (x1 : Int32) (S : Mem) : Option (Mem) :=
  gIn (12 + x1) 40 (
  Option.bind (f_Mo_setsWell (S.2.1 0 57 (12 + x1).toNatClampNeg) S) (fun q10 =>
  gIn (19 + x1) 40 (
  gIn 3 8 (letS (sA q10 0 53 3 (q10.2.1 0 57 (19 + x1).toNatClampNeg)) (fun S27 =>
  gIn (26 + x1) 40 (
  Option.bind (f_Mo_bits (S27.2.1 0 57 (26 + x1).toNatClampNeg)) (fun q42 =>
  gIn 4 8 (letS (sA S27 0 53 4 q42) (fun S45 =>
  gIn 7 8 (letS (sA S45 0 53 7 x1) (fun S53 =>
  some S53)))))))))))
def f_Mo_setsMan (x1 : Int32) (S : Mem) : Option (Mem) := f_Mo_setsMan_b0  x1 S
theorem d_Mo_setsMan_0 : decode bc_Mo_setsMan 0 = .ok (.aload_n 0, 1) := by decide +kernel
theorem d_Mo_setsMan_1 : decode bc_Mo_setsMan 1 = .ok (.aload_n 0, 1) := by decide +kernel
theorem d_Mo_setsMan_2 : decode bc_Mo_setsMan 2 = .ok (.getfield 137, 3) := by decide +kernel
theorem d_Mo_setsMan_5 : decode bc_Mo_setsMan 5 = .ok (.bipush 12, 2) := by decide +kernel
theorem d_Mo_setsMan_7 : decode bc_Mo_setsMan 7 = .ok (.iload_n 1, 1) := by decide +kernel
theorem d_Mo_setsMan_8 : decode bc_Mo_setsMan 8 = .ok (.iadd, 1) := by decide +kernel
theorem d_Mo_setsMan_9 : decode bc_Mo_setsMan 9 = .ok (.iaload, 1) := by decide +kernel
theorem d_Mo_setsMan_10 : decode bc_Mo_setsMan 10 = .ok (.invokevirtual 383, 3) := by decide +kernel
theorem d_Mo_setsMan_13 : decode bc_Mo_setsMan 13 = .ok (.aload_n 0, 1) := by decide +kernel
theorem d_Mo_setsMan_14 : decode bc_Mo_setsMan 14 = .ok (.getfield 128, 3) := by decide +kernel
theorem d_Mo_setsMan_17 : decode bc_Mo_setsMan 17 = .ok (.iconst 3, 1) := by decide +kernel
theorem d_Mo_setsMan_18 : decode bc_Mo_setsMan 18 = .ok (.aload_n 0, 1) := by decide +kernel
theorem d_Mo_setsMan_19 : decode bc_Mo_setsMan 19 = .ok (.getfield 137, 3) := by decide +kernel
theorem d_Mo_setsMan_22 : decode bc_Mo_setsMan 22 = .ok (.bipush 19, 2) := by decide +kernel
theorem d_Mo_setsMan_24 : decode bc_Mo_setsMan 24 = .ok (.iload_n 1, 1) := by decide +kernel
theorem d_Mo_setsMan_25 : decode bc_Mo_setsMan 25 = .ok (.iadd, 1) := by decide +kernel
theorem d_Mo_setsMan_26 : decode bc_Mo_setsMan 26 = .ok (.iaload, 1) := by decide +kernel
theorem d_Mo_setsMan_27 : decode bc_Mo_setsMan 27 = .ok (.iastore, 1) := by decide +kernel
theorem d_Mo_setsMan_28 : decode bc_Mo_setsMan 28 = .ok (.aload_n 0, 1) := by decide +kernel
theorem d_Mo_setsMan_29 : decode bc_Mo_setsMan 29 = .ok (.getfield 128, 3) := by decide +kernel
theorem d_Mo_setsMan_32 : decode bc_Mo_setsMan 32 = .ok (.iconst 4, 1) := by decide +kernel
theorem d_Mo_setsMan_33 : decode bc_Mo_setsMan 33 = .ok (.aload_n 0, 1) := by decide +kernel
theorem d_Mo_setsMan_34 : decode bc_Mo_setsMan 34 = .ok (.getfield 137, 3) := by decide +kernel
theorem d_Mo_setsMan_37 : decode bc_Mo_setsMan 37 = .ok (.bipush 26, 2) := by decide +kernel
theorem d_Mo_setsMan_39 : decode bc_Mo_setsMan 39 = .ok (.iload_n 1, 1) := by decide +kernel
theorem d_Mo_setsMan_40 : decode bc_Mo_setsMan 40 = .ok (.iadd, 1) := by decide +kernel
theorem d_Mo_setsMan_41 : decode bc_Mo_setsMan 41 = .ok (.iaload, 1) := by decide +kernel
theorem d_Mo_setsMan_42 : decode bc_Mo_setsMan 42 = .ok (.invokestatic 349, 3) := by decide +kernel
theorem d_Mo_setsMan_45 : decode bc_Mo_setsMan 45 = .ok (.iastore, 1) := by decide +kernel
theorem d_Mo_setsMan_46 : decode bc_Mo_setsMan 46 = .ok (.aload_n 0, 1) := by decide +kernel
theorem d_Mo_setsMan_47 : decode bc_Mo_setsMan 47 = .ok (.getfield 128, 3) := by decide +kernel
theorem d_Mo_setsMan_50 : decode bc_Mo_setsMan 50 = .ok (.bipush 7, 2) := by decide +kernel
theorem d_Mo_setsMan_52 : decode bc_Mo_setsMan 52 = .ok (.iload_n 1, 1) := by decide +kernel
theorem d_Mo_setsMan_53 : decode bc_Mo_setsMan 53 = .ok (.iastore, 1) := by decide +kernel
theorem d_Mo_setsMan_54 : decode bc_Mo_setsMan 54 = .ok (.return_, 1) := by decide +kernel
set_option maxRecDepth 20000 in
theorem w_Mo_setsMan_b0 {X : CX} {V : WV} (hV : IsM V) {z : Mem} (hC : Ck X V bc_Mo_setsMan 2 "SecretWellsModel" none 6 131) (x1 : Int32) (S : Mem) (h : f_Mo_setsMan_b0  x1 S = some z) : G X V 2 (QV X V z) 0 [some (.ref (V.2.2.1 0 0)), some (.int x1)] [] S := by
  unfold f_Mo_setsMan_b0 at h
  refine g_aload_n (pc := 0) hC (i := 0) (x := (V.2.2.1 0 0)) rfl rfl d_Mo_setsMan_0 ?_
  refine g_aload_n (pc := 1) hC (i := 0) (x := (V.2.2.1 0 0)) rfl rfl d_Mo_setsMan_1 ?_
  refine g_getA (pc := 2) hC fo_Mo_137 (ob_Mo hV) rfl d_Mo_setsMan_2 ?_
  refine g_bipush (pc := 5) hC kb_12 d_Mo_setsMan_5 ?_
  refine g_iload_n (pc := 7) hC (i := 1) (x := x1) rfl rfl d_Mo_setsMan_7 ?_
  refine g_iadd (pc := 8) hC d_Mo_setsMan_8 ?_
  refine g_iald (pc := 9) hC (ar_Mo_57 hV) d_Mo_setsMan_9 h (fun h => ?_)
  obtain ⟨q10, hq10, h⟩ := Option.bind_eq_some_iff.mp h
  refine g_vv (pc := 10) hC (As := [.int (S.2.1 0 57 (12 + x1).toNatClampNeg)]) (st := []) mt_Mo_setsWell lk_Mo_383 rfl (ob_Mo hV) (Nat.le_of_ble_eq_true rfl) ⟨Nat.le_of_ble_eq_true rfl, Nat.le_of_ble_eq_true rfl⟩ rfl d_Mo_setsMan_10 (c_Mo_setsWell hV hq10) ?_
  refine g_aload_n (pc := 13) hC (i := 0) (x := (V.2.2.1 0 0)) rfl rfl d_Mo_setsMan_13 ?_
  refine g_getA (pc := 14) hC fo_Mo_128 (ob_Mo hV) rfl d_Mo_setsMan_14 ?_
  refine g_iconst (pc := 17) hC kc_3 d_Mo_setsMan_17 ?_
  refine g_aload_n (pc := 18) hC (i := 0) (x := (V.2.2.1 0 0)) rfl rfl d_Mo_setsMan_18 ?_
  refine g_getA (pc := 19) hC fo_Mo_137 (ob_Mo hV) rfl d_Mo_setsMan_19 ?_
  refine g_bipush (pc := 22) hC kb_19 d_Mo_setsMan_22 ?_
  refine g_iload_n (pc := 24) hC (i := 1) (x := x1) rfl rfl d_Mo_setsMan_24 ?_
  refine g_iadd (pc := 25) hC d_Mo_setsMan_25 ?_
  refine g_iald (pc := 26) hC (ar_Mo_57 hV) d_Mo_setsMan_26 h (fun h => ?_)
  refine g_iast (pc := 27) hC (ar_Mo_53 hV) d_Mo_setsMan_27 h (fun h => ?_)
  refine g_letS h (fun S27 h => ?_)
  refine g_aload_n (pc := 28) hC (i := 0) (x := (V.2.2.1 0 0)) rfl rfl d_Mo_setsMan_28 ?_
  refine g_getA (pc := 29) hC fo_Mo_128 (ob_Mo hV) rfl d_Mo_setsMan_29 ?_
  refine g_iconst (pc := 32) hC kc_4 d_Mo_setsMan_32 ?_
  refine g_aload_n (pc := 33) hC (i := 0) (x := (V.2.2.1 0 0)) rfl rfl d_Mo_setsMan_33 ?_
  refine g_getA (pc := 34) hC fo_Mo_137 (ob_Mo hV) rfl d_Mo_setsMan_34 ?_
  refine g_bipush (pc := 37) hC kb_26 d_Mo_setsMan_37 ?_
  refine g_iload_n (pc := 39) hC (i := 1) (x := x1) rfl rfl d_Mo_setsMan_39 ?_
  refine g_iadd (pc := 40) hC d_Mo_setsMan_40 ?_
  refine g_iald (pc := 41) hC (ar_Mo_57 hV) d_Mo_setsMan_41 h (fun h => ?_)
  obtain ⟨q42, hq42, h⟩ := Option.bind_eq_some_iff.mp h
  refine g_si (pc := 42) hC (As := [.int (S27.2.1 0 57 (26 + x1).toNatClampNeg)]) (st := [.int 4, .ref (V.2.2.1 0 (53 + 1))]) mt_Mo_bits lk_Mo_349 (Nat.le_of_ble_eq_true rfl) ⟨Nat.le_of_ble_eq_true rfl, Nat.le_of_ble_eq_true rfl⟩ rfl d_Mo_setsMan_42 (c_Mo_bits (IsM.ok hV) hq42) ?_
  refine g_iast (pc := 45) hC (ar_Mo_53 hV) d_Mo_setsMan_45 h (fun h => ?_)
  refine g_letS h (fun S45 h => ?_)
  refine g_aload_n (pc := 46) hC (i := 0) (x := (V.2.2.1 0 0)) rfl rfl d_Mo_setsMan_46 ?_
  refine g_getA (pc := 47) hC fo_Mo_128 (ob_Mo hV) rfl d_Mo_setsMan_47 ?_
  refine g_bipush (pc := 50) hC kb_7 d_Mo_setsMan_50 ?_
  refine g_iload_n (pc := 52) hC (i := 1) (x := x1) rfl rfl d_Mo_setsMan_52 ?_
  refine g_iast (pc := 53) hC (ar_Mo_53 hV) d_Mo_setsMan_53 h (fun h => ?_)
  refine g_letS h (fun S53 h => ?_)
  exact g_vW (pc := 54) hC d_Mo_setsMan_54 h
theorem c_Mo_setsMan {V : WV} {l : Launch} (hV : IsM V) {x1 : Int32} {S : Mem} {z : Mem} (h : f_Mo_setsMan x1 S = some z) : CV V l y_Mo_setsMan bc_Mo_setsMan 2 none 6 131 [.ref (V.2.2.1 0 0), .int x1] S z :=
  ct_v rfl (IsM.ok hV) (Nat.le_of_ble_eq_true rfl) (fun _ _ hC => w_Mo_setsMan_b0 hV hC x1 S h)
def f_Mo_drinksOf_b0 (x1 : Int32) (S : Mem) : Option (Int32 × Mem) :=
  Option.bind (f_Mo_setsMan x1 S) (fun q2 =>
  gIn ((7 * (q2.1 0 18)) + x1) 14 (
  Option.bind (f_Mo_asks 2 (q2.2.1 0 29 ((7 * (q2.1 0 18)) + x1).toNatClampNeg) 99 q2) (fun q23 =>
  some (q23.1, q23.2))))
def f_Mo_drinksOf (x1 : Int32) (S : Mem) : Option (Int32 × Mem) := f_Mo_drinksOf_b0  x1 S
theorem d_Mo_drinksOf_0 : decode bc_Mo_drinksOf 0 = .ok (.aload_n 0, 1) := by decide +kernel
theorem d_Mo_drinksOf_1 : decode bc_Mo_drinksOf 1 = .ok (.iload_n 1, 1) := by decide +kernel
theorem d_Mo_drinksOf_2 : decode bc_Mo_drinksOf 2 = .ok (.invokevirtual 392, 3) := by decide +kernel
theorem d_Mo_drinksOf_5 : decode bc_Mo_drinksOf 5 = .ok (.aload_n 0, 1) := by decide +kernel
theorem d_Mo_drinksOf_6 : decode bc_Mo_drinksOf 6 = .ok (.iconst 2, 1) := by decide +kernel
theorem d_Mo_drinksOf_7 : decode bc_Mo_drinksOf 7 = .ok (.aload_n 0, 1) := by decide +kernel
theorem d_Mo_drinksOf_8 : decode bc_Mo_drinksOf 8 = .ok (.getfield 64, 3) := by decide +kernel
theorem d_Mo_drinksOf_11 : decode bc_Mo_drinksOf 11 = .ok (.bipush 7, 2) := by decide +kernel
theorem d_Mo_drinksOf_13 : decode bc_Mo_drinksOf 13 = .ok (.aload_n 0, 1) := by decide +kernel
theorem d_Mo_drinksOf_14 : decode bc_Mo_drinksOf 14 = .ok (.getfield 245, 3) := by decide +kernel
theorem d_Mo_drinksOf_17 : decode bc_Mo_drinksOf 17 = .ok (.imul, 1) := by decide +kernel
theorem d_Mo_drinksOf_18 : decode bc_Mo_drinksOf 18 = .ok (.iload_n 1, 1) := by decide +kernel
theorem d_Mo_drinksOf_19 : decode bc_Mo_drinksOf 19 = .ok (.iadd, 1) := by decide +kernel
theorem d_Mo_drinksOf_20 : decode bc_Mo_drinksOf 20 = .ok (.iaload, 1) := by decide +kernel
theorem d_Mo_drinksOf_21 : decode bc_Mo_drinksOf 21 = .ok (.bipush 99, 2) := by decide +kernel
theorem d_Mo_drinksOf_23 : decode bc_Mo_drinksOf 23 = .ok (.invokevirtual 389, 3) := by decide +kernel
theorem d_Mo_drinksOf_26 : decode bc_Mo_drinksOf 26 = .ok (.ireturn, 1) := by decide +kernel
set_option maxRecDepth 20000 in
theorem w_Mo_drinksOf_b0 {X : CX} {V : WV} (hV : IsM V) {z : Int32 × Mem} (hC : Ck X V bc_Mo_drinksOf 2 "SecretWellsModel" (some .int) 7 152) (x1 : Int32) (S : Mem) (h : f_Mo_drinksOf_b0  x1 S = some z) : G X V 2 (QI X V z.1 z.2) 0 [some (.ref (V.2.2.1 0 0)), some (.int x1)] [] S := by
  unfold f_Mo_drinksOf_b0 at h
  refine g_aload_n (pc := 0) hC (i := 0) (x := (V.2.2.1 0 0)) rfl rfl d_Mo_drinksOf_0 ?_
  refine g_iload_n (pc := 1) hC (i := 1) (x := x1) rfl rfl d_Mo_drinksOf_1 ?_
  obtain ⟨q2, hq2, h⟩ := Option.bind_eq_some_iff.mp h
  refine g_vv (pc := 2) hC (As := [.int x1]) (st := []) mt_Mo_setsMan lk_Mo_392 rfl (ob_Mo hV) (Nat.le_of_ble_eq_true rfl) ⟨Nat.le_of_ble_eq_true rfl, Nat.le_of_ble_eq_true rfl⟩ rfl d_Mo_drinksOf_2 (c_Mo_setsMan hV hq2) ?_
  refine g_aload_n (pc := 5) hC (i := 0) (x := (V.2.2.1 0 0)) rfl rfl d_Mo_drinksOf_5 ?_
  refine g_iconst (pc := 6) hC kc_2 d_Mo_drinksOf_6 ?_
  refine g_aload_n (pc := 7) hC (i := 0) (x := (V.2.2.1 0 0)) rfl rfl d_Mo_drinksOf_7 ?_
  refine g_getA (pc := 8) hC fo_Mo_64 (ob_Mo hV) rfl d_Mo_drinksOf_8 ?_
  refine g_bipush (pc := 11) hC kb_7 d_Mo_drinksOf_11 ?_
  refine g_aload_n (pc := 13) hC (i := 0) (x := (V.2.2.1 0 0)) rfl rfl d_Mo_drinksOf_13 ?_
  refine g_getI (pc := 14) hC fo_Mo_245 (ob_Mo hV) rfl d_Mo_drinksOf_14 ?_
  refine g_imul (pc := 17) hC d_Mo_drinksOf_17 ?_
  refine g_iload_n (pc := 18) hC (i := 1) (x := x1) rfl rfl d_Mo_drinksOf_18 ?_
  refine g_iadd (pc := 19) hC d_Mo_drinksOf_19 ?_
  refine g_iald (pc := 20) hC (ar_Mo_29 hV) d_Mo_drinksOf_20 h (fun h => ?_)
  refine g_bipush (pc := 21) hC kb_99 d_Mo_drinksOf_21 ?_
  obtain ⟨q23, hq23, h⟩ := Option.bind_eq_some_iff.mp h
  refine g_vi (pc := 23) hC (As := [.int 2, .int (q2.2.1 0 29 ((7 * (q2.1 0 18)) + x1).toNatClampNeg), .int 99]) (st := []) mt_Mo_asks lk_Mo_389 rfl (ob_Mo hV) (Nat.le_of_ble_eq_true rfl) ⟨Nat.le_of_ble_eq_true rfl, Nat.le_of_ble_eq_true rfl⟩ rfl d_Mo_drinksOf_23 (c_Mo_asks hV hq23) ?_
  exact g_iW (pc := 26) hC rfl d_Mo_drinksOf_26 h
theorem c_Mo_drinksOf {V : WV} {l : Launch} (hV : IsM V) {x1 : Int32} {S : Mem} {z : Int32 × Mem} (h : f_Mo_drinksOf x1 S = some z) : CI V l y_Mo_drinksOf bc_Mo_drinksOf 2 (some .int) 7 152 [.ref (V.2.2.1 0 0), .int x1] S z.1 z.2 :=
  ct_i rfl (IsM.ok hV) (Nat.le_of_ble_eq_true rfl) (fun _ _ hC => w_Mo_drinksOf_b0 hV hC x1 S h)
def f_Mo_tellsOf_b0 (x1 : Int32) (x2 : Int32) (S : Mem) : Option (Int32 × Mem) :=
  gIn ((12 * (S.1 0 18)) + x1) 24 (
  Option.bind (f_Mo_setsMan (S.2.1 0 35 ((12 * (S.1 0 18)) + x1).toNatClampNeg) S) (fun q15 =>
  gIn ((8 * (q15.1 0 18)) + x2) 16 (
  gIn 5 8 (letS (sA q15 0 53 5 (q15.2.1 0 31 ((8 * (q15.1 0 18)) + x2).toNatClampNeg)) (fun S37 =>
  gIn 7 8 (letS (sA S37 0 53 7 x1) (fun S45 =>
  Option.bind (f_Mo_asks 1 0 100 S45) (fun q51 =>
  some (q51.1, q51.2)))))))))
def f_Mo_tellsOf (x1 : Int32) (x2 : Int32) (S : Mem) : Option (Int32 × Mem) := f_Mo_tellsOf_b0  x1 x2 S
theorem d_Mo_tellsOf_0 : decode bc_Mo_tellsOf 0 = .ok (.aload_n 0, 1) := by decide +kernel
theorem d_Mo_tellsOf_1 : decode bc_Mo_tellsOf 1 = .ok (.aload_n 0, 1) := by decide +kernel
theorem d_Mo_tellsOf_2 : decode bc_Mo_tellsOf 2 = .ok (.getfield 83, 3) := by decide +kernel
theorem d_Mo_tellsOf_5 : decode bc_Mo_tellsOf 5 = .ok (.bipush 12, 2) := by decide +kernel
theorem d_Mo_tellsOf_7 : decode bc_Mo_tellsOf 7 = .ok (.aload_n 0, 1) := by decide +kernel
theorem d_Mo_tellsOf_8 : decode bc_Mo_tellsOf 8 = .ok (.getfield 245, 3) := by decide +kernel
theorem d_Mo_tellsOf_11 : decode bc_Mo_tellsOf 11 = .ok (.imul, 1) := by decide +kernel
theorem d_Mo_tellsOf_12 : decode bc_Mo_tellsOf 12 = .ok (.iload_n 1, 1) := by decide +kernel
theorem d_Mo_tellsOf_13 : decode bc_Mo_tellsOf 13 = .ok (.iadd, 1) := by decide +kernel
theorem d_Mo_tellsOf_14 : decode bc_Mo_tellsOf 14 = .ok (.iaload, 1) := by decide +kernel
theorem d_Mo_tellsOf_15 : decode bc_Mo_tellsOf 15 = .ok (.invokevirtual 392, 3) := by decide +kernel
theorem d_Mo_tellsOf_18 : decode bc_Mo_tellsOf 18 = .ok (.aload_n 0, 1) := by decide +kernel
theorem d_Mo_tellsOf_19 : decode bc_Mo_tellsOf 19 = .ok (.getfield 128, 3) := by decide +kernel
theorem d_Mo_tellsOf_22 : decode bc_Mo_tellsOf 22 = .ok (.iconst 5, 1) := by decide +kernel
theorem d_Mo_tellsOf_23 : decode bc_Mo_tellsOf 23 = .ok (.aload_n 0, 1) := by decide +kernel
theorem d_Mo_tellsOf_24 : decode bc_Mo_tellsOf 24 = .ok (.getfield 70, 3) := by decide +kernel
theorem d_Mo_tellsOf_27 : decode bc_Mo_tellsOf 27 = .ok (.bipush 8, 2) := by decide +kernel
theorem d_Mo_tellsOf_29 : decode bc_Mo_tellsOf 29 = .ok (.aload_n 0, 1) := by decide +kernel
theorem d_Mo_tellsOf_30 : decode bc_Mo_tellsOf 30 = .ok (.getfield 245, 3) := by decide +kernel
theorem d_Mo_tellsOf_33 : decode bc_Mo_tellsOf 33 = .ok (.imul, 1) := by decide +kernel
theorem d_Mo_tellsOf_34 : decode bc_Mo_tellsOf 34 = .ok (.iload_n 2, 1) := by decide +kernel
theorem d_Mo_tellsOf_35 : decode bc_Mo_tellsOf 35 = .ok (.iadd, 1) := by decide +kernel
theorem d_Mo_tellsOf_36 : decode bc_Mo_tellsOf 36 = .ok (.iaload, 1) := by decide +kernel
theorem d_Mo_tellsOf_37 : decode bc_Mo_tellsOf 37 = .ok (.iastore, 1) := by decide +kernel
theorem d_Mo_tellsOf_38 : decode bc_Mo_tellsOf 38 = .ok (.aload_n 0, 1) := by decide +kernel
theorem d_Mo_tellsOf_39 : decode bc_Mo_tellsOf 39 = .ok (.getfield 128, 3) := by decide +kernel
theorem d_Mo_tellsOf_42 : decode bc_Mo_tellsOf 42 = .ok (.bipush 7, 2) := by decide +kernel
theorem d_Mo_tellsOf_44 : decode bc_Mo_tellsOf 44 = .ok (.iload_n 1, 1) := by decide +kernel
theorem d_Mo_tellsOf_45 : decode bc_Mo_tellsOf 45 = .ok (.iastore, 1) := by decide +kernel
theorem d_Mo_tellsOf_46 : decode bc_Mo_tellsOf 46 = .ok (.aload_n 0, 1) := by decide +kernel
theorem d_Mo_tellsOf_47 : decode bc_Mo_tellsOf 47 = .ok (.iconst 1, 1) := by decide +kernel
theorem d_Mo_tellsOf_48 : decode bc_Mo_tellsOf 48 = .ok (.iconst 0, 1) := by decide +kernel
theorem d_Mo_tellsOf_49 : decode bc_Mo_tellsOf 49 = .ok (.bipush 100, 2) := by decide +kernel
theorem d_Mo_tellsOf_51 : decode bc_Mo_tellsOf 51 = .ok (.invokevirtual 389, 3) := by decide +kernel
theorem d_Mo_tellsOf_54 : decode bc_Mo_tellsOf 54 = .ok (.ireturn, 1) := by decide +kernel
set_option maxRecDepth 20000 in
theorem w_Mo_tellsOf_b0 {X : CX} {V : WV} (hV : IsM V) {z : Int32 × Mem} (hC : Ck X V bc_Mo_tellsOf 3 "SecretWellsModel" (some .int) 7 152) (x1 : Int32) (x2 : Int32) (S : Mem) (h : f_Mo_tellsOf_b0  x1 x2 S = some z) : G X V 3 (QI X V z.1 z.2) 0 [some (.ref (V.2.2.1 0 0)), some (.int x1), some (.int x2)] [] S := by
  unfold f_Mo_tellsOf_b0 at h
  refine g_aload_n (pc := 0) hC (i := 0) (x := (V.2.2.1 0 0)) rfl rfl d_Mo_tellsOf_0 ?_
  refine g_aload_n (pc := 1) hC (i := 0) (x := (V.2.2.1 0 0)) rfl rfl d_Mo_tellsOf_1 ?_
  refine g_getA (pc := 2) hC fo_Mo_83 (ob_Mo hV) rfl d_Mo_tellsOf_2 ?_
  refine g_bipush (pc := 5) hC kb_12 d_Mo_tellsOf_5 ?_
  refine g_aload_n (pc := 7) hC (i := 0) (x := (V.2.2.1 0 0)) rfl rfl d_Mo_tellsOf_7 ?_
  refine g_getI (pc := 8) hC fo_Mo_245 (ob_Mo hV) rfl d_Mo_tellsOf_8 ?_
  refine g_imul (pc := 11) hC d_Mo_tellsOf_11 ?_
  refine g_iload_n (pc := 12) hC (i := 1) (x := x1) rfl rfl d_Mo_tellsOf_12 ?_
  refine g_iadd (pc := 13) hC d_Mo_tellsOf_13 ?_
  refine g_iald (pc := 14) hC (ar_Mo_35 hV) d_Mo_tellsOf_14 h (fun h => ?_)
  obtain ⟨q15, hq15, h⟩ := Option.bind_eq_some_iff.mp h
  refine g_vv (pc := 15) hC (As := [.int (S.2.1 0 35 ((12 * (S.1 0 18)) + x1).toNatClampNeg)]) (st := []) mt_Mo_setsMan lk_Mo_392 rfl (ob_Mo hV) (Nat.le_of_ble_eq_true rfl) ⟨Nat.le_of_ble_eq_true rfl, Nat.le_of_ble_eq_true rfl⟩ rfl d_Mo_tellsOf_15 (c_Mo_setsMan hV hq15) ?_
  refine g_aload_n (pc := 18) hC (i := 0) (x := (V.2.2.1 0 0)) rfl rfl d_Mo_tellsOf_18 ?_
  refine g_getA (pc := 19) hC fo_Mo_128 (ob_Mo hV) rfl d_Mo_tellsOf_19 ?_
  refine g_iconst (pc := 22) hC kc_5 d_Mo_tellsOf_22 ?_
  refine g_aload_n (pc := 23) hC (i := 0) (x := (V.2.2.1 0 0)) rfl rfl d_Mo_tellsOf_23 ?_
  refine g_getA (pc := 24) hC fo_Mo_70 (ob_Mo hV) rfl d_Mo_tellsOf_24 ?_
  refine g_bipush (pc := 27) hC kb_8 d_Mo_tellsOf_27 ?_
  refine g_aload_n (pc := 29) hC (i := 0) (x := (V.2.2.1 0 0)) rfl rfl d_Mo_tellsOf_29 ?_
  refine g_getI (pc := 30) hC fo_Mo_245 (ob_Mo hV) rfl d_Mo_tellsOf_30 ?_
  refine g_imul (pc := 33) hC d_Mo_tellsOf_33 ?_
  refine g_iload_n (pc := 34) hC (i := 2) (x := x2) rfl rfl d_Mo_tellsOf_34 ?_
  refine g_iadd (pc := 35) hC d_Mo_tellsOf_35 ?_
  refine g_iald (pc := 36) hC (ar_Mo_31 hV) d_Mo_tellsOf_36 h (fun h => ?_)
  refine g_iast (pc := 37) hC (ar_Mo_53 hV) d_Mo_tellsOf_37 h (fun h => ?_)
  refine g_letS h (fun S37 h => ?_)
  refine g_aload_n (pc := 38) hC (i := 0) (x := (V.2.2.1 0 0)) rfl rfl d_Mo_tellsOf_38 ?_
  refine g_getA (pc := 39) hC fo_Mo_128 (ob_Mo hV) rfl d_Mo_tellsOf_39 ?_
  refine g_bipush (pc := 42) hC kb_7 d_Mo_tellsOf_42 ?_
  refine g_iload_n (pc := 44) hC (i := 1) (x := x1) rfl rfl d_Mo_tellsOf_44 ?_
  refine g_iast (pc := 45) hC (ar_Mo_53 hV) d_Mo_tellsOf_45 h (fun h => ?_)
  refine g_letS h (fun S45 h => ?_)
  refine g_aload_n (pc := 46) hC (i := 0) (x := (V.2.2.1 0 0)) rfl rfl d_Mo_tellsOf_46 ?_
  refine g_iconst (pc := 47) hC kc_1 d_Mo_tellsOf_47 ?_
  refine g_iconst (pc := 48) hC kc_0 d_Mo_tellsOf_48 ?_
  refine g_bipush (pc := 49) hC kb_100 d_Mo_tellsOf_49 ?_
  obtain ⟨q51, hq51, h⟩ := Option.bind_eq_some_iff.mp h
  refine g_vi (pc := 51) hC (As := [.int 1, .int 0, .int 100]) (st := []) mt_Mo_asks lk_Mo_389 rfl (ob_Mo hV) (Nat.le_of_ble_eq_true rfl) ⟨Nat.le_of_ble_eq_true rfl, Nat.le_of_ble_eq_true rfl⟩ rfl d_Mo_tellsOf_51 (c_Mo_asks hV hq51) ?_
  exact g_iW (pc := 54) hC rfl d_Mo_tellsOf_54 h
theorem c_Mo_tellsOf {V : WV} {l : Launch} (hV : IsM V) {x1 : Int32} {x2 : Int32} {S : Mem} {z : Int32 × Mem} (h : f_Mo_tellsOf x1 x2 S = some z) : CI V l y_Mo_tellsOf bc_Mo_tellsOf 3 (some .int) 7 152 [.ref (V.2.2.1 0 0), .int x1, .int x2] S z.1 z.2 :=
  ct_i rfl (IsM.ok hV) (Nat.le_of_ble_eq_true rfl) (fun _ _ hC => w_Mo_tellsOf_b0 hV hC x1 x2 S h)
