/-! methods of the bytecode as functions, and the machine's walks of them. By program (wip/whole/gen/make.py): Mo_drinks, Mo_isOpen, Mo_tellsAll, Mo_dayGoes, Mo_goes, Mo_well, Mo_man, Mo_secret, Mo_tells, Mo_keeps, Mo_days, Mo_whispers, Mo_whisper, Mo_drill, Mo_tell, Mo_go, Mo_cut, Mo_undo, Mo_isLong, Mo_wellIn -/
def f_Mo_drinks_b0 (x1 : Int32) (S : Mem) : Option (Mem) :=
  gIn (12 + x1) 40 (
  letS (S.2.1 0 57 (12 + x1).toNatClampNeg) (fun y9 =>
  Option.bind (f_Mo_drinksOf x1 S) (fun q12 =>
  letS q12.1 (fun y15 =>
  gIn y9 40 (
  if (q12.2.2.1 0 57 y9.toNatClampNeg) < y15 then
    gIn y9 40 (letS (sA q12.2 0 57 y9 0) (fun S53 =>
    gIn (19 + x1) 40 (
    gIn (19 + x1) 40 (letS (sA S53 0 57 (19 + x1) ((S53.2.1 0 57 (19 + x1).toNatClampNeg) + 1)) (fun S66 =>
    gIn (19 + x1) 40 (
    gIn (S66.1 0 18) 2 (
    if (S66.2.1 0 57 (19 + x1).toNatClampNeg) < (S66.2.1 0 37 (S66.1 0 18).toNatClampNeg) then
      some S66
    else
      gIn 33 40 (
      gIn 33 40 (letS (sA S66 0 57 33 ((S66.2.1 0 57 (33 : Int32).toNatClampNeg) &&& (((1 : Int32) <<< (x1 &&& 31)) ^^^ (-1)))) (fun S102 =>
      some S102))))))))))
  else
    gIn y9 40 (
    gIn y9 40 (letS (sA q12.2 0 57 y9 ((q12.2.2.1 0 57 y9.toNatClampNeg) - y15)) (fun S35 =>
    gIn (19 + x1) 40 (letS (sA S35 0 57 (19 + x1) 0) (fun S45 =>
    some S45))))))))))
def f_Mo_drinks (x1 : Int32) (S : Mem) : Option (Mem) := f_Mo_drinks_b0  x1 S
theorem d_Mo_drinks_0 : decode bc_Mo_drinks 0 = .ok (.aload_n 0, 1) := by decide +kernel
theorem d_Mo_drinks_1 : decode bc_Mo_drinks 1 = .ok (.getfield 137, 3) := by decide +kernel
theorem d_Mo_drinks_4 : decode bc_Mo_drinks 4 = .ok (.bipush 12, 2) := by decide +kernel
theorem d_Mo_drinks_6 : decode bc_Mo_drinks 6 = .ok (.iload_n 1, 1) := by decide +kernel
theorem d_Mo_drinks_7 : decode bc_Mo_drinks 7 = .ok (.iadd, 1) := by decide +kernel
theorem d_Mo_drinks_8 : decode bc_Mo_drinks 8 = .ok (.iaload, 1) := by decide +kernel
theorem d_Mo_drinks_9 : decode bc_Mo_drinks 9 = .ok (.istore_n 2, 1) := by decide +kernel
theorem d_Mo_drinks_10 : decode bc_Mo_drinks 10 = .ok (.aload_n 0, 1) := by decide +kernel
theorem d_Mo_drinks_11 : decode bc_Mo_drinks 11 = .ok (.iload_n 1, 1) := by decide +kernel
theorem d_Mo_drinks_12 : decode bc_Mo_drinks 12 = .ok (.invokevirtual 395, 3) := by decide +kernel
theorem d_Mo_drinks_15 : decode bc_Mo_drinks 15 = .ok (.istore_n 3, 1) := by decide +kernel
theorem d_Mo_drinks_16 : decode bc_Mo_drinks 16 = .ok (.aload_n 0, 1) := by decide +kernel
theorem d_Mo_drinks_17 : decode bc_Mo_drinks 17 = .ok (.getfield 137, 3) := by decide +kernel
theorem d_Mo_drinks_20 : decode bc_Mo_drinks 20 = .ok (.iload_n 2, 1) := by decide +kernel
theorem d_Mo_drinks_21 : decode bc_Mo_drinks 21 = .ok (.iaload, 1) := by decide +kernel
theorem d_Mo_drinks_22 : decode bc_Mo_drinks 22 = .ok (.iload_n 3, 1) := by decide +kernel
theorem d_Mo_drinks_23 : decode bc_Mo_drinks 23 = .ok (.if_icmp .lt 24, 3) := by decide +kernel
theorem d_Mo_drinks_26 : decode bc_Mo_drinks 26 = .ok (.aload_n 0, 1) := by decide +kernel
theorem d_Mo_drinks_27 : decode bc_Mo_drinks 27 = .ok (.getfield 137, 3) := by decide +kernel
theorem d_Mo_drinks_30 : decode bc_Mo_drinks 30 = .ok (.iload_n 2, 1) := by decide +kernel
theorem d_Mo_drinks_31 : decode bc_Mo_drinks 31 = .ok (.dup2, 1) := by decide +kernel
theorem d_Mo_drinks_32 : decode bc_Mo_drinks 32 = .ok (.iaload, 1) := by decide +kernel
theorem d_Mo_drinks_33 : decode bc_Mo_drinks 33 = .ok (.iload_n 3, 1) := by decide +kernel
theorem d_Mo_drinks_34 : decode bc_Mo_drinks 34 = .ok (.isub, 1) := by decide +kernel
theorem d_Mo_drinks_35 : decode bc_Mo_drinks 35 = .ok (.iastore, 1) := by decide +kernel
theorem d_Mo_drinks_36 : decode bc_Mo_drinks 36 = .ok (.aload_n 0, 1) := by decide +kernel
theorem d_Mo_drinks_37 : decode bc_Mo_drinks 37 = .ok (.getfield 137, 3) := by decide +kernel
theorem d_Mo_drinks_40 : decode bc_Mo_drinks 40 = .ok (.bipush 19, 2) := by decide +kernel
theorem d_Mo_drinks_42 : decode bc_Mo_drinks 42 = .ok (.iload_n 1, 1) := by decide +kernel
theorem d_Mo_drinks_43 : decode bc_Mo_drinks 43 = .ok (.iadd, 1) := by decide +kernel
theorem d_Mo_drinks_44 : decode bc_Mo_drinks 44 = .ok (.iconst 0, 1) := by decide +kernel
theorem d_Mo_drinks_45 : decode bc_Mo_drinks 45 = .ok (.iastore, 1) := by decide +kernel
theorem d_Mo_drinks_46 : decode bc_Mo_drinks 46 = .ok (.return_, 1) := by decide +kernel
theorem d_Mo_drinks_47 : decode bc_Mo_drinks 47 = .ok (.aload_n 0, 1) := by decide +kernel
theorem d_Mo_drinks_48 : decode bc_Mo_drinks 48 = .ok (.getfield 137, 3) := by decide +kernel
theorem d_Mo_drinks_51 : decode bc_Mo_drinks 51 = .ok (.iload_n 2, 1) := by decide +kernel
theorem d_Mo_drinks_52 : decode bc_Mo_drinks 52 = .ok (.iconst 0, 1) := by decide +kernel
theorem d_Mo_drinks_53 : decode bc_Mo_drinks 53 = .ok (.iastore, 1) := by decide +kernel
theorem d_Mo_drinks_54 : decode bc_Mo_drinks 54 = .ok (.aload_n 0, 1) := by decide +kernel
theorem d_Mo_drinks_55 : decode bc_Mo_drinks 55 = .ok (.getfield 137, 3) := by decide +kernel
theorem d_Mo_drinks_58 : decode bc_Mo_drinks 58 = .ok (.bipush 19, 2) := by decide +kernel
theorem d_Mo_drinks_60 : decode bc_Mo_drinks 60 = .ok (.iload_n 1, 1) := by decide +kernel
theorem d_Mo_drinks_61 : decode bc_Mo_drinks 61 = .ok (.iadd, 1) := by decide +kernel
theorem d_Mo_drinks_62 : decode bc_Mo_drinks 62 = .ok (.dup2, 1) := by decide +kernel
theorem d_Mo_drinks_63 : decode bc_Mo_drinks 63 = .ok (.iaload, 1) := by decide +kernel
theorem d_Mo_drinks_64 : decode bc_Mo_drinks 64 = .ok (.iconst 1, 1) := by decide +kernel
theorem d_Mo_drinks_65 : decode bc_Mo_drinks 65 = .ok (.iadd, 1) := by decide +kernel
theorem d_Mo_drinks_66 : decode bc_Mo_drinks 66 = .ok (.iastore, 1) := by decide +kernel
theorem d_Mo_drinks_67 : decode bc_Mo_drinks 67 = .ok (.aload_n 0, 1) := by decide +kernel
theorem d_Mo_drinks_68 : decode bc_Mo_drinks 68 = .ok (.getfield 137, 3) := by decide +kernel
theorem d_Mo_drinks_71 : decode bc_Mo_drinks 71 = .ok (.bipush 19, 2) := by decide +kernel
theorem d_Mo_drinks_73 : decode bc_Mo_drinks 73 = .ok (.iload_n 1, 1) := by decide +kernel
theorem d_Mo_drinks_74 : decode bc_Mo_drinks 74 = .ok (.iadd, 1) := by decide +kernel
theorem d_Mo_drinks_75 : decode bc_Mo_drinks 75 = .ok (.iaload, 1) := by decide +kernel
theorem d_Mo_drinks_76 : decode bc_Mo_drinks 76 = .ok (.aload_n 0, 1) := by decide +kernel
theorem d_Mo_drinks_77 : decode bc_Mo_drinks 77 = .ok (.getfield 89, 3) := by decide +kernel
theorem d_Mo_drinks_80 : decode bc_Mo_drinks 80 = .ok (.aload_n 0, 1) := by decide +kernel
theorem d_Mo_drinks_81 : decode bc_Mo_drinks 81 = .ok (.getfield 245, 3) := by decide +kernel
theorem d_Mo_drinks_84 : decode bc_Mo_drinks 84 = .ok (.iaload, 1) := by decide +kernel
theorem d_Mo_drinks_85 : decode bc_Mo_drinks 85 = .ok (.if_icmp .lt 18, 3) := by decide +kernel
theorem d_Mo_drinks_88 : decode bc_Mo_drinks 88 = .ok (.aload_n 0, 1) := by decide +kernel
theorem d_Mo_drinks_89 : decode bc_Mo_drinks 89 = .ok (.getfield 137, 3) := by decide +kernel
theorem d_Mo_drinks_92 : decode bc_Mo_drinks 92 = .ok (.bipush 33, 2) := by decide +kernel
theorem d_Mo_drinks_94 : decode bc_Mo_drinks 94 = .ok (.dup2, 1) := by decide +kernel
theorem d_Mo_drinks_95 : decode bc_Mo_drinks 95 = .ok (.iaload, 1) := by decide +kernel
theorem d_Mo_drinks_96 : decode bc_Mo_drinks 96 = .ok (.iconst 1, 1) := by decide +kernel
theorem d_Mo_drinks_97 : decode bc_Mo_drinks 97 = .ok (.iload_n 1, 1) := by decide +kernel
theorem d_Mo_drinks_98 : decode bc_Mo_drinks 98 = .ok (.ishl, 1) := by decide +kernel
theorem d_Mo_drinks_99 : decode bc_Mo_drinks 99 = .ok (.iconst (-1), 1) := by decide +kernel
theorem d_Mo_drinks_100 : decode bc_Mo_drinks 100 = .ok (.ixor, 1) := by decide +kernel
theorem d_Mo_drinks_101 : decode bc_Mo_drinks 101 = .ok (.iand, 1) := by decide +kernel
theorem d_Mo_drinks_102 : decode bc_Mo_drinks 102 = .ok (.iastore, 1) := by decide +kernel
theorem d_Mo_drinks_103 : decode bc_Mo_drinks 103 = .ok (.return_, 1) := by decide +kernel
set_option maxRecDepth 20000 in
theorem w_Mo_drinks_b0 {X : CX} {V : WV} (hV : IsM V) {z : Mem} (hC : Ck X V bc_Mo_drinks 4 "SecretWellsModel" none 8 173) (x1 : Int32) (S : Mem) (h : f_Mo_drinks_b0  x1 S = some z) : G X V 4 (QV X V z) 0 [some (.ref (V.2.2.1 0 0)), some (.int x1), none, none] [] S := by
  unfold f_Mo_drinks_b0 at h
  refine g_aload_n (pc := 0) hC (i := 0) (x := (V.2.2.1 0 0)) rfl rfl d_Mo_drinks_0 ?_
  refine g_getA (pc := 1) hC fo_Mo_137 (ob_Mo hV) rfl d_Mo_drinks_1 ?_
  refine g_bipush (pc := 4) hC kb_12 d_Mo_drinks_4 ?_
  refine g_iload_n (pc := 6) hC (i := 1) (x := x1) rfl rfl d_Mo_drinks_6 ?_
  refine g_iadd (pc := 7) hC d_Mo_drinks_7 ?_
  refine g_iald (pc := 8) hC (ar_Mo_57 hV) d_Mo_drinks_8 h (fun h => ?_)
  refine g_leti h (fun y9 h => ?_)
  refine s_istore_n (pc := 9) hC (i := 2) rfl (by decide) d_Mo_drinks_9 (lv2 := [some (.ref (V.2.2.1 0 0)), some (.int x1), some (.int y9), none]) rfl ?_
  refine g_aload_n (pc := 10) hC (i := 0) (x := (V.2.2.1 0 0)) rfl rfl d_Mo_drinks_10 ?_
  refine g_iload_n (pc := 11) hC (i := 1) (x := x1) rfl rfl d_Mo_drinks_11 ?_
  obtain ⟨q12, hq12, h⟩ := Option.bind_eq_some_iff.mp h
  refine g_vi (pc := 12) hC (As := [.int x1]) (st := []) mt_Mo_drinksOf lk_Mo_395 rfl (ob_Mo hV) (Nat.le_of_ble_eq_true rfl) ⟨Nat.le_of_ble_eq_true rfl, Nat.le_of_ble_eq_true rfl⟩ rfl d_Mo_drinks_12 (c_Mo_drinksOf hV hq12) ?_
  refine g_leti h (fun y15 h => ?_)
  refine s_istore_n (pc := 15) hC (i := 3) rfl (by decide) d_Mo_drinks_15 (lv2 := [some (.ref (V.2.2.1 0 0)), some (.int x1), some (.int y9), some (.int y15)]) rfl ?_
  refine g_aload_n (pc := 16) hC (i := 0) (x := (V.2.2.1 0 0)) rfl rfl d_Mo_drinks_16 ?_
  refine g_getA (pc := 17) hC fo_Mo_137 (ob_Mo hV) rfl d_Mo_drinks_17 ?_
  refine g_iload_n (pc := 20) hC (i := 2) (x := y9) rfl rfl d_Mo_drinks_20 ?_
  refine g_iald (pc := 21) hC (ar_Mo_57 hV) d_Mo_drinks_21 h (fun h => ?_)
  refine g_iload_n (pc := 22) hC (i := 3) (x := y15) rfl rfl d_Mo_drinks_22 ?_
  refine g_icmp_lt (pc := 23) hC (tgt := 47) (by decide) d_Mo_drinks_23 h (fun h => ?_) (fun h => ?_)
  · refine g_aload_n (pc := 47) hC (i := 0) (x := (V.2.2.1 0 0)) rfl rfl d_Mo_drinks_47 ?_
    refine g_getA (pc := 48) hC fo_Mo_137 (ob_Mo hV) rfl d_Mo_drinks_48 ?_
    refine g_iload_n (pc := 51) hC (i := 2) (x := y9) rfl rfl d_Mo_drinks_51 ?_
    refine g_iconst (pc := 52) hC kc_0 d_Mo_drinks_52 ?_
    refine g_iast (pc := 53) hC (ar_Mo_57 hV) d_Mo_drinks_53 h (fun h => ?_)
    refine g_letS h (fun S53 h => ?_)
    refine g_aload_n (pc := 54) hC (i := 0) (x := (V.2.2.1 0 0)) rfl rfl d_Mo_drinks_54 ?_
    refine g_getA (pc := 55) hC fo_Mo_137 (ob_Mo hV) rfl d_Mo_drinks_55 ?_
    refine g_bipush (pc := 58) hC kb_19 d_Mo_drinks_58 ?_
    refine g_iload_n (pc := 60) hC (i := 1) (x := x1) rfl rfl d_Mo_drinks_60 ?_
    refine g_iadd (pc := 61) hC d_Mo_drinks_61 ?_
    refine g_dup2 (pc := 62) hC rfl rfl d_Mo_drinks_62 ?_
    refine g_iald (pc := 63) hC (ar_Mo_57 hV) d_Mo_drinks_63 h (fun h => ?_)
    refine g_iconst (pc := 64) hC kc_1 d_Mo_drinks_64 ?_
    refine g_iadd (pc := 65) hC d_Mo_drinks_65 ?_
    refine g_iast (pc := 66) hC (ar_Mo_57 hV) d_Mo_drinks_66 h (fun h => ?_)
    refine g_letS h (fun S66 h => ?_)
    refine g_aload_n (pc := 67) hC (i := 0) (x := (V.2.2.1 0 0)) rfl rfl d_Mo_drinks_67 ?_
    refine g_getA (pc := 68) hC fo_Mo_137 (ob_Mo hV) rfl d_Mo_drinks_68 ?_
    refine g_bipush (pc := 71) hC kb_19 d_Mo_drinks_71 ?_
    refine g_iload_n (pc := 73) hC (i := 1) (x := x1) rfl rfl d_Mo_drinks_73 ?_
    refine g_iadd (pc := 74) hC d_Mo_drinks_74 ?_
    refine g_iald (pc := 75) hC (ar_Mo_57 hV) d_Mo_drinks_75 h (fun h => ?_)
    refine g_aload_n (pc := 76) hC (i := 0) (x := (V.2.2.1 0 0)) rfl rfl d_Mo_drinks_76 ?_
    refine g_getA (pc := 77) hC fo_Mo_89 (ob_Mo hV) rfl d_Mo_drinks_77 ?_
    refine g_aload_n (pc := 80) hC (i := 0) (x := (V.2.2.1 0 0)) rfl rfl d_Mo_drinks_80 ?_
    refine g_getI (pc := 81) hC fo_Mo_245 (ob_Mo hV) rfl d_Mo_drinks_81 ?_
    refine g_iald (pc := 84) hC (ar_Mo_37 hV) d_Mo_drinks_84 h (fun h => ?_)
    refine g_icmp_lt (pc := 85) hC (tgt := 103) (by decide) d_Mo_drinks_85 h (fun h => ?_) (fun h => ?_)
    · exact g_vW (pc := 103) hC d_Mo_drinks_103 h
    · refine g_aload_n (pc := 88) hC (i := 0) (x := (V.2.2.1 0 0)) rfl rfl d_Mo_drinks_88 ?_
      refine g_getA (pc := 89) hC fo_Mo_137 (ob_Mo hV) rfl d_Mo_drinks_89 ?_
      refine g_bipush (pc := 92) hC kb_33 d_Mo_drinks_92 ?_
      refine g_dup2 (pc := 94) hC rfl rfl d_Mo_drinks_94 ?_
      refine g_iald (pc := 95) hC (ar_Mo_57 hV) d_Mo_drinks_95 h (fun h => ?_)
      refine g_iconst (pc := 96) hC kc_1 d_Mo_drinks_96 ?_
      refine g_iload_n (pc := 97) hC (i := 1) (x := x1) rfl rfl d_Mo_drinks_97 ?_
      refine g_ishl (pc := 98) hC d_Mo_drinks_98 ?_
      refine g_iconst (pc := 99) hC kc_m1 d_Mo_drinks_99 ?_
      refine g_ixor (pc := 100) hC d_Mo_drinks_100 ?_
      refine g_iand (pc := 101) hC d_Mo_drinks_101 ?_
      refine g_iast (pc := 102) hC (ar_Mo_57 hV) d_Mo_drinks_102 h (fun h => ?_)
      refine g_letS h (fun S102 h => ?_)
      exact g_vW (pc := 103) hC d_Mo_drinks_103 h
  · refine g_aload_n (pc := 26) hC (i := 0) (x := (V.2.2.1 0 0)) rfl rfl d_Mo_drinks_26 ?_
    refine g_getA (pc := 27) hC fo_Mo_137 (ob_Mo hV) rfl d_Mo_drinks_27 ?_
    refine g_iload_n (pc := 30) hC (i := 2) (x := y9) rfl rfl d_Mo_drinks_30 ?_
    refine g_dup2 (pc := 31) hC rfl rfl d_Mo_drinks_31 ?_
    refine g_iald (pc := 32) hC (ar_Mo_57 hV) d_Mo_drinks_32 h (fun h => ?_)
    refine g_iload_n (pc := 33) hC (i := 3) (x := y15) rfl rfl d_Mo_drinks_33 ?_
    refine g_isub (pc := 34) hC d_Mo_drinks_34 ?_
    refine g_iast (pc := 35) hC (ar_Mo_57 hV) d_Mo_drinks_35 h (fun h => ?_)
    refine g_letS h (fun S35 h => ?_)
    refine g_aload_n (pc := 36) hC (i := 0) (x := (V.2.2.1 0 0)) rfl rfl d_Mo_drinks_36 ?_
    refine g_getA (pc := 37) hC fo_Mo_137 (ob_Mo hV) rfl d_Mo_drinks_37 ?_
    refine g_bipush (pc := 40) hC kb_19 d_Mo_drinks_40 ?_
    refine g_iload_n (pc := 42) hC (i := 1) (x := x1) rfl rfl d_Mo_drinks_42 ?_
    refine g_iadd (pc := 43) hC d_Mo_drinks_43 ?_
    refine g_iconst (pc := 44) hC kc_0 d_Mo_drinks_44 ?_
    refine g_iast (pc := 45) hC (ar_Mo_57 hV) d_Mo_drinks_45 h (fun h => ?_)
    refine g_letS h (fun S45 h => ?_)
    exact g_vW (pc := 46) hC d_Mo_drinks_46 h
theorem c_Mo_drinks {V : WV} {l : Launch} (hV : IsM V) {x1 : Int32} {S : Mem} {z : Mem} (h : f_Mo_drinks x1 S = some z) : CV V l y_Mo_drinks bc_Mo_drinks 4 none 8 173 [.ref (V.2.2.1 0 0), .int x1] S z :=
  ct_v rfl (IsM.ok hV) (Nat.le_of_ble_eq_true rfl) (fun _ _ hC => w_Mo_drinks_b0 hV hC x1 S h)
def f_Mo_isOpen_b0 (S : Mem) (x1 : Int32) : Option (Int32) :=
  gIn 34 40 (
  if (((S.2.1 0 57 (34 : Int32).toNatClampNeg) >>> (x1 &&& 31)) &&& 1) = 0 then
    gIn ((12 * (S.1 0 18)) + x1) 24 (
    Option.bind (f_Mo_isAlive (S.2.1 0 35 ((12 * (S.1 0 18)) + x1).toNatClampNeg) S) (fun q29 =>
    if q29 = 0 then
      some 0
    else
      gIn ((12 * (S.1 0 18)) + x1) 24 (
      Option.bind (f_Mo_isAlive (S.2.1 0 36 ((12 * (S.1 0 18)) + x1).toNatClampNeg) S) (fun q50 =>
      if q50 = 0 then
        some 0
      else
        some 1))))
  else
    some 0)
def f_Mo_isOpen (x1 : Int32) (S : Mem) : Option (Int32) := f_Mo_isOpen_b0 S x1
theorem d_Mo_isOpen_0 : decode bc_Mo_isOpen 0 = .ok (.aload_n 0, 1) := by decide +kernel
theorem d_Mo_isOpen_1 : decode bc_Mo_isOpen 1 = .ok (.getfield 137, 3) := by decide +kernel
theorem d_Mo_isOpen_4 : decode bc_Mo_isOpen 4 = .ok (.bipush 34, 2) := by decide +kernel
theorem d_Mo_isOpen_6 : decode bc_Mo_isOpen 6 = .ok (.iaload, 1) := by decide +kernel
theorem d_Mo_isOpen_7 : decode bc_Mo_isOpen 7 = .ok (.iload_n 1, 1) := by decide +kernel
theorem d_Mo_isOpen_8 : decode bc_Mo_isOpen 8 = .ok (.ishr, 1) := by decide +kernel
theorem d_Mo_isOpen_9 : decode bc_Mo_isOpen 9 = .ok (.iconst 1, 1) := by decide +kernel
theorem d_Mo_isOpen_10 : decode bc_Mo_isOpen 10 = .ok (.iand, 1) := by decide +kernel
theorem d_Mo_isOpen_11 : decode bc_Mo_isOpen 11 = .ok (.ifCond .ne 49, 3) := by decide +kernel
theorem d_Mo_isOpen_14 : decode bc_Mo_isOpen 14 = .ok (.aload_n 0, 1) := by decide +kernel
theorem d_Mo_isOpen_15 : decode bc_Mo_isOpen 15 = .ok (.aload_n 0, 1) := by decide +kernel
theorem d_Mo_isOpen_16 : decode bc_Mo_isOpen 16 = .ok (.getfield 83, 3) := by decide +kernel
theorem d_Mo_isOpen_19 : decode bc_Mo_isOpen 19 = .ok (.bipush 12, 2) := by decide +kernel
theorem d_Mo_isOpen_21 : decode bc_Mo_isOpen 21 = .ok (.aload_n 0, 1) := by decide +kernel
theorem d_Mo_isOpen_22 : decode bc_Mo_isOpen 22 = .ok (.getfield 245, 3) := by decide +kernel
theorem d_Mo_isOpen_25 : decode bc_Mo_isOpen 25 = .ok (.imul, 1) := by decide +kernel
theorem d_Mo_isOpen_26 : decode bc_Mo_isOpen 26 = .ok (.iload_n 1, 1) := by decide +kernel
theorem d_Mo_isOpen_27 : decode bc_Mo_isOpen 27 = .ok (.iadd, 1) := by decide +kernel
theorem d_Mo_isOpen_28 : decode bc_Mo_isOpen 28 = .ok (.iaload, 1) := by decide +kernel
theorem d_Mo_isOpen_29 : decode bc_Mo_isOpen 29 = .ok (.invokevirtual 367, 3) := by decide +kernel
theorem d_Mo_isOpen_32 : decode bc_Mo_isOpen 32 = .ok (.ifCond .eq 28, 3) := by decide +kernel
theorem d_Mo_isOpen_35 : decode bc_Mo_isOpen 35 = .ok (.aload_n 0, 1) := by decide +kernel
theorem d_Mo_isOpen_36 : decode bc_Mo_isOpen 36 = .ok (.aload_n 0, 1) := by decide +kernel
theorem d_Mo_isOpen_37 : decode bc_Mo_isOpen 37 = .ok (.getfield 86, 3) := by decide +kernel
theorem d_Mo_isOpen_40 : decode bc_Mo_isOpen 40 = .ok (.bipush 12, 2) := by decide +kernel
theorem d_Mo_isOpen_42 : decode bc_Mo_isOpen 42 = .ok (.aload_n 0, 1) := by decide +kernel
theorem d_Mo_isOpen_43 : decode bc_Mo_isOpen 43 = .ok (.getfield 245, 3) := by decide +kernel
theorem d_Mo_isOpen_46 : decode bc_Mo_isOpen 46 = .ok (.imul, 1) := by decide +kernel
theorem d_Mo_isOpen_47 : decode bc_Mo_isOpen 47 = .ok (.iload_n 1, 1) := by decide +kernel
theorem d_Mo_isOpen_48 : decode bc_Mo_isOpen 48 = .ok (.iadd, 1) := by decide +kernel
theorem d_Mo_isOpen_49 : decode bc_Mo_isOpen 49 = .ok (.iaload, 1) := by decide +kernel
theorem d_Mo_isOpen_50 : decode bc_Mo_isOpen 50 = .ok (.invokevirtual 367, 3) := by decide +kernel
theorem d_Mo_isOpen_53 : decode bc_Mo_isOpen 53 = .ok (.ifCond .eq 7, 3) := by decide +kernel
theorem d_Mo_isOpen_56 : decode bc_Mo_isOpen 56 = .ok (.iconst 1, 1) := by decide +kernel
theorem d_Mo_isOpen_57 : decode bc_Mo_isOpen 57 = .ok (.goto 4, 3) := by decide +kernel
theorem d_Mo_isOpen_60 : decode bc_Mo_isOpen 60 = .ok (.iconst 0, 1) := by decide +kernel
theorem d_Mo_isOpen_61 : decode bc_Mo_isOpen 61 = .ok (.ireturn, 1) := by decide +kernel
set_option maxRecDepth 20000 in
theorem w_Mo_isOpen_b0 {X : CX} {V : WV} (hV : IsM V) {S : Mem} {z : Int32} (hC : Ck X V bc_Mo_isOpen 2 "SecretWellsModel" (some .boolean) 1 21) (x1 : Int32) (h : f_Mo_isOpen_b0 S x1 = some z) : G X V 2 (QI X V z S) 0 [some (.ref (V.2.2.1 0 0)), some (.int x1)] [] S := by
  unfold f_Mo_isOpen_b0 at h
  refine g_aload_n (pc := 0) hC (i := 0) (x := (V.2.2.1 0 0)) rfl rfl d_Mo_isOpen_0 ?_
  refine g_getA (pc := 1) hC fo_Mo_137 (ob_Mo hV) rfl d_Mo_isOpen_1 ?_
  refine g_bipush (pc := 4) hC kb_34 d_Mo_isOpen_4 ?_
  refine g_iald (pc := 6) hC (ar_Mo_57 hV) d_Mo_isOpen_6 h (fun h => ?_)
  refine g_iload_n (pc := 7) hC (i := 1) (x := x1) rfl rfl d_Mo_isOpen_7 ?_
  refine g_ishr (pc := 8) hC d_Mo_isOpen_8 ?_
  refine g_iconst (pc := 9) hC kc_1 d_Mo_isOpen_9 ?_
  refine g_iand (pc := 10) hC d_Mo_isOpen_10 ?_
  refine g_if_ne (pc := 11) hC (tgt := 60) (by decide) d_Mo_isOpen_11 h (fun h => ?_) (fun h => ?_)
  · refine g_iconst (pc := 60) hC kc_0 d_Mo_isOpen_60 ?_
    exact g_iN (pc := 61) hC rfl d_Mo_isOpen_61 h
  · refine g_aload_n (pc := 14) hC (i := 0) (x := (V.2.2.1 0 0)) rfl rfl d_Mo_isOpen_14 ?_
    refine g_aload_n (pc := 15) hC (i := 0) (x := (V.2.2.1 0 0)) rfl rfl d_Mo_isOpen_15 ?_
    refine g_getA (pc := 16) hC fo_Mo_83 (ob_Mo hV) rfl d_Mo_isOpen_16 ?_
    refine g_bipush (pc := 19) hC kb_12 d_Mo_isOpen_19 ?_
    refine g_aload_n (pc := 21) hC (i := 0) (x := (V.2.2.1 0 0)) rfl rfl d_Mo_isOpen_21 ?_
    refine g_getI (pc := 22) hC fo_Mo_245 (ob_Mo hV) rfl d_Mo_isOpen_22 ?_
    refine g_imul (pc := 25) hC d_Mo_isOpen_25 ?_
    refine g_iload_n (pc := 26) hC (i := 1) (x := x1) rfl rfl d_Mo_isOpen_26 ?_
    refine g_iadd (pc := 27) hC d_Mo_isOpen_27 ?_
    refine g_iald (pc := 28) hC (ar_Mo_35 hV) d_Mo_isOpen_28 h (fun h => ?_)
    obtain ⟨q29, hq29, h⟩ := Option.bind_eq_some_iff.mp h
    refine g_vi (pc := 29) hC (As := [.int (S.2.1 0 35 ((12 * (S.1 0 18)) + x1).toNatClampNeg)]) (st := []) mt_Mo_isAlive lk_Mo_367 rfl (ob_Mo hV) (Nat.le_of_ble_eq_true rfl) ⟨Nat.le_of_ble_eq_true rfl, Nat.le_of_ble_eq_true rfl⟩ rfl d_Mo_isOpen_29 (c_Mo_isAlive hV hq29) ?_
    refine g_if_eq (pc := 32) hC (tgt := 60) (by decide) d_Mo_isOpen_32 h (fun h => ?_) (fun h => ?_)
    · refine g_iconst (pc := 60) hC kc_0 d_Mo_isOpen_60 ?_
      exact g_iN (pc := 61) hC rfl d_Mo_isOpen_61 h
    · refine g_aload_n (pc := 35) hC (i := 0) (x := (V.2.2.1 0 0)) rfl rfl d_Mo_isOpen_35 ?_
      refine g_aload_n (pc := 36) hC (i := 0) (x := (V.2.2.1 0 0)) rfl rfl d_Mo_isOpen_36 ?_
      refine g_getA (pc := 37) hC fo_Mo_86 (ob_Mo hV) rfl d_Mo_isOpen_37 ?_
      refine g_bipush (pc := 40) hC kb_12 d_Mo_isOpen_40 ?_
      refine g_aload_n (pc := 42) hC (i := 0) (x := (V.2.2.1 0 0)) rfl rfl d_Mo_isOpen_42 ?_
      refine g_getI (pc := 43) hC fo_Mo_245 (ob_Mo hV) rfl d_Mo_isOpen_43 ?_
      refine g_imul (pc := 46) hC d_Mo_isOpen_46 ?_
      refine g_iload_n (pc := 47) hC (i := 1) (x := x1) rfl rfl d_Mo_isOpen_47 ?_
      refine g_iadd (pc := 48) hC d_Mo_isOpen_48 ?_
      refine g_iald (pc := 49) hC (ar_Mo_36 hV) d_Mo_isOpen_49 h (fun h => ?_)
      obtain ⟨q50, hq50, h⟩ := Option.bind_eq_some_iff.mp h
      refine g_vi (pc := 50) hC (As := [.int (S.2.1 0 36 ((12 * (S.1 0 18)) + x1).toNatClampNeg)]) (st := []) mt_Mo_isAlive lk_Mo_367 rfl (ob_Mo hV) (Nat.le_of_ble_eq_true rfl) ⟨Nat.le_of_ble_eq_true rfl, Nat.le_of_ble_eq_true rfl⟩ rfl d_Mo_isOpen_50 (c_Mo_isAlive hV hq50) ?_
      refine g_if_eq (pc := 53) hC (tgt := 60) (by decide) d_Mo_isOpen_53 h (fun h => ?_) (fun h => ?_)
      · refine g_iconst (pc := 60) hC kc_0 d_Mo_isOpen_60 ?_
        exact g_iN (pc := 61) hC rfl d_Mo_isOpen_61 h
      · refine g_iconst (pc := 56) hC kc_1 d_Mo_isOpen_56 ?_
        refine g_goto (pc := 57) hC (tgt := 61) (by decide) d_Mo_isOpen_57 ?_
        exact g_iN (pc := 61) hC rfl d_Mo_isOpen_61 h
theorem c_Mo_isOpen {V : WV} {l : Launch} (hV : IsM V) {x1 : Int32} {S : Mem} {z : Int32} (h : f_Mo_isOpen x1 S = some z) : CI V l y_Mo_isOpen bc_Mo_isOpen 2 (some .boolean) 1 21 [.ref (V.2.2.1 0 0), .int x1] S z S :=
  ct_i rfl (IsM.ok hV) (Nat.le_of_ble_eq_true rfl) (fun _ _ hC => w_Mo_isOpen_b0 hV hC x1 h)
def f_Mo_tellsAll_b33 (k33 : Int32 → Int32 → Int32 → Int32 → Mem → Option (Mem)) (x1 : Int32) (x2 : Int32) (x3 : Int32) (x4 : Int32) (S : Mem) : Option (Mem) :=
  gIn (S.1 0 18) 2 (
  if (S.2.1 0 30 (S.1 0 18).toNatClampNeg) ≤ x4 then
    some S
  else
    gIn x2 7 (
    if (((S.2.1 0 59 x2.toNatClampNeg) >>> (x4 &&& 31)) &&& 1) = 0 then
      k33 x1 x2 x3 (x4 + 1) S
    else
      Option.bind (f_Mo_knows x3 x4 S) (fun q65 =>
      if q65 = 0 then
        Option.bind (f_Mo_lotOf x1 x4 S) (fun q78 =>
        Option.bind (f_Mo_tellsOf x1 x4 S) (fun q85 =>
        if q85.1 ≤ q78 then
          k33 x1 x2 x3 (x4 + 1) q85.2
        else
          gIn (26 + x3) 40 (
          gIn (26 + x3) 40 (letS (sA q85.2 0 57 (26 + x3) ((q85.2.2.1 0 57 (26 + x3).toNatClampNeg) ||| ((1 : Int32) <<< (x4 &&& 31)))) (fun S106 =>
          k33 x1 x2 x3 (x4 + 1) S106)))))
      else
        k33 x1 x2 x3 (x4 + 1) S)))
def f_Mo_tellsAll_l33 : Nat → Int32 → Int32 → Int32 → Int32 → Mem → Option (Mem)
  | 0 => fun _ _ _ _ _ => none
  | n + 1 => f_Mo_tellsAll_b33  (f_Mo_tellsAll_l33  n)
def f_Mo_tellsAll_b0 (x1 : Int32) (S : Mem) : Option (Mem) :=
  gIn ((12 * (S.1 0 18)) + x1) 24 (
  letS (S.2.1 0 35 ((12 * (S.1 0 18)) + x1).toNatClampNeg) (fun y14 =>
  gIn ((12 * (S.1 0 18)) + x1) 24 (
  letS (S.2.1 0 36 ((12 * (S.1 0 18)) + x1).toNatClampNeg) (fun y29 =>
  f_Mo_tellsAll_l33 5000 x1 y14 y29 0 S))))
def f_Mo_tellsAll (x1 : Int32) (S : Mem) : Option (Mem) := f_Mo_tellsAll_b0  x1 S
theorem d_Mo_tellsAll_0 : decode bc_Mo_tellsAll 0 = .ok (.aload_n 0, 1) := by decide +kernel
theorem d_Mo_tellsAll_1 : decode bc_Mo_tellsAll 1 = .ok (.getfield 83, 3) := by decide +kernel
theorem d_Mo_tellsAll_4 : decode bc_Mo_tellsAll 4 = .ok (.bipush 12, 2) := by decide +kernel
theorem d_Mo_tellsAll_6 : decode bc_Mo_tellsAll 6 = .ok (.aload_n 0, 1) := by decide +kernel
theorem d_Mo_tellsAll_7 : decode bc_Mo_tellsAll 7 = .ok (.getfield 245, 3) := by decide +kernel
theorem d_Mo_tellsAll_10 : decode bc_Mo_tellsAll 10 = .ok (.imul, 1) := by decide +kernel
theorem d_Mo_tellsAll_11 : decode bc_Mo_tellsAll 11 = .ok (.iload_n 1, 1) := by decide +kernel
theorem d_Mo_tellsAll_12 : decode bc_Mo_tellsAll 12 = .ok (.iadd, 1) := by decide +kernel
theorem d_Mo_tellsAll_13 : decode bc_Mo_tellsAll 13 = .ok (.iaload, 1) := by decide +kernel
theorem d_Mo_tellsAll_14 : decode bc_Mo_tellsAll 14 = .ok (.istore_n 2, 1) := by decide +kernel
theorem d_Mo_tellsAll_15 : decode bc_Mo_tellsAll 15 = .ok (.aload_n 0, 1) := by decide +kernel
theorem d_Mo_tellsAll_16 : decode bc_Mo_tellsAll 16 = .ok (.getfield 86, 3) := by decide +kernel
theorem d_Mo_tellsAll_19 : decode bc_Mo_tellsAll 19 = .ok (.bipush 12, 2) := by decide +kernel
theorem d_Mo_tellsAll_21 : decode bc_Mo_tellsAll 21 = .ok (.aload_n 0, 1) := by decide +kernel
theorem d_Mo_tellsAll_22 : decode bc_Mo_tellsAll 22 = .ok (.getfield 245, 3) := by decide +kernel
theorem d_Mo_tellsAll_25 : decode bc_Mo_tellsAll 25 = .ok (.imul, 1) := by decide +kernel
theorem d_Mo_tellsAll_26 : decode bc_Mo_tellsAll 26 = .ok (.iload_n 1, 1) := by decide +kernel
theorem d_Mo_tellsAll_27 : decode bc_Mo_tellsAll 27 = .ok (.iadd, 1) := by decide +kernel
theorem d_Mo_tellsAll_28 : decode bc_Mo_tellsAll 28 = .ok (.iaload, 1) := by decide +kernel
theorem d_Mo_tellsAll_29 : decode bc_Mo_tellsAll 29 = .ok (.istore_n 3, 1) := by decide +kernel
theorem d_Mo_tellsAll_30 : decode bc_Mo_tellsAll 30 = .ok (.iconst 0, 1) := by decide +kernel
theorem d_Mo_tellsAll_31 : decode bc_Mo_tellsAll 31 = .ok (.istore 4, 2) := by decide +kernel
theorem d_Mo_tellsAll_33 : decode bc_Mo_tellsAll 33 = .ok (.iload 4, 2) := by decide +kernel
theorem d_Mo_tellsAll_35 : decode bc_Mo_tellsAll 35 = .ok (.aload_n 0, 1) := by decide +kernel
theorem d_Mo_tellsAll_36 : decode bc_Mo_tellsAll 36 = .ok (.getfield 67, 3) := by decide +kernel
theorem d_Mo_tellsAll_39 : decode bc_Mo_tellsAll 39 = .ok (.aload_n 0, 1) := by decide +kernel
theorem d_Mo_tellsAll_40 : decode bc_Mo_tellsAll 40 = .ok (.getfield 245, 3) := by decide +kernel
theorem d_Mo_tellsAll_43 : decode bc_Mo_tellsAll 43 = .ok (.iaload, 1) := by decide +kernel
theorem d_Mo_tellsAll_44 : decode bc_Mo_tellsAll 44 = .ok (.if_icmp .ge 69, 3) := by decide +kernel
theorem d_Mo_tellsAll_47 : decode bc_Mo_tellsAll 47 = .ok (.aload_n 0, 1) := by decide +kernel
theorem d_Mo_tellsAll_48 : decode bc_Mo_tellsAll 48 = .ok (.getfield 140, 3) := by decide +kernel
theorem d_Mo_tellsAll_51 : decode bc_Mo_tellsAll 51 = .ok (.iload_n 2, 1) := by decide +kernel
theorem d_Mo_tellsAll_52 : decode bc_Mo_tellsAll 52 = .ok (.iaload, 1) := by decide +kernel
theorem d_Mo_tellsAll_53 : decode bc_Mo_tellsAll 53 = .ok (.iload 4, 2) := by decide +kernel
theorem d_Mo_tellsAll_55 : decode bc_Mo_tellsAll 55 = .ok (.ishr, 1) := by decide +kernel
theorem d_Mo_tellsAll_56 : decode bc_Mo_tellsAll 56 = .ok (.iconst 1, 1) := by decide +kernel
theorem d_Mo_tellsAll_57 : decode bc_Mo_tellsAll 57 = .ok (.iand, 1) := by decide +kernel
theorem d_Mo_tellsAll_58 : decode bc_Mo_tellsAll 58 = .ok (.ifCond .eq 49, 3) := by decide +kernel
theorem d_Mo_tellsAll_61 : decode bc_Mo_tellsAll 61 = .ok (.aload_n 0, 1) := by decide +kernel
theorem d_Mo_tellsAll_62 : decode bc_Mo_tellsAll 62 = .ok (.iload_n 3, 1) := by decide +kernel
theorem d_Mo_tellsAll_63 : decode bc_Mo_tellsAll 63 = .ok (.iload 4, 2) := by decide +kernel
theorem d_Mo_tellsAll_65 : decode bc_Mo_tellsAll 65 = .ok (.invokevirtual 342, 3) := by decide +kernel
theorem d_Mo_tellsAll_68 : decode bc_Mo_tellsAll 68 = .ok (.ifCond .eq 6, 3) := by decide +kernel
theorem d_Mo_tellsAll_71 : decode bc_Mo_tellsAll 71 = .ok (.goto 36, 3) := by decide +kernel
theorem d_Mo_tellsAll_74 : decode bc_Mo_tellsAll 74 = .ok (.aload_n 0, 1) := by decide +kernel
theorem d_Mo_tellsAll_75 : decode bc_Mo_tellsAll 75 = .ok (.iload_n 1, 1) := by decide +kernel
theorem d_Mo_tellsAll_76 : decode bc_Mo_tellsAll 76 = .ok (.iload 4, 2) := by decide +kernel
theorem d_Mo_tellsAll_78 : decode bc_Mo_tellsAll 78 = .ok (.invokevirtual 398, 3) := by decide +kernel
theorem d_Mo_tellsAll_81 : decode bc_Mo_tellsAll 81 = .ok (.aload_n 0, 1) := by decide +kernel
theorem d_Mo_tellsAll_82 : decode bc_Mo_tellsAll 82 = .ok (.iload_n 1, 1) := by decide +kernel
theorem d_Mo_tellsAll_83 : decode bc_Mo_tellsAll 83 = .ok (.iload 4, 2) := by decide +kernel
theorem d_Mo_tellsAll_85 : decode bc_Mo_tellsAll 85 = .ok (.invokevirtual 401, 3) := by decide +kernel
theorem d_Mo_tellsAll_88 : decode bc_Mo_tellsAll 88 = .ok (.if_icmp .ge 19, 3) := by decide +kernel
theorem d_Mo_tellsAll_91 : decode bc_Mo_tellsAll 91 = .ok (.aload_n 0, 1) := by decide +kernel
theorem d_Mo_tellsAll_92 : decode bc_Mo_tellsAll 92 = .ok (.getfield 137, 3) := by decide +kernel
theorem d_Mo_tellsAll_95 : decode bc_Mo_tellsAll 95 = .ok (.bipush 26, 2) := by decide +kernel
theorem d_Mo_tellsAll_97 : decode bc_Mo_tellsAll 97 = .ok (.iload_n 3, 1) := by decide +kernel
theorem d_Mo_tellsAll_98 : decode bc_Mo_tellsAll 98 = .ok (.iadd, 1) := by decide +kernel
theorem d_Mo_tellsAll_99 : decode bc_Mo_tellsAll 99 = .ok (.dup2, 1) := by decide +kernel
theorem d_Mo_tellsAll_100 : decode bc_Mo_tellsAll 100 = .ok (.iaload, 1) := by decide +kernel
theorem d_Mo_tellsAll_101 : decode bc_Mo_tellsAll 101 = .ok (.iconst 1, 1) := by decide +kernel
theorem d_Mo_tellsAll_102 : decode bc_Mo_tellsAll 102 = .ok (.iload 4, 2) := by decide +kernel
theorem d_Mo_tellsAll_104 : decode bc_Mo_tellsAll 104 = .ok (.ishl, 1) := by decide +kernel
theorem d_Mo_tellsAll_105 : decode bc_Mo_tellsAll 105 = .ok (.ior, 1) := by decide +kernel
theorem d_Mo_tellsAll_106 : decode bc_Mo_tellsAll 106 = .ok (.iastore, 1) := by decide +kernel
theorem d_Mo_tellsAll_107 : decode bc_Mo_tellsAll 107 = .ok (.iinc 4 1, 3) := by decide +kernel
theorem d_Mo_tellsAll_110 : decode bc_Mo_tellsAll 110 = .ok (.goto (-77), 3) := by decide +kernel
theorem d_Mo_tellsAll_113 : decode bc_Mo_tellsAll 113 = .ok (.return_, 1) := by decide +kernel
set_option maxRecDepth 20000 in
theorem w_Mo_tellsAll_b33 {X : CX} {V : WV} (hV : IsM V) {z : Mem} (hC : Ck X V bc_Mo_tellsAll 5 "SecretWellsModel" none 8 174) (k33 : Int32 → Int32 → Int32 → Int32 → Mem → Option (Mem)) (hk33 : ∀ (x1 : Int32) (x2 : Int32) (x3 : Int32) (x4 : Int32) (S : Mem), k33 x1 x2 x3 x4 S = some z → G X V 5 (QV X V z) 33 [some (.ref (V.2.2.1 0 0)), some (.int x1), some (.int x2), some (.int x3), some (.int x4)] [] S) (x1 : Int32) (x2 : Int32) (x3 : Int32) (x4 : Int32) (S : Mem) (h : f_Mo_tellsAll_b33  k33 x1 x2 x3 x4 S = some z) : G X V 5 (QV X V z) 33 [some (.ref (V.2.2.1 0 0)), some (.int x1), some (.int x2), some (.int x3), some (.int x4)] [] S := by
  unfold f_Mo_tellsAll_b33 at h
  refine g_iload (pc := 33) hC (i := 4) (x := x4) rfl d_Mo_tellsAll_33 ?_
  refine g_aload_n (pc := 35) hC (i := 0) (x := (V.2.2.1 0 0)) rfl rfl d_Mo_tellsAll_35 ?_
  refine g_getA (pc := 36) hC fo_Mo_67 (ob_Mo hV) rfl d_Mo_tellsAll_36 ?_
  refine g_aload_n (pc := 39) hC (i := 0) (x := (V.2.2.1 0 0)) rfl rfl d_Mo_tellsAll_39 ?_
  refine g_getI (pc := 40) hC fo_Mo_245 (ob_Mo hV) rfl d_Mo_tellsAll_40 ?_
  refine g_iald (pc := 43) hC (ar_Mo_30 hV) d_Mo_tellsAll_43 h (fun h => ?_)
  refine g_icmp_ge (pc := 44) hC (tgt := 113) (by decide) d_Mo_tellsAll_44 h (fun h => ?_) (fun h => ?_)
  · exact g_vW (pc := 113) hC d_Mo_tellsAll_113 h
  · refine g_aload_n (pc := 47) hC (i := 0) (x := (V.2.2.1 0 0)) rfl rfl d_Mo_tellsAll_47 ?_
    refine g_getA (pc := 48) hC fo_Mo_140 (ob_Mo hV) rfl d_Mo_tellsAll_48 ?_
    refine g_iload_n (pc := 51) hC (i := 2) (x := x2) rfl rfl d_Mo_tellsAll_51 ?_
    refine g_iald (pc := 52) hC (ar_Mo_59 hV) d_Mo_tellsAll_52 h (fun h => ?_)
    refine g_iload (pc := 53) hC (i := 4) (x := x4) rfl d_Mo_tellsAll_53 ?_
    refine g_ishr (pc := 55) hC d_Mo_tellsAll_55 ?_
    refine g_iconst (pc := 56) hC kc_1 d_Mo_tellsAll_56 ?_
    refine g_iand (pc := 57) hC d_Mo_tellsAll_57 ?_
    refine g_if_eq (pc := 58) hC (tgt := 107) (by decide) d_Mo_tellsAll_58 h (fun h => ?_) (fun h => ?_)
    · refine s_iinc (pc := 107) hC (i := 4) (x := x4) (v := x4 + 1) rfl (by rw [kc_1]) (by decide) d_Mo_tellsAll_107 (lv2 := [some (.ref (V.2.2.1 0 0)), some (.int x1), some (.int x2), some (.int x3), some (.int (x4 + 1))]) rfl ?_
      refine g_goto (pc := 110) hC (tgt := 33) (by decide) d_Mo_tellsAll_110 ?_
      exact hk33 x1 x2 x3 (x4 + 1) S h
    · refine g_aload_n (pc := 61) hC (i := 0) (x := (V.2.2.1 0 0)) rfl rfl d_Mo_tellsAll_61 ?_
      refine g_iload_n (pc := 62) hC (i := 3) (x := x3) rfl rfl d_Mo_tellsAll_62 ?_
      refine g_iload (pc := 63) hC (i := 4) (x := x4) rfl d_Mo_tellsAll_63 ?_
      obtain ⟨q65, hq65, h⟩ := Option.bind_eq_some_iff.mp h
      refine g_vi (pc := 65) hC (As := [.int x3, .int x4]) (st := []) mt_Mo_knows lk_Mo_342 rfl (ob_Mo hV) (Nat.le_of_ble_eq_true rfl) ⟨Nat.le_of_ble_eq_true rfl, Nat.le_of_ble_eq_true rfl⟩ rfl d_Mo_tellsAll_65 (c_Mo_knows hV hq65) ?_
      refine g_if_eq (pc := 68) hC (tgt := 74) (by decide) d_Mo_tellsAll_68 h (fun h => ?_) (fun h => ?_)
      · refine g_aload_n (pc := 74) hC (i := 0) (x := (V.2.2.1 0 0)) rfl rfl d_Mo_tellsAll_74 ?_
        refine g_iload_n (pc := 75) hC (i := 1) (x := x1) rfl rfl d_Mo_tellsAll_75 ?_
        refine g_iload (pc := 76) hC (i := 4) (x := x4) rfl d_Mo_tellsAll_76 ?_
        obtain ⟨q78, hq78, h⟩ := Option.bind_eq_some_iff.mp h
        refine g_vi (pc := 78) hC (As := [.int x1, .int x4]) (st := []) mt_Mo_lotOf lk_Mo_398 rfl (ob_Mo hV) (Nat.le_of_ble_eq_true rfl) ⟨Nat.le_of_ble_eq_true rfl, Nat.le_of_ble_eq_true rfl⟩ rfl d_Mo_tellsAll_78 (c_Mo_lotOf hV hq78) ?_
        refine g_aload_n (pc := 81) hC (i := 0) (x := (V.2.2.1 0 0)) rfl rfl d_Mo_tellsAll_81 ?_
        refine g_iload_n (pc := 82) hC (i := 1) (x := x1) rfl rfl d_Mo_tellsAll_82 ?_
        refine g_iload (pc := 83) hC (i := 4) (x := x4) rfl d_Mo_tellsAll_83 ?_
        obtain ⟨q85, hq85, h⟩ := Option.bind_eq_some_iff.mp h
        refine g_vi (pc := 85) hC (As := [.int x1, .int x4]) (st := [.int q78]) mt_Mo_tellsOf lk_Mo_401 rfl (ob_Mo hV) (Nat.le_of_ble_eq_true rfl) ⟨Nat.le_of_ble_eq_true rfl, Nat.le_of_ble_eq_true rfl⟩ rfl d_Mo_tellsAll_85 (c_Mo_tellsOf hV hq85) ?_
        refine g_icmp_ge (pc := 88) hC (tgt := 107) (by decide) d_Mo_tellsAll_88 h (fun h => ?_) (fun h => ?_)
        · refine s_iinc (pc := 107) hC (i := 4) (x := x4) (v := x4 + 1) rfl (by rw [kc_1]) (by decide) d_Mo_tellsAll_107 (lv2 := [some (.ref (V.2.2.1 0 0)), some (.int x1), some (.int x2), some (.int x3), some (.int (x4 + 1))]) rfl ?_
          refine g_goto (pc := 110) hC (tgt := 33) (by decide) d_Mo_tellsAll_110 ?_
          exact hk33 x1 x2 x3 (x4 + 1) q85.2 h
        · refine g_aload_n (pc := 91) hC (i := 0) (x := (V.2.2.1 0 0)) rfl rfl d_Mo_tellsAll_91 ?_
          refine g_getA (pc := 92) hC fo_Mo_137 (ob_Mo hV) rfl d_Mo_tellsAll_92 ?_
          refine g_bipush (pc := 95) hC kb_26 d_Mo_tellsAll_95 ?_
          refine g_iload_n (pc := 97) hC (i := 3) (x := x3) rfl rfl d_Mo_tellsAll_97 ?_
          refine g_iadd (pc := 98) hC d_Mo_tellsAll_98 ?_
          refine g_dup2 (pc := 99) hC rfl rfl d_Mo_tellsAll_99 ?_
          refine g_iald (pc := 100) hC (ar_Mo_57 hV) d_Mo_tellsAll_100 h (fun h => ?_)
          refine g_iconst (pc := 101) hC kc_1 d_Mo_tellsAll_101 ?_
          refine g_iload (pc := 102) hC (i := 4) (x := x4) rfl d_Mo_tellsAll_102 ?_
          refine g_ishl (pc := 104) hC d_Mo_tellsAll_104 ?_
          refine g_ior (pc := 105) hC d_Mo_tellsAll_105 ?_
          refine g_iast (pc := 106) hC (ar_Mo_57 hV) d_Mo_tellsAll_106 h (fun h => ?_)
          refine g_letS h (fun S106 h => ?_)
          refine s_iinc (pc := 107) hC (i := 4) (x := x4) (v := x4 + 1) rfl (by rw [kc_1]) (by decide) d_Mo_tellsAll_107 (lv2 := [some (.ref (V.2.2.1 0 0)), some (.int x1), some (.int x2), some (.int x3), some (.int (x4 + 1))]) rfl ?_
          refine g_goto (pc := 110) hC (tgt := 33) (by decide) d_Mo_tellsAll_110 ?_
          exact hk33 x1 x2 x3 (x4 + 1) S106 h
      · refine g_goto (pc := 71) hC (tgt := 107) (by decide) d_Mo_tellsAll_71 ?_
        refine s_iinc (pc := 107) hC (i := 4) (x := x4) (v := x4 + 1) rfl (by rw [kc_1]) (by decide) d_Mo_tellsAll_107 (lv2 := [some (.ref (V.2.2.1 0 0)), some (.int x1), some (.int x2), some (.int x3), some (.int (x4 + 1))]) rfl ?_
        refine g_goto (pc := 110) hC (tgt := 33) (by decide) d_Mo_tellsAll_110 ?_
        exact hk33 x1 x2 x3 (x4 + 1) S h
theorem w_Mo_tellsAll_l33 {X : CX} {V : WV} (hV : IsM V) {z : Mem} (hC : Ck X V bc_Mo_tellsAll 5 "SecretWellsModel" none 8 174) : ∀ (n : Nat) (x1 : Int32) (x2 : Int32) (x3 : Int32) (x4 : Int32) (S : Mem), f_Mo_tellsAll_l33  n x1 x2 x3 x4 S = some z → G X V 5 (QV X V z) 33 [some (.ref (V.2.2.1 0 0)), some (.int x1), some (.int x2), some (.int x3), some (.int x4)] [] S := by
  intro n
  induction n with
  | zero =>
    intro x1 x2 x3 x4 S h
    have h : (none : Option (Mem)) = some z := h
    cases h
  | succ n ih =>
    intro x1 x2 x3 x4 S h
    exact w_Mo_tellsAll_b33 hV hC (f_Mo_tellsAll_l33  n) ih x1 x2 x3 x4 S h
set_option maxRecDepth 20000 in
theorem w_Mo_tellsAll_b0 {X : CX} {V : WV} (hV : IsM V) {z : Mem} (hC : Ck X V bc_Mo_tellsAll 5 "SecretWellsModel" none 8 174) (x1 : Int32) (S : Mem) (h : f_Mo_tellsAll_b0  x1 S = some z) : G X V 5 (QV X V z) 0 [some (.ref (V.2.2.1 0 0)), some (.int x1), none, none, none] [] S := by
  unfold f_Mo_tellsAll_b0 at h
  refine g_aload_n (pc := 0) hC (i := 0) (x := (V.2.2.1 0 0)) rfl rfl d_Mo_tellsAll_0 ?_
  refine g_getA (pc := 1) hC fo_Mo_83 (ob_Mo hV) rfl d_Mo_tellsAll_1 ?_
  refine g_bipush (pc := 4) hC kb_12 d_Mo_tellsAll_4 ?_
  refine g_aload_n (pc := 6) hC (i := 0) (x := (V.2.2.1 0 0)) rfl rfl d_Mo_tellsAll_6 ?_
  refine g_getI (pc := 7) hC fo_Mo_245 (ob_Mo hV) rfl d_Mo_tellsAll_7 ?_
  refine g_imul (pc := 10) hC d_Mo_tellsAll_10 ?_
  refine g_iload_n (pc := 11) hC (i := 1) (x := x1) rfl rfl d_Mo_tellsAll_11 ?_
  refine g_iadd (pc := 12) hC d_Mo_tellsAll_12 ?_
  refine g_iald (pc := 13) hC (ar_Mo_35 hV) d_Mo_tellsAll_13 h (fun h => ?_)
  refine g_leti h (fun y14 h => ?_)
  refine s_istore_n (pc := 14) hC (i := 2) rfl (by decide) d_Mo_tellsAll_14 (lv2 := [some (.ref (V.2.2.1 0 0)), some (.int x1), some (.int y14), none, none]) rfl ?_
  refine g_aload_n (pc := 15) hC (i := 0) (x := (V.2.2.1 0 0)) rfl rfl d_Mo_tellsAll_15 ?_
  refine g_getA (pc := 16) hC fo_Mo_86 (ob_Mo hV) rfl d_Mo_tellsAll_16 ?_
  refine g_bipush (pc := 19) hC kb_12 d_Mo_tellsAll_19 ?_
  refine g_aload_n (pc := 21) hC (i := 0) (x := (V.2.2.1 0 0)) rfl rfl d_Mo_tellsAll_21 ?_
  refine g_getI (pc := 22) hC fo_Mo_245 (ob_Mo hV) rfl d_Mo_tellsAll_22 ?_
  refine g_imul (pc := 25) hC d_Mo_tellsAll_25 ?_
  refine g_iload_n (pc := 26) hC (i := 1) (x := x1) rfl rfl d_Mo_tellsAll_26 ?_
  refine g_iadd (pc := 27) hC d_Mo_tellsAll_27 ?_
  refine g_iald (pc := 28) hC (ar_Mo_36 hV) d_Mo_tellsAll_28 h (fun h => ?_)
  refine g_leti h (fun y29 h => ?_)
  refine s_istore_n (pc := 29) hC (i := 3) rfl (by decide) d_Mo_tellsAll_29 (lv2 := [some (.ref (V.2.2.1 0 0)), some (.int x1), some (.int y14), some (.int y29), none]) rfl ?_
  refine g_iconst (pc := 30) hC kc_0 d_Mo_tellsAll_30 ?_
  refine s_istore (pc := 31) hC (i := 4) (by decide) d_Mo_tellsAll_31 (lv2 := [some (.ref (V.2.2.1 0 0)), some (.int x1), some (.int y14), some (.int y29), some (.int 0)]) rfl ?_
  exact w_Mo_tellsAll_l33 hV hC 5000 x1 y14 y29 0 S h
theorem c_Mo_tellsAll {V : WV} {l : Launch} (hV : IsM V) {x1 : Int32} {S : Mem} {z : Mem} (h : f_Mo_tellsAll x1 S = some z) : CV V l y_Mo_tellsAll bc_Mo_tellsAll 5 none 8 174 [.ref (V.2.2.1 0 0), .int x1] S z :=
  ct_v rfl (IsM.ok hV) (Nat.le_of_ble_eq_true rfl) (fun _ _ hC => w_Mo_tellsAll_b0 hV hC x1 S h)
def f_Mo_dayGoes_b49 (k2 : Int32 → Mem → Option (Mem)) (x1 : Int32) (s0 : Int32) (s1 : Int32) (S : Mem) : Option (Mem) :=
  gIn s1 40 (letS (sA S 0 57 s1 s0) (fun S49 =>
  k2 (x1 + 1) S49))
def f_Mo_dayGoes_b128 (k128 : Int32 → Mem → Option (Mem)) (x1 : Int32) (S : Mem) : Option (Mem) :=
  gIn (S.1 0 18) 2 (
  if (S.2.1 0 34 (S.1 0 18).toNatClampNeg) ≤ x1 then
    Option.bind (f_Mo_cutsWater S) (fun q161 =>
    gIn 35 40 (
    gIn 35 40 (letS (sA q161 0 57 35 ((q161.2.1 0 57 (35 : Int32).toNatClampNeg) + 1)) (fun S174 =>
    some S174))))
  else
    Option.bind (f_Mo_isOpen x1 S) (fun q143 =>
    if q143 = 0 then
      k128 (x1 + 1) S
    else
      Option.bind (f_Mo_tellsAll x1 S) (fun q151 =>
      k128 (x1 + 1) q151)))
def f_Mo_dayGoes_l128 : Nat → Int32 → Mem → Option (Mem)
  | 0 => fun _ _ => none
  | n + 1 => f_Mo_dayGoes_b128  (f_Mo_dayGoes_l128  n)
def f_Mo_dayGoes_b92 (k92 : Int32 → Mem → Option (Mem)) (x1 : Int32) (S : Mem) : Option (Mem) :=
  gIn (S.1 0 18) 2 (
  if (S.2.1 0 27 (S.1 0 18).toNatClampNeg) ≤ x1 then
    f_Mo_dayGoes_l128 5000 0 S
  else
    gIn (26 + x1) 40 (
    gIn x1 7 (letS (sA S 0 59 x1 (S.2.1 0 57 (26 + x1).toNatClampNeg)) (fun S119 =>
    k92 (x1 + 1) S119))))
def f_Mo_dayGoes_l92 : Nat → Int32 → Mem → Option (Mem)
  | 0 => fun _ _ => none
  | n + 1 => f_Mo_dayGoes_b92  (f_Mo_dayGoes_l92  n)
def f_Mo_dayGoes_b58 (k58 : Int32 → Mem → Option (Mem)) (x1 : Int32) (S : Mem) : Option (Mem) :=
  gIn (S.1 0 18) 2 (
  if (S.2.1 0 27 (S.1 0 18).toNatClampNeg) ≤ x1 then
    f_Mo_dayGoes_l92 5000 0 S
  else
    Option.bind (f_Mo_isAlive x1 S) (fun q73 =>
    if q73 = 0 then
      k58 (x1 + 1) S
    else
      Option.bind (f_Mo_drinks x1 S) (fun q81 =>
      k58 (x1 + 1) q81)))
def f_Mo_dayGoes_l58 : Nat → Int32 → Mem → Option (Mem)
  | 0 => fun _ _ => none
  | n + 1 => f_Mo_dayGoes_b58  (f_Mo_dayGoes_l58  n)
def f_Mo_dayGoes_b2 (k2 : Int32 → Mem → Option (Mem)) (x1 : Int32) (S : Mem) : Option (Mem) :=
  gIn (S.1 0 18) 2 (
  if (S.2.1 0 24 (S.1 0 18).toNatClampNeg) ≤ x1 then
    f_Mo_dayGoes_l58 5000 0 S
  else
    gIn x1 40 (
    Option.bind (f_Mo_fillsOf x1 S) (fun q23 =>
    letS ((S.2.1 0 57 x1.toNatClampNeg) + q23.1) (fun y27 =>
    Option.bind (f_Mo_deepOf x1 q23.2) (fun q30 =>
    if q30 ≤ y27 then
      f_Mo_dayGoes_b49 k2 x1 q30 x1 q23.2
    else
      f_Mo_dayGoes_b49 k2 x1 y27 x1 q23.2)))))
def f_Mo_dayGoes_l2 : Nat → Int32 → Mem → Option (Mem)
  | 0 => fun _ _ => none
  | n + 1 => f_Mo_dayGoes_b2  (f_Mo_dayGoes_l2  n)
def f_Mo_dayGoes_b0 (S : Mem) : Option (Mem) :=
  f_Mo_dayGoes_l2 5000 0 S
def f_Mo_dayGoes (S : Mem) : Option (Mem) := f_Mo_dayGoes_b0  S
theorem d_Mo_dayGoes_0 : decode bc_Mo_dayGoes 0 = .ok (.iconst 0, 1) := by decide +kernel
theorem d_Mo_dayGoes_1 : decode bc_Mo_dayGoes 1 = .ok (.istore_n 1, 1) := by decide +kernel
theorem d_Mo_dayGoes_2 : decode bc_Mo_dayGoes 2 = .ok (.iload_n 1, 1) := by decide +kernel
theorem d_Mo_dayGoes_3 : decode bc_Mo_dayGoes 3 = .ok (.aload_n 0, 1) := by decide +kernel
theorem d_Mo_dayGoes_4 : decode bc_Mo_dayGoes 4 = .ok (.getfield 49, 3) := by decide +kernel
theorem d_Mo_dayGoes_7 : decode bc_Mo_dayGoes 7 = .ok (.aload_n 0, 1) := by decide +kernel
theorem d_Mo_dayGoes_8 : decode bc_Mo_dayGoes 8 = .ok (.getfield 245, 3) := by decide +kernel
theorem d_Mo_dayGoes_11 : decode bc_Mo_dayGoes 11 = .ok (.iaload, 1) := by decide +kernel
theorem d_Mo_dayGoes_12 : decode bc_Mo_dayGoes 12 = .ok (.if_icmp .ge 44, 3) := by decide +kernel
theorem d_Mo_dayGoes_15 : decode bc_Mo_dayGoes 15 = .ok (.aload_n 0, 1) := by decide +kernel
theorem d_Mo_dayGoes_16 : decode bc_Mo_dayGoes 16 = .ok (.getfield 137, 3) := by decide +kernel
theorem d_Mo_dayGoes_19 : decode bc_Mo_dayGoes 19 = .ok (.iload_n 1, 1) := by decide +kernel
theorem d_Mo_dayGoes_20 : decode bc_Mo_dayGoes 20 = .ok (.iaload, 1) := by decide +kernel
theorem d_Mo_dayGoes_21 : decode bc_Mo_dayGoes 21 = .ok (.aload_n 0, 1) := by decide +kernel
theorem d_Mo_dayGoes_22 : decode bc_Mo_dayGoes 22 = .ok (.iload_n 1, 1) := by decide +kernel
theorem d_Mo_dayGoes_23 : decode bc_Mo_dayGoes 23 = .ok (.invokevirtual 404, 3) := by decide +kernel
theorem d_Mo_dayGoes_26 : decode bc_Mo_dayGoes 26 = .ok (.iadd, 1) := by decide +kernel
theorem d_Mo_dayGoes_27 : decode bc_Mo_dayGoes 27 = .ok (.istore_n 2, 1) := by decide +kernel
theorem d_Mo_dayGoes_28 : decode bc_Mo_dayGoes 28 = .ok (.aload_n 0, 1) := by decide +kernel
theorem d_Mo_dayGoes_29 : decode bc_Mo_dayGoes 29 = .ok (.iload_n 1, 1) := by decide +kernel
theorem d_Mo_dayGoes_30 : decode bc_Mo_dayGoes 30 = .ok (.invokevirtual 364, 3) := by decide +kernel
theorem d_Mo_dayGoes_33 : decode bc_Mo_dayGoes 33 = .ok (.istore_n 3, 1) := by decide +kernel
theorem d_Mo_dayGoes_34 : decode bc_Mo_dayGoes 34 = .ok (.aload_n 0, 1) := by decide +kernel
theorem d_Mo_dayGoes_35 : decode bc_Mo_dayGoes 35 = .ok (.getfield 137, 3) := by decide +kernel
theorem d_Mo_dayGoes_38 : decode bc_Mo_dayGoes 38 = .ok (.iload_n 1, 1) := by decide +kernel
theorem d_Mo_dayGoes_39 : decode bc_Mo_dayGoes 39 = .ok (.iload_n 2, 1) := by decide +kernel
theorem d_Mo_dayGoes_40 : decode bc_Mo_dayGoes 40 = .ok (.iload_n 3, 1) := by decide +kernel
theorem d_Mo_dayGoes_41 : decode bc_Mo_dayGoes 41 = .ok (.if_icmp .ge 7, 3) := by decide +kernel
theorem d_Mo_dayGoes_44 : decode bc_Mo_dayGoes 44 = .ok (.iload_n 2, 1) := by decide +kernel
theorem d_Mo_dayGoes_45 : decode bc_Mo_dayGoes 45 = .ok (.goto 4, 3) := by decide +kernel
theorem d_Mo_dayGoes_48 : decode bc_Mo_dayGoes 48 = .ok (.iload_n 3, 1) := by decide +kernel
theorem d_Mo_dayGoes_49 : decode bc_Mo_dayGoes 49 = .ok (.iastore, 1) := by decide +kernel
theorem d_Mo_dayGoes_50 : decode bc_Mo_dayGoes 50 = .ok (.iinc 1 1, 3) := by decide +kernel
theorem d_Mo_dayGoes_53 : decode bc_Mo_dayGoes 53 = .ok (.goto (-51), 3) := by decide +kernel
theorem d_Mo_dayGoes_56 : decode bc_Mo_dayGoes 56 = .ok (.iconst 0, 1) := by decide +kernel
theorem d_Mo_dayGoes_57 : decode bc_Mo_dayGoes 57 = .ok (.istore_n 1, 1) := by decide +kernel
theorem d_Mo_dayGoes_58 : decode bc_Mo_dayGoes 58 = .ok (.iload_n 1, 1) := by decide +kernel
theorem d_Mo_dayGoes_59 : decode bc_Mo_dayGoes 59 = .ok (.aload_n 0, 1) := by decide +kernel
theorem d_Mo_dayGoes_60 : decode bc_Mo_dayGoes 60 = .ok (.getfield 58, 3) := by decide +kernel
theorem d_Mo_dayGoes_63 : decode bc_Mo_dayGoes 63 = .ok (.aload_n 0, 1) := by decide +kernel
theorem d_Mo_dayGoes_64 : decode bc_Mo_dayGoes 64 = .ok (.getfield 245, 3) := by decide +kernel
theorem d_Mo_dayGoes_67 : decode bc_Mo_dayGoes 67 = .ok (.iaload, 1) := by decide +kernel
theorem d_Mo_dayGoes_68 : decode bc_Mo_dayGoes 68 = .ok (.if_icmp .ge 22, 3) := by decide +kernel
theorem d_Mo_dayGoes_71 : decode bc_Mo_dayGoes 71 = .ok (.aload_n 0, 1) := by decide +kernel
theorem d_Mo_dayGoes_72 : decode bc_Mo_dayGoes 72 = .ok (.iload_n 1, 1) := by decide +kernel
theorem d_Mo_dayGoes_73 : decode bc_Mo_dayGoes 73 = .ok (.invokevirtual 367, 3) := by decide +kernel
theorem d_Mo_dayGoes_76 : decode bc_Mo_dayGoes 76 = .ok (.ifCond .eq 8, 3) := by decide +kernel
theorem d_Mo_dayGoes_79 : decode bc_Mo_dayGoes 79 = .ok (.aload_n 0, 1) := by decide +kernel
theorem d_Mo_dayGoes_80 : decode bc_Mo_dayGoes 80 = .ok (.iload_n 1, 1) := by decide +kernel
theorem d_Mo_dayGoes_81 : decode bc_Mo_dayGoes 81 = .ok (.invokevirtual 407, 3) := by decide +kernel
theorem d_Mo_dayGoes_84 : decode bc_Mo_dayGoes 84 = .ok (.iinc 1 1, 3) := by decide +kernel
theorem d_Mo_dayGoes_87 : decode bc_Mo_dayGoes 87 = .ok (.goto (-29), 3) := by decide +kernel
theorem d_Mo_dayGoes_90 : decode bc_Mo_dayGoes 90 = .ok (.iconst 0, 1) := by decide +kernel
theorem d_Mo_dayGoes_91 : decode bc_Mo_dayGoes 91 = .ok (.istore_n 1, 1) := by decide +kernel
theorem d_Mo_dayGoes_92 : decode bc_Mo_dayGoes 92 = .ok (.iload_n 1, 1) := by decide +kernel
theorem d_Mo_dayGoes_93 : decode bc_Mo_dayGoes 93 = .ok (.aload_n 0, 1) := by decide +kernel
theorem d_Mo_dayGoes_94 : decode bc_Mo_dayGoes 94 = .ok (.getfield 58, 3) := by decide +kernel
theorem d_Mo_dayGoes_97 : decode bc_Mo_dayGoes 97 = .ok (.aload_n 0, 1) := by decide +kernel
theorem d_Mo_dayGoes_98 : decode bc_Mo_dayGoes 98 = .ok (.getfield 245, 3) := by decide +kernel
theorem d_Mo_dayGoes_101 : decode bc_Mo_dayGoes 101 = .ok (.iaload, 1) := by decide +kernel
theorem d_Mo_dayGoes_102 : decode bc_Mo_dayGoes 102 = .ok (.if_icmp .ge 24, 3) := by decide +kernel
theorem d_Mo_dayGoes_105 : decode bc_Mo_dayGoes 105 = .ok (.aload_n 0, 1) := by decide +kernel
theorem d_Mo_dayGoes_106 : decode bc_Mo_dayGoes 106 = .ok (.getfield 140, 3) := by decide +kernel
theorem d_Mo_dayGoes_109 : decode bc_Mo_dayGoes 109 = .ok (.iload_n 1, 1) := by decide +kernel
theorem d_Mo_dayGoes_110 : decode bc_Mo_dayGoes 110 = .ok (.aload_n 0, 1) := by decide +kernel
theorem d_Mo_dayGoes_111 : decode bc_Mo_dayGoes 111 = .ok (.getfield 137, 3) := by decide +kernel
theorem d_Mo_dayGoes_114 : decode bc_Mo_dayGoes 114 = .ok (.bipush 26, 2) := by decide +kernel
theorem d_Mo_dayGoes_116 : decode bc_Mo_dayGoes 116 = .ok (.iload_n 1, 1) := by decide +kernel
theorem d_Mo_dayGoes_117 : decode bc_Mo_dayGoes 117 = .ok (.iadd, 1) := by decide +kernel
theorem d_Mo_dayGoes_118 : decode bc_Mo_dayGoes 118 = .ok (.iaload, 1) := by decide +kernel
theorem d_Mo_dayGoes_119 : decode bc_Mo_dayGoes 119 = .ok (.iastore, 1) := by decide +kernel
theorem d_Mo_dayGoes_120 : decode bc_Mo_dayGoes 120 = .ok (.iinc 1 1, 3) := by decide +kernel
theorem d_Mo_dayGoes_123 : decode bc_Mo_dayGoes 123 = .ok (.goto (-31), 3) := by decide +kernel
theorem d_Mo_dayGoes_126 : decode bc_Mo_dayGoes 126 = .ok (.iconst 0, 1) := by decide +kernel
theorem d_Mo_dayGoes_127 : decode bc_Mo_dayGoes 127 = .ok (.istore_n 1, 1) := by decide +kernel
theorem d_Mo_dayGoes_128 : decode bc_Mo_dayGoes 128 = .ok (.iload_n 1, 1) := by decide +kernel
theorem d_Mo_dayGoes_129 : decode bc_Mo_dayGoes 129 = .ok (.aload_n 0, 1) := by decide +kernel
theorem d_Mo_dayGoes_130 : decode bc_Mo_dayGoes 130 = .ok (.getfield 80, 3) := by decide +kernel
theorem d_Mo_dayGoes_133 : decode bc_Mo_dayGoes 133 = .ok (.aload_n 0, 1) := by decide +kernel
theorem d_Mo_dayGoes_134 : decode bc_Mo_dayGoes 134 = .ok (.getfield 245, 3) := by decide +kernel
theorem d_Mo_dayGoes_137 : decode bc_Mo_dayGoes 137 = .ok (.iaload, 1) := by decide +kernel
theorem d_Mo_dayGoes_138 : decode bc_Mo_dayGoes 138 = .ok (.if_icmp .ge 22, 3) := by decide +kernel
theorem d_Mo_dayGoes_141 : decode bc_Mo_dayGoes 141 = .ok (.aload_n 0, 1) := by decide +kernel
theorem d_Mo_dayGoes_142 : decode bc_Mo_dayGoes 142 = .ok (.iload_n 1, 1) := by decide +kernel
theorem d_Mo_dayGoes_143 : decode bc_Mo_dayGoes 143 = .ok (.invokevirtual 410, 3) := by decide +kernel
theorem d_Mo_dayGoes_146 : decode bc_Mo_dayGoes 146 = .ok (.ifCond .eq 8, 3) := by decide +kernel
theorem d_Mo_dayGoes_149 : decode bc_Mo_dayGoes 149 = .ok (.aload_n 0, 1) := by decide +kernel
theorem d_Mo_dayGoes_150 : decode bc_Mo_dayGoes 150 = .ok (.iload_n 1, 1) := by decide +kernel
theorem d_Mo_dayGoes_151 : decode bc_Mo_dayGoes 151 = .ok (.invokevirtual 413, 3) := by decide +kernel
theorem d_Mo_dayGoes_154 : decode bc_Mo_dayGoes 154 = .ok (.iinc 1 1, 3) := by decide +kernel
theorem d_Mo_dayGoes_157 : decode bc_Mo_dayGoes 157 = .ok (.goto (-29), 3) := by decide +kernel
theorem d_Mo_dayGoes_160 : decode bc_Mo_dayGoes 160 = .ok (.aload_n 0, 1) := by decide +kernel
theorem d_Mo_dayGoes_161 : decode bc_Mo_dayGoes 161 = .ok (.invokevirtual 339, 3) := by decide +kernel
theorem d_Mo_dayGoes_164 : decode bc_Mo_dayGoes 164 = .ok (.aload_n 0, 1) := by decide +kernel
theorem d_Mo_dayGoes_165 : decode bc_Mo_dayGoes 165 = .ok (.getfield 137, 3) := by decide +kernel
theorem d_Mo_dayGoes_168 : decode bc_Mo_dayGoes 168 = .ok (.bipush 35, 2) := by decide +kernel
theorem d_Mo_dayGoes_170 : decode bc_Mo_dayGoes 170 = .ok (.dup2, 1) := by decide +kernel
theorem d_Mo_dayGoes_171 : decode bc_Mo_dayGoes 171 = .ok (.iaload, 1) := by decide +kernel
theorem d_Mo_dayGoes_172 : decode bc_Mo_dayGoes 172 = .ok (.iconst 1, 1) := by decide +kernel
theorem d_Mo_dayGoes_173 : decode bc_Mo_dayGoes 173 = .ok (.iadd, 1) := by decide +kernel
theorem d_Mo_dayGoes_174 : decode bc_Mo_dayGoes 174 = .ok (.iastore, 1) := by decide +kernel
theorem d_Mo_dayGoes_175 : decode bc_Mo_dayGoes 175 = .ok (.return_, 1) := by decide +kernel
set_option maxRecDepth 20000 in
theorem w_Mo_dayGoes_b49 {X : CX} {V : WV} (hV : IsM V) {z : Mem} (hC : Ck X V bc_Mo_dayGoes 4 "SecretWellsModel" none 9 198) (k2 : Int32 → Mem → Option (Mem)) (hk2 : ∀ (x1 : Int32) (S : Mem), k2 x1 S = some z → G X V 4 (QV X V z) 2 [some (.ref (V.2.2.1 0 0)), some (.int x1), none, none] [] S) (x1 : Int32) (s0 : Int32) (s1 : Int32) (S : Mem) (h : f_Mo_dayGoes_b49  k2 x1 s0 s1 S = some z) : G X V 4 (QV X V z) 49 [some (.ref (V.2.2.1 0 0)), some (.int x1), none, none] [.int s0, .int s1, .ref (V.2.2.1 0 (57 + 1))] S := by
  unfold f_Mo_dayGoes_b49 at h
  refine g_iast (pc := 49) hC (ar_Mo_57 hV) d_Mo_dayGoes_49 h (fun h => ?_)
  refine g_letS h (fun S49 h => ?_)
  refine s_iinc (pc := 50) hC (i := 1) (x := x1) (v := x1 + 1) rfl (by rw [kc_1]) (by decide) d_Mo_dayGoes_50 (lv2 := [some (.ref (V.2.2.1 0 0)), some (.int (x1 + 1)), none, none]) rfl ?_
  refine g_goto (pc := 53) hC (tgt := 2) (by decide) d_Mo_dayGoes_53 ?_
  exact hk2 (x1 + 1) S49 h
set_option maxRecDepth 20000 in
theorem w_Mo_dayGoes_b128 {X : CX} {V : WV} (hV : IsM V) {z : Mem} (hC : Ck X V bc_Mo_dayGoes 4 "SecretWellsModel" none 9 198) (k128 : Int32 → Mem → Option (Mem)) (hk128 : ∀ (x1 : Int32) (S : Mem), k128 x1 S = some z → G X V 4 (QV X V z) 128 [some (.ref (V.2.2.1 0 0)), some (.int x1), none, none] [] S) (x1 : Int32) (S : Mem) (h : f_Mo_dayGoes_b128  k128 x1 S = some z) : G X V 4 (QV X V z) 128 [some (.ref (V.2.2.1 0 0)), some (.int x1), none, none] [] S := by
  unfold f_Mo_dayGoes_b128 at h
  refine g_iload_n (pc := 128) hC (i := 1) (x := x1) rfl rfl d_Mo_dayGoes_128 ?_
  refine g_aload_n (pc := 129) hC (i := 0) (x := (V.2.2.1 0 0)) rfl rfl d_Mo_dayGoes_129 ?_
  refine g_getA (pc := 130) hC fo_Mo_80 (ob_Mo hV) rfl d_Mo_dayGoes_130 ?_
  refine g_aload_n (pc := 133) hC (i := 0) (x := (V.2.2.1 0 0)) rfl rfl d_Mo_dayGoes_133 ?_
  refine g_getI (pc := 134) hC fo_Mo_245 (ob_Mo hV) rfl d_Mo_dayGoes_134 ?_
  refine g_iald (pc := 137) hC (ar_Mo_34 hV) d_Mo_dayGoes_137 h (fun h => ?_)
  refine g_icmp_ge (pc := 138) hC (tgt := 160) (by decide) d_Mo_dayGoes_138 h (fun h => ?_) (fun h => ?_)
  · refine g_aload_n (pc := 160) hC (i := 0) (x := (V.2.2.1 0 0)) rfl rfl d_Mo_dayGoes_160 ?_
    obtain ⟨q161, hq161, h⟩ := Option.bind_eq_some_iff.mp h
    refine g_vv (pc := 161) hC (As := []) (st := []) mt_Mo_cutsWater lk_Mo_339 rfl (ob_Mo hV) (Nat.le_of_ble_eq_true rfl) ⟨Nat.le_of_ble_eq_true rfl, Nat.le_of_ble_eq_true rfl⟩ rfl d_Mo_dayGoes_161 (c_Mo_cutsWater hV hq161) ?_
    refine g_aload_n (pc := 164) hC (i := 0) (x := (V.2.2.1 0 0)) rfl rfl d_Mo_dayGoes_164 ?_
    refine g_getA (pc := 165) hC fo_Mo_137 (ob_Mo hV) rfl d_Mo_dayGoes_165 ?_
    refine g_bipush (pc := 168) hC kb_35 d_Mo_dayGoes_168 ?_
    refine g_dup2 (pc := 170) hC rfl rfl d_Mo_dayGoes_170 ?_
    refine g_iald (pc := 171) hC (ar_Mo_57 hV) d_Mo_dayGoes_171 h (fun h => ?_)
    refine g_iconst (pc := 172) hC kc_1 d_Mo_dayGoes_172 ?_
    refine g_iadd (pc := 173) hC d_Mo_dayGoes_173 ?_
    refine g_iast (pc := 174) hC (ar_Mo_57 hV) d_Mo_dayGoes_174 h (fun h => ?_)
    refine g_letS h (fun S174 h => ?_)
    exact g_vW (pc := 175) hC d_Mo_dayGoes_175 h
  · refine g_aload_n (pc := 141) hC (i := 0) (x := (V.2.2.1 0 0)) rfl rfl d_Mo_dayGoes_141 ?_
    refine g_iload_n (pc := 142) hC (i := 1) (x := x1) rfl rfl d_Mo_dayGoes_142 ?_
    obtain ⟨q143, hq143, h⟩ := Option.bind_eq_some_iff.mp h
    refine g_vi (pc := 143) hC (As := [.int x1]) (st := []) mt_Mo_isOpen lk_Mo_410 rfl (ob_Mo hV) (Nat.le_of_ble_eq_true rfl) ⟨Nat.le_of_ble_eq_true rfl, Nat.le_of_ble_eq_true rfl⟩ rfl d_Mo_dayGoes_143 (c_Mo_isOpen hV hq143) ?_
    refine g_if_eq (pc := 146) hC (tgt := 154) (by decide) d_Mo_dayGoes_146 h (fun h => ?_) (fun h => ?_)
    · refine s_iinc (pc := 154) hC (i := 1) (x := x1) (v := x1 + 1) rfl (by rw [kc_1]) (by decide) d_Mo_dayGoes_154 (lv2 := [some (.ref (V.2.2.1 0 0)), some (.int (x1 + 1)), none, none]) rfl ?_
      refine g_goto (pc := 157) hC (tgt := 128) (by decide) d_Mo_dayGoes_157 ?_
      exact hk128 (x1 + 1) S h
    · refine g_aload_n (pc := 149) hC (i := 0) (x := (V.2.2.1 0 0)) rfl rfl d_Mo_dayGoes_149 ?_
      refine g_iload_n (pc := 150) hC (i := 1) (x := x1) rfl rfl d_Mo_dayGoes_150 ?_
      obtain ⟨q151, hq151, h⟩ := Option.bind_eq_some_iff.mp h
      refine g_vv (pc := 151) hC (As := [.int x1]) (st := []) mt_Mo_tellsAll lk_Mo_413 rfl (ob_Mo hV) (Nat.le_of_ble_eq_true rfl) ⟨Nat.le_of_ble_eq_true rfl, Nat.le_of_ble_eq_true rfl⟩ rfl d_Mo_dayGoes_151 (c_Mo_tellsAll hV hq151) ?_
      refine s_iinc (pc := 154) hC (i := 1) (x := x1) (v := x1 + 1) rfl (by rw [kc_1]) (by decide) d_Mo_dayGoes_154 (lv2 := [some (.ref (V.2.2.1 0 0)), some (.int (x1 + 1)), none, none]) rfl ?_
      refine g_goto (pc := 157) hC (tgt := 128) (by decide) d_Mo_dayGoes_157 ?_
      exact hk128 (x1 + 1) q151 h
theorem w_Mo_dayGoes_l128 {X : CX} {V : WV} (hV : IsM V) {z : Mem} (hC : Ck X V bc_Mo_dayGoes 4 "SecretWellsModel" none 9 198) : ∀ (n : Nat) (x1 : Int32) (S : Mem), f_Mo_dayGoes_l128  n x1 S = some z → G X V 4 (QV X V z) 128 [some (.ref (V.2.2.1 0 0)), some (.int x1), none, none] [] S := by
  intro n
  induction n with
  | zero =>
    intro x1 S h
    have h : (none : Option (Mem)) = some z := h
    cases h
  | succ n ih =>
    intro x1 S h
    exact w_Mo_dayGoes_b128 hV hC (f_Mo_dayGoes_l128  n) ih x1 S h
set_option maxRecDepth 20000 in
theorem w_Mo_dayGoes_b92 {X : CX} {V : WV} (hV : IsM V) {z : Mem} (hC : Ck X V bc_Mo_dayGoes 4 "SecretWellsModel" none 9 198) (k92 : Int32 → Mem → Option (Mem)) (hk92 : ∀ (x1 : Int32) (S : Mem), k92 x1 S = some z → G X V 4 (QV X V z) 92 [some (.ref (V.2.2.1 0 0)), some (.int x1), none, none] [] S) (x1 : Int32) (S : Mem) (h : f_Mo_dayGoes_b92  k92 x1 S = some z) : G X V 4 (QV X V z) 92 [some (.ref (V.2.2.1 0 0)), some (.int x1), none, none] [] S := by
  unfold f_Mo_dayGoes_b92 at h
  refine g_iload_n (pc := 92) hC (i := 1) (x := x1) rfl rfl d_Mo_dayGoes_92 ?_
  refine g_aload_n (pc := 93) hC (i := 0) (x := (V.2.2.1 0 0)) rfl rfl d_Mo_dayGoes_93 ?_
  refine g_getA (pc := 94) hC fo_Mo_58 (ob_Mo hV) rfl d_Mo_dayGoes_94 ?_
  refine g_aload_n (pc := 97) hC (i := 0) (x := (V.2.2.1 0 0)) rfl rfl d_Mo_dayGoes_97 ?_
  refine g_getI (pc := 98) hC fo_Mo_245 (ob_Mo hV) rfl d_Mo_dayGoes_98 ?_
  refine g_iald (pc := 101) hC (ar_Mo_27 hV) d_Mo_dayGoes_101 h (fun h => ?_)
  refine g_icmp_ge (pc := 102) hC (tgt := 126) (by decide) d_Mo_dayGoes_102 h (fun h => ?_) (fun h => ?_)
  · refine g_iconst (pc := 126) hC kc_0 d_Mo_dayGoes_126 ?_
    refine s_istore_n (pc := 127) hC (i := 1) rfl (by decide) d_Mo_dayGoes_127 (lv2 := [some (.ref (V.2.2.1 0 0)), some (.int 0), none, none]) rfl ?_
    exact w_Mo_dayGoes_l128 hV hC 5000 0 S h
  · refine g_aload_n (pc := 105) hC (i := 0) (x := (V.2.2.1 0 0)) rfl rfl d_Mo_dayGoes_105 ?_
    refine g_getA (pc := 106) hC fo_Mo_140 (ob_Mo hV) rfl d_Mo_dayGoes_106 ?_
    refine g_iload_n (pc := 109) hC (i := 1) (x := x1) rfl rfl d_Mo_dayGoes_109 ?_
    refine g_aload_n (pc := 110) hC (i := 0) (x := (V.2.2.1 0 0)) rfl rfl d_Mo_dayGoes_110 ?_
    refine g_getA (pc := 111) hC fo_Mo_137 (ob_Mo hV) rfl d_Mo_dayGoes_111 ?_
    refine g_bipush (pc := 114) hC kb_26 d_Mo_dayGoes_114 ?_
    refine g_iload_n (pc := 116) hC (i := 1) (x := x1) rfl rfl d_Mo_dayGoes_116 ?_
    refine g_iadd (pc := 117) hC d_Mo_dayGoes_117 ?_
    refine g_iald (pc := 118) hC (ar_Mo_57 hV) d_Mo_dayGoes_118 h (fun h => ?_)
    refine g_iast (pc := 119) hC (ar_Mo_59 hV) d_Mo_dayGoes_119 h (fun h => ?_)
    refine g_letS h (fun S119 h => ?_)
    refine s_iinc (pc := 120) hC (i := 1) (x := x1) (v := x1 + 1) rfl (by rw [kc_1]) (by decide) d_Mo_dayGoes_120 (lv2 := [some (.ref (V.2.2.1 0 0)), some (.int (x1 + 1)), none, none]) rfl ?_
    refine g_goto (pc := 123) hC (tgt := 92) (by decide) d_Mo_dayGoes_123 ?_
    exact hk92 (x1 + 1) S119 h
theorem w_Mo_dayGoes_l92 {X : CX} {V : WV} (hV : IsM V) {z : Mem} (hC : Ck X V bc_Mo_dayGoes 4 "SecretWellsModel" none 9 198) : ∀ (n : Nat) (x1 : Int32) (S : Mem), f_Mo_dayGoes_l92  n x1 S = some z → G X V 4 (QV X V z) 92 [some (.ref (V.2.2.1 0 0)), some (.int x1), none, none] [] S := by
  intro n
  induction n with
  | zero =>
    intro x1 S h
    have h : (none : Option (Mem)) = some z := h
    cases h
  | succ n ih =>
    intro x1 S h
    exact w_Mo_dayGoes_b92 hV hC (f_Mo_dayGoes_l92  n) ih x1 S h
set_option maxRecDepth 20000 in
theorem w_Mo_dayGoes_b58 {X : CX} {V : WV} (hV : IsM V) {z : Mem} (hC : Ck X V bc_Mo_dayGoes 4 "SecretWellsModel" none 9 198) (k58 : Int32 → Mem → Option (Mem)) (hk58 : ∀ (x1 : Int32) (S : Mem), k58 x1 S = some z → G X V 4 (QV X V z) 58 [some (.ref (V.2.2.1 0 0)), some (.int x1), none, none] [] S) (x1 : Int32) (S : Mem) (h : f_Mo_dayGoes_b58  k58 x1 S = some z) : G X V 4 (QV X V z) 58 [some (.ref (V.2.2.1 0 0)), some (.int x1), none, none] [] S := by
  unfold f_Mo_dayGoes_b58 at h
  refine g_iload_n (pc := 58) hC (i := 1) (x := x1) rfl rfl d_Mo_dayGoes_58 ?_
  refine g_aload_n (pc := 59) hC (i := 0) (x := (V.2.2.1 0 0)) rfl rfl d_Mo_dayGoes_59 ?_
  refine g_getA (pc := 60) hC fo_Mo_58 (ob_Mo hV) rfl d_Mo_dayGoes_60 ?_
  refine g_aload_n (pc := 63) hC (i := 0) (x := (V.2.2.1 0 0)) rfl rfl d_Mo_dayGoes_63 ?_
  refine g_getI (pc := 64) hC fo_Mo_245 (ob_Mo hV) rfl d_Mo_dayGoes_64 ?_
  refine g_iald (pc := 67) hC (ar_Mo_27 hV) d_Mo_dayGoes_67 h (fun h => ?_)
  refine g_icmp_ge (pc := 68) hC (tgt := 90) (by decide) d_Mo_dayGoes_68 h (fun h => ?_) (fun h => ?_)
  · refine g_iconst (pc := 90) hC kc_0 d_Mo_dayGoes_90 ?_
    refine s_istore_n (pc := 91) hC (i := 1) rfl (by decide) d_Mo_dayGoes_91 (lv2 := [some (.ref (V.2.2.1 0 0)), some (.int 0), none, none]) rfl ?_
    exact w_Mo_dayGoes_l92 hV hC 5000 0 S h
  · refine g_aload_n (pc := 71) hC (i := 0) (x := (V.2.2.1 0 0)) rfl rfl d_Mo_dayGoes_71 ?_
    refine g_iload_n (pc := 72) hC (i := 1) (x := x1) rfl rfl d_Mo_dayGoes_72 ?_
    obtain ⟨q73, hq73, h⟩ := Option.bind_eq_some_iff.mp h
    refine g_vi (pc := 73) hC (As := [.int x1]) (st := []) mt_Mo_isAlive lk_Mo_367 rfl (ob_Mo hV) (Nat.le_of_ble_eq_true rfl) ⟨Nat.le_of_ble_eq_true rfl, Nat.le_of_ble_eq_true rfl⟩ rfl d_Mo_dayGoes_73 (c_Mo_isAlive hV hq73) ?_
    refine g_if_eq (pc := 76) hC (tgt := 84) (by decide) d_Mo_dayGoes_76 h (fun h => ?_) (fun h => ?_)
    · refine s_iinc (pc := 84) hC (i := 1) (x := x1) (v := x1 + 1) rfl (by rw [kc_1]) (by decide) d_Mo_dayGoes_84 (lv2 := [some (.ref (V.2.2.1 0 0)), some (.int (x1 + 1)), none, none]) rfl ?_
      refine g_goto (pc := 87) hC (tgt := 58) (by decide) d_Mo_dayGoes_87 ?_
      exact hk58 (x1 + 1) S h
    · refine g_aload_n (pc := 79) hC (i := 0) (x := (V.2.2.1 0 0)) rfl rfl d_Mo_dayGoes_79 ?_
      refine g_iload_n (pc := 80) hC (i := 1) (x := x1) rfl rfl d_Mo_dayGoes_80 ?_
      obtain ⟨q81, hq81, h⟩ := Option.bind_eq_some_iff.mp h
      refine g_vv (pc := 81) hC (As := [.int x1]) (st := []) mt_Mo_drinks lk_Mo_407 rfl (ob_Mo hV) (Nat.le_of_ble_eq_true rfl) ⟨Nat.le_of_ble_eq_true rfl, Nat.le_of_ble_eq_true rfl⟩ rfl d_Mo_dayGoes_81 (c_Mo_drinks hV hq81) ?_
      refine s_iinc (pc := 84) hC (i := 1) (x := x1) (v := x1 + 1) rfl (by rw [kc_1]) (by decide) d_Mo_dayGoes_84 (lv2 := [some (.ref (V.2.2.1 0 0)), some (.int (x1 + 1)), none, none]) rfl ?_
      refine g_goto (pc := 87) hC (tgt := 58) (by decide) d_Mo_dayGoes_87 ?_
      exact hk58 (x1 + 1) q81 h
theorem w_Mo_dayGoes_l58 {X : CX} {V : WV} (hV : IsM V) {z : Mem} (hC : Ck X V bc_Mo_dayGoes 4 "SecretWellsModel" none 9 198) : ∀ (n : Nat) (x1 : Int32) (S : Mem), f_Mo_dayGoes_l58  n x1 S = some z → G X V 4 (QV X V z) 58 [some (.ref (V.2.2.1 0 0)), some (.int x1), none, none] [] S := by
  intro n
  induction n with
  | zero =>
    intro x1 S h
    have h : (none : Option (Mem)) = some z := h
    cases h
  | succ n ih =>
    intro x1 S h
    exact w_Mo_dayGoes_b58 hV hC (f_Mo_dayGoes_l58  n) ih x1 S h
set_option maxRecDepth 20000 in
theorem w_Mo_dayGoes_b2 {X : CX} {V : WV} (hV : IsM V) {z : Mem} (hC : Ck X V bc_Mo_dayGoes 4 "SecretWellsModel" none 9 198) (k2 : Int32 → Mem → Option (Mem)) (hk2 : ∀ (x1 : Int32) (S : Mem), k2 x1 S = some z → G X V 4 (QV X V z) 2 [some (.ref (V.2.2.1 0 0)), some (.int x1), none, none] [] S) (x1 : Int32) (S : Mem) (h : f_Mo_dayGoes_b2  k2 x1 S = some z) : G X V 4 (QV X V z) 2 [some (.ref (V.2.2.1 0 0)), some (.int x1), none, none] [] S := by
  unfold f_Mo_dayGoes_b2 at h
  refine g_iload_n (pc := 2) hC (i := 1) (x := x1) rfl rfl d_Mo_dayGoes_2 ?_
  refine g_aload_n (pc := 3) hC (i := 0) (x := (V.2.2.1 0 0)) rfl rfl d_Mo_dayGoes_3 ?_
  refine g_getA (pc := 4) hC fo_Mo_49 (ob_Mo hV) rfl d_Mo_dayGoes_4 ?_
  refine g_aload_n (pc := 7) hC (i := 0) (x := (V.2.2.1 0 0)) rfl rfl d_Mo_dayGoes_7 ?_
  refine g_getI (pc := 8) hC fo_Mo_245 (ob_Mo hV) rfl d_Mo_dayGoes_8 ?_
  refine g_iald (pc := 11) hC (ar_Mo_24 hV) d_Mo_dayGoes_11 h (fun h => ?_)
  refine g_icmp_ge (pc := 12) hC (tgt := 56) (by decide) d_Mo_dayGoes_12 h (fun h => ?_) (fun h => ?_)
  · refine g_iconst (pc := 56) hC kc_0 d_Mo_dayGoes_56 ?_
    refine s_istore_n (pc := 57) hC (i := 1) rfl (by decide) d_Mo_dayGoes_57 (lv2 := [some (.ref (V.2.2.1 0 0)), some (.int 0), none, none]) rfl ?_
    exact w_Mo_dayGoes_l58 hV hC 5000 0 S h
  · refine g_aload_n (pc := 15) hC (i := 0) (x := (V.2.2.1 0 0)) rfl rfl d_Mo_dayGoes_15 ?_
    refine g_getA (pc := 16) hC fo_Mo_137 (ob_Mo hV) rfl d_Mo_dayGoes_16 ?_
    refine g_iload_n (pc := 19) hC (i := 1) (x := x1) rfl rfl d_Mo_dayGoes_19 ?_
    refine g_iald (pc := 20) hC (ar_Mo_57 hV) d_Mo_dayGoes_20 h (fun h => ?_)
    refine g_aload_n (pc := 21) hC (i := 0) (x := (V.2.2.1 0 0)) rfl rfl d_Mo_dayGoes_21 ?_
    refine g_iload_n (pc := 22) hC (i := 1) (x := x1) rfl rfl d_Mo_dayGoes_22 ?_
    obtain ⟨q23, hq23, h⟩ := Option.bind_eq_some_iff.mp h
    refine g_vi (pc := 23) hC (As := [.int x1]) (st := [.int (S.2.1 0 57 x1.toNatClampNeg)]) mt_Mo_fillsOf lk_Mo_404 rfl (ob_Mo hV) (Nat.le_of_ble_eq_true rfl) ⟨Nat.le_of_ble_eq_true rfl, Nat.le_of_ble_eq_true rfl⟩ rfl d_Mo_dayGoes_23 (c_Mo_fillsOf hV hq23) ?_
    refine g_iadd (pc := 26) hC d_Mo_dayGoes_26 ?_
    refine g_leti h (fun y27 h => ?_)
    refine s_istore_n (pc := 27) hC (i := 2) rfl (by decide) d_Mo_dayGoes_27 (lv2 := [some (.ref (V.2.2.1 0 0)), some (.int x1), some (.int y27), none]) rfl ?_
    refine g_aload_n (pc := 28) hC (i := 0) (x := (V.2.2.1 0 0)) rfl rfl d_Mo_dayGoes_28 ?_
    refine g_iload_n (pc := 29) hC (i := 1) (x := x1) rfl rfl d_Mo_dayGoes_29 ?_
    obtain ⟨q30, hq30, h⟩ := Option.bind_eq_some_iff.mp h
    refine g_vi (pc := 30) hC (As := [.int x1]) (st := []) mt_Mo_deepOf lk_Mo_364 rfl (ob_Mo hV) (Nat.le_of_ble_eq_true rfl) ⟨Nat.le_of_ble_eq_true rfl, Nat.le_of_ble_eq_true rfl⟩ rfl d_Mo_dayGoes_30 (c_Mo_deepOf hV hq30) ?_
    refine s_istore_n (pc := 33) hC (i := 3) rfl (by decide) d_Mo_dayGoes_33 (lv2 := [some (.ref (V.2.2.1 0 0)), some (.int x1), some (.int y27), some (.int q30)]) rfl ?_
    refine g_aload_n (pc := 34) hC (i := 0) (x := (V.2.2.1 0 0)) rfl rfl d_Mo_dayGoes_34 ?_
    refine g_getA (pc := 35) hC fo_Mo_137 (ob_Mo hV) rfl d_Mo_dayGoes_35 ?_
    refine g_iload_n (pc := 38) hC (i := 1) (x := x1) rfl rfl d_Mo_dayGoes_38 ?_
    refine g_iload_n (pc := 39) hC (i := 2) (x := y27) rfl rfl d_Mo_dayGoes_39 ?_
    refine g_iload_n (pc := 40) hC (i := 3) (x := q30) rfl rfl d_Mo_dayGoes_40 ?_
    refine g_icmp_ge (pc := 41) hC (tgt := 48) (by decide) d_Mo_dayGoes_41 h (fun h => ?_) (fun h => ?_)
    · refine g_iload_n (pc := 48) hC (i := 3) (x := q30) rfl rfl d_Mo_dayGoes_48 ?_
      refine g_le (lv2 := [some (.ref (V.2.2.1 0 0)), some (.int x1), none, none]) (⟨rfl, ⟨rfl, trivial⟩⟩) ?_
      exact w_Mo_dayGoes_b49 hV hC k2 hk2 x1 q30 x1 q23.2 h
    · refine g_iload_n (pc := 44) hC (i := 2) (x := y27) rfl rfl d_Mo_dayGoes_44 ?_
      refine g_goto (pc := 45) hC (tgt := 49) (by decide) d_Mo_dayGoes_45 ?_
      refine g_le (lv2 := [some (.ref (V.2.2.1 0 0)), some (.int x1), none, none]) (⟨rfl, ⟨rfl, trivial⟩⟩) ?_
      exact w_Mo_dayGoes_b49 hV hC k2 hk2 x1 y27 x1 q23.2 h
theorem w_Mo_dayGoes_l2 {X : CX} {V : WV} (hV : IsM V) {z : Mem} (hC : Ck X V bc_Mo_dayGoes 4 "SecretWellsModel" none 9 198) : ∀ (n : Nat) (x1 : Int32) (S : Mem), f_Mo_dayGoes_l2  n x1 S = some z → G X V 4 (QV X V z) 2 [some (.ref (V.2.2.1 0 0)), some (.int x1), none, none] [] S := by
  intro n
  induction n with
  | zero =>
    intro x1 S h
    have h : (none : Option (Mem)) = some z := h
    cases h
  | succ n ih =>
    intro x1 S h
    exact w_Mo_dayGoes_b2 hV hC (f_Mo_dayGoes_l2  n) ih x1 S h
set_option maxRecDepth 20000 in
theorem w_Mo_dayGoes_b0 {X : CX} {V : WV} (hV : IsM V) {z : Mem} (hC : Ck X V bc_Mo_dayGoes 4 "SecretWellsModel" none 9 198) (S : Mem) (h : f_Mo_dayGoes_b0  S = some z) : G X V 4 (QV X V z) 0 [some (.ref (V.2.2.1 0 0)), none, none, none] [] S := by
  unfold f_Mo_dayGoes_b0 at h
  refine g_iconst (pc := 0) hC kc_0 d_Mo_dayGoes_0 ?_
  refine s_istore_n (pc := 1) hC (i := 1) rfl (by decide) d_Mo_dayGoes_1 (lv2 := [some (.ref (V.2.2.1 0 0)), some (.int 0), none, none]) rfl ?_
  exact w_Mo_dayGoes_l2 hV hC 5000 0 S h
theorem c_Mo_dayGoes {V : WV} {l : Launch} (hV : IsM V) {S : Mem} {z : Mem} (h : f_Mo_dayGoes S = some z) : CV V l y_Mo_dayGoes bc_Mo_dayGoes 4 none 9 198 [.ref (V.2.2.1 0 0)] S z :=
  ct_v rfl (IsM.ok hV) (Nat.le_of_ble_eq_true rfl) (fun _ _ hC => w_Mo_dayGoes_b0 hV hC S h)
def f_Mo_goes_b2 (k2 : Int32 → Int32 → Mem → Option (Mem)) (x1 : Int32) (x2 : Int32) (S : Mem) : Option (Mem) :=
  if x1 ≤ x2 then
    some S
  else
    Option.bind (f_Mo_dayGoes S) (fun q8 =>
    k2 x1 (x2 + 1) q8)
def f_Mo_goes_l2 : Nat → Int32 → Int32 → Mem → Option (Mem)
  | 0 => fun _ _ _ => none
  | n + 1 => f_Mo_goes_b2  (f_Mo_goes_l2  n)
def f_Mo_goes_b0 (x1 : Int32) (S : Mem) : Option (Mem) :=
  f_Mo_goes_l2 5000 x1 0 S
def f_Mo_goes (x1 : Int32) (S : Mem) : Option (Mem) := f_Mo_goes_b0  x1 S
theorem d_Mo_goes_0 : decode bc_Mo_goes 0 = .ok (.iconst 0, 1) := by decide +kernel
theorem d_Mo_goes_1 : decode bc_Mo_goes 1 = .ok (.istore_n 2, 1) := by decide +kernel
theorem d_Mo_goes_2 : decode bc_Mo_goes 2 = .ok (.iload_n 2, 1) := by decide +kernel
theorem d_Mo_goes_3 : decode bc_Mo_goes 3 = .ok (.iload_n 1, 1) := by decide +kernel
theorem d_Mo_goes_4 : decode bc_Mo_goes 4 = .ok (.if_icmp .ge 13, 3) := by decide +kernel
theorem d_Mo_goes_7 : decode bc_Mo_goes 7 = .ok (.aload_n 0, 1) := by decide +kernel
theorem d_Mo_goes_8 : decode bc_Mo_goes 8 = .ok (.invokevirtual 416, 3) := by decide +kernel
theorem d_Mo_goes_11 : decode bc_Mo_goes 11 = .ok (.iinc 2 1, 3) := by decide +kernel
theorem d_Mo_goes_14 : decode bc_Mo_goes 14 = .ok (.goto (-12), 3) := by decide +kernel
theorem d_Mo_goes_17 : decode bc_Mo_goes 17 = .ok (.return_, 1) := by decide +kernel
set_option maxRecDepth 20000 in
theorem w_Mo_goes_b2 {X : CX} {V : WV} (hV : IsM V) {z : Mem} (hC : Ck X V bc_Mo_goes 3 "SecretWellsModel" none 10 221) (k2 : Int32 → Int32 → Mem → Option (Mem)) (hk2 : ∀ (x1 : Int32) (x2 : Int32) (S : Mem), k2 x1 x2 S = some z → G X V 3 (QV X V z) 2 [some (.ref (V.2.2.1 0 0)), some (.int x1), some (.int x2)] [] S) (x1 : Int32) (x2 : Int32) (S : Mem) (h : f_Mo_goes_b2  k2 x1 x2 S = some z) : G X V 3 (QV X V z) 2 [some (.ref (V.2.2.1 0 0)), some (.int x1), some (.int x2)] [] S := by
  unfold f_Mo_goes_b2 at h
  refine g_iload_n (pc := 2) hC (i := 2) (x := x2) rfl rfl d_Mo_goes_2 ?_
  refine g_iload_n (pc := 3) hC (i := 1) (x := x1) rfl rfl d_Mo_goes_3 ?_
  refine g_icmp_ge (pc := 4) hC (tgt := 17) (by decide) d_Mo_goes_4 h (fun h => ?_) (fun h => ?_)
  · exact g_vW (pc := 17) hC d_Mo_goes_17 h
  · refine g_aload_n (pc := 7) hC (i := 0) (x := (V.2.2.1 0 0)) rfl rfl d_Mo_goes_7 ?_
    obtain ⟨q8, hq8, h⟩ := Option.bind_eq_some_iff.mp h
    refine g_vv (pc := 8) hC (As := []) (st := []) mt_Mo_dayGoes lk_Mo_416 rfl (ob_Mo hV) (Nat.le_of_ble_eq_true rfl) ⟨Nat.le_of_ble_eq_true rfl, Nat.le_of_ble_eq_true rfl⟩ rfl d_Mo_goes_8 (c_Mo_dayGoes hV hq8) ?_
    refine s_iinc (pc := 11) hC (i := 2) (x := x2) (v := x2 + 1) rfl (by rw [kc_1]) (by decide) d_Mo_goes_11 (lv2 := [some (.ref (V.2.2.1 0 0)), some (.int x1), some (.int (x2 + 1))]) rfl ?_
    refine g_goto (pc := 14) hC (tgt := 2) (by decide) d_Mo_goes_14 ?_
    exact hk2 x1 (x2 + 1) q8 h
theorem w_Mo_goes_l2 {X : CX} {V : WV} (hV : IsM V) {z : Mem} (hC : Ck X V bc_Mo_goes 3 "SecretWellsModel" none 10 221) : ∀ (n : Nat) (x1 : Int32) (x2 : Int32) (S : Mem), f_Mo_goes_l2  n x1 x2 S = some z → G X V 3 (QV X V z) 2 [some (.ref (V.2.2.1 0 0)), some (.int x1), some (.int x2)] [] S := by
  intro n
  induction n with
  | zero =>
    intro x1 x2 S h
    have h : (none : Option (Mem)) = some z := h
    cases h
  | succ n ih =>
    intro x1 x2 S h
    exact w_Mo_goes_b2 hV hC (f_Mo_goes_l2  n) ih x1 x2 S h
set_option maxRecDepth 20000 in
theorem w_Mo_goes_b0 {X : CX} {V : WV} (hV : IsM V) {z : Mem} (hC : Ck X V bc_Mo_goes 3 "SecretWellsModel" none 10 221) (x1 : Int32) (S : Mem) (h : f_Mo_goes_b0  x1 S = some z) : G X V 3 (QV X V z) 0 [some (.ref (V.2.2.1 0 0)), some (.int x1), none] [] S := by
  unfold f_Mo_goes_b0 at h
  refine g_iconst (pc := 0) hC kc_0 d_Mo_goes_0 ?_
  refine s_istore_n (pc := 1) hC (i := 2) rfl (by decide) d_Mo_goes_1 (lv2 := [some (.ref (V.2.2.1 0 0)), some (.int x1), some (.int 0)]) rfl ?_
  exact w_Mo_goes_l2 hV hC 5000 x1 0 S h
theorem c_Mo_goes {V : WV} {l : Launch} (hV : IsM V) {x1 : Int32} {S : Mem} {z : Mem} (h : f_Mo_goes x1 S = some z) : CV V l y_Mo_goes bc_Mo_goes 3 none 10 221 [.ref (V.2.2.1 0 0), .int x1] S z :=
  ct_v rfl (IsM.ok hV) (Nat.le_of_ble_eq_true rfl) (fun _ _ hC => w_Mo_goes_b0 hV hC x1 S h)
def f_Mo_well_b70 (k70 : Int32 → Int32 → Int32 → Mem → Option (Int32 × Mem)) (x1 : Int32) (x3 : Int32) (x4 : Int32) (S : Mem) : Option (Int32 × Mem) :=
  gIn (S.1 0 18) 2 (
  if (S.2.1 0 30 (S.1 0 18).toNatClampNeg) ≤ x4 then
    some (x3, S)
  else
    gIn (4 + x4) 40 (
    if (S.2.1 0 57 (4 + x4).toNatClampNeg) = x1 then
      letS (x3 ||| ((1 : Int32) <<< (x4 &&& 31))) (fun y103 =>
      k70 x1 y103 (x4 + 1) S)
    else
      k70 x1 x3 (x4 + 1) S))
def f_Mo_well_l70 : Nat → Int32 → Int32 → Int32 → Mem → Option (Int32 × Mem)
  | 0 => fun _ _ _ _ => none
  | n + 1 => f_Mo_well_b70  (f_Mo_well_l70  n)
def f_Mo_well_b0 (x1 : Int32) (x2 : Int32) (S : Mem) : Option (Int32 × Mem) :=
  Option.bind (f_Mo_isWell x1 S) (fun q2 =>
  if q2 = 0 then
    some ((-1), S)
  else
    Option.bind (f_Mo_copies S) (fun q11 =>
    if x2 = 0 then
      Option.bind (f_Mo_deepOf x1 q11) (fun q54 =>
      some (q54, q11))
    else if x2 = 1 then
      gIn x1 40 (
      some (q11.2.1 0 57 x1.toNatClampNeg, q11))
    else if x2 = 2 then
      f_Mo_well_l70 5000 x1 0 0 q11
    else if x2 = 3 then
      Option.bind (f_Mo_holding x1 q11) (fun q114 =>
      some (q114, q11))
    else if x2 = 4 then
      Option.bind (f_Mo_drinkersOf x1 q11) (fun q120 =>
      some (q120, q11))
    else if x2 = 5 then
      Option.bind (f_Mo_fillsOf x1 q11) (fun q126 =>
      some (q126.1, q126.2))
    else 
      some ((-1), q11)))
def f_Mo_well (x1 : Int32) (x2 : Int32) (S : Mem) : Option (Int32 × Mem) := f_Mo_well_b0  x1 x2 S
theorem d_Mo_well_0 : decode bc_Mo_well 0 = .ok (.aload_n 0, 1) := by decide +kernel
theorem d_Mo_well_1 : decode bc_Mo_well 1 = .ok (.iload_n 1, 1) := by decide +kernel
theorem d_Mo_well_2 : decode bc_Mo_well 2 = .ok (.invokevirtual 419, 3) := by decide +kernel
theorem d_Mo_well_5 : decode bc_Mo_well 5 = .ok (.ifCond .ne 5, 3) := by decide +kernel
theorem d_Mo_well_8 : decode bc_Mo_well 8 = .ok (.iconst (-1), 1) := by decide +kernel
theorem d_Mo_well_9 : decode bc_Mo_well 9 = .ok (.ireturn, 1) := by decide +kernel
theorem d_Mo_well_10 : decode bc_Mo_well 10 = .ok (.aload_n 0, 1) := by decide +kernel
theorem d_Mo_well_11 : decode bc_Mo_well 11 = .ok (.invokevirtual 422, 3) := by decide +kernel
theorem d_Mo_well_14 : decode bc_Mo_well 14 = .ok (.iload_n 2, 1) := by decide +kernel
theorem d_Mo_well_15 : decode bc_Mo_well 15 = .ok (.tableswitch 115 0 5 #[37, 43, 50, 97, 103, 109], 37) := by decide +kernel
theorem d_Mo_well_52 : decode bc_Mo_well 52 = .ok (.aload_n 0, 1) := by decide +kernel
theorem d_Mo_well_53 : decode bc_Mo_well 53 = .ok (.iload_n 1, 1) := by decide +kernel
theorem d_Mo_well_54 : decode bc_Mo_well 54 = .ok (.invokevirtual 364, 3) := by decide +kernel
theorem d_Mo_well_57 : decode bc_Mo_well 57 = .ok (.ireturn, 1) := by decide +kernel
theorem d_Mo_well_58 : decode bc_Mo_well 58 = .ok (.aload_n 0, 1) := by decide +kernel
theorem d_Mo_well_59 : decode bc_Mo_well 59 = .ok (.getfield 137, 3) := by decide +kernel
theorem d_Mo_well_62 : decode bc_Mo_well 62 = .ok (.iload_n 1, 1) := by decide +kernel
theorem d_Mo_well_63 : decode bc_Mo_well 63 = .ok (.iaload, 1) := by decide +kernel
theorem d_Mo_well_64 : decode bc_Mo_well 64 = .ok (.ireturn, 1) := by decide +kernel
theorem d_Mo_well_65 : decode bc_Mo_well 65 = .ok (.iconst 0, 1) := by decide +kernel
theorem d_Mo_well_66 : decode bc_Mo_well 66 = .ok (.istore_n 3, 1) := by decide +kernel
theorem d_Mo_well_67 : decode bc_Mo_well 67 = .ok (.iconst 0, 1) := by decide +kernel
theorem d_Mo_well_68 : decode bc_Mo_well 68 = .ok (.istore 4, 2) := by decide +kernel
theorem d_Mo_well_70 : decode bc_Mo_well 70 = .ok (.iload 4, 2) := by decide +kernel
theorem d_Mo_well_72 : decode bc_Mo_well 72 = .ok (.aload_n 0, 1) := by decide +kernel
theorem d_Mo_well_73 : decode bc_Mo_well 73 = .ok (.getfield 67, 3) := by decide +kernel
theorem d_Mo_well_76 : decode bc_Mo_well 76 = .ok (.aload_n 0, 1) := by decide +kernel
theorem d_Mo_well_77 : decode bc_Mo_well 77 = .ok (.getfield 245, 3) := by decide +kernel
theorem d_Mo_well_80 : decode bc_Mo_well 80 = .ok (.iaload, 1) := by decide +kernel
theorem d_Mo_well_81 : decode bc_Mo_well 81 = .ok (.if_icmp .ge 29, 3) := by decide +kernel
theorem d_Mo_well_84 : decode bc_Mo_well 84 = .ok (.aload_n 0, 1) := by decide +kernel
theorem d_Mo_well_85 : decode bc_Mo_well 85 = .ok (.getfield 137, 3) := by decide +kernel
theorem d_Mo_well_88 : decode bc_Mo_well 88 = .ok (.iconst 4, 1) := by decide +kernel
theorem d_Mo_well_89 : decode bc_Mo_well 89 = .ok (.iload 4, 2) := by decide +kernel
theorem d_Mo_well_91 : decode bc_Mo_well 91 = .ok (.iadd, 1) := by decide +kernel
theorem d_Mo_well_92 : decode bc_Mo_well 92 = .ok (.iaload, 1) := by decide +kernel
theorem d_Mo_well_93 : decode bc_Mo_well 93 = .ok (.iload_n 1, 1) := by decide +kernel
theorem d_Mo_well_94 : decode bc_Mo_well 94 = .ok (.if_icmp .ne 10, 3) := by decide +kernel
theorem d_Mo_well_97 : decode bc_Mo_well 97 = .ok (.iload_n 3, 1) := by decide +kernel
theorem d_Mo_well_98 : decode bc_Mo_well 98 = .ok (.iconst 1, 1) := by decide +kernel
theorem d_Mo_well_99 : decode bc_Mo_well 99 = .ok (.iload 4, 2) := by decide +kernel
theorem d_Mo_well_101 : decode bc_Mo_well 101 = .ok (.ishl, 1) := by decide +kernel
theorem d_Mo_well_102 : decode bc_Mo_well 102 = .ok (.ior, 1) := by decide +kernel
theorem d_Mo_well_103 : decode bc_Mo_well 103 = .ok (.istore_n 3, 1) := by decide +kernel
theorem d_Mo_well_104 : decode bc_Mo_well 104 = .ok (.iinc 4 1, 3) := by decide +kernel
theorem d_Mo_well_107 : decode bc_Mo_well 107 = .ok (.goto (-37), 3) := by decide +kernel
theorem d_Mo_well_110 : decode bc_Mo_well 110 = .ok (.iload_n 3, 1) := by decide +kernel
theorem d_Mo_well_111 : decode bc_Mo_well 111 = .ok (.ireturn, 1) := by decide +kernel
theorem d_Mo_well_112 : decode bc_Mo_well 112 = .ok (.aload_n 0, 1) := by decide +kernel
theorem d_Mo_well_113 : decode bc_Mo_well 113 = .ok (.iload_n 1, 1) := by decide +kernel
theorem d_Mo_well_114 : decode bc_Mo_well 114 = .ok (.invokevirtual 386, 3) := by decide +kernel
theorem d_Mo_well_117 : decode bc_Mo_well 117 = .ok (.ireturn, 1) := by decide +kernel
theorem d_Mo_well_118 : decode bc_Mo_well 118 = .ok (.aload_n 0, 1) := by decide +kernel
theorem d_Mo_well_119 : decode bc_Mo_well 119 = .ok (.iload_n 1, 1) := by decide +kernel
theorem d_Mo_well_120 : decode bc_Mo_well 120 = .ok (.invokevirtual 380, 3) := by decide +kernel
theorem d_Mo_well_123 : decode bc_Mo_well 123 = .ok (.ireturn, 1) := by decide +kernel
theorem d_Mo_well_124 : decode bc_Mo_well 124 = .ok (.aload_n 0, 1) := by decide +kernel
theorem d_Mo_well_125 : decode bc_Mo_well 125 = .ok (.iload_n 1, 1) := by decide +kernel
theorem d_Mo_well_126 : decode bc_Mo_well 126 = .ok (.invokevirtual 404, 3) := by decide +kernel
theorem d_Mo_well_129 : decode bc_Mo_well 129 = .ok (.ireturn, 1) := by decide +kernel
theorem d_Mo_well_130 : decode bc_Mo_well 130 = .ok (.iconst (-1), 1) := by decide +kernel
theorem d_Mo_well_131 : decode bc_Mo_well 131 = .ok (.ireturn, 1) := by decide +kernel
set_option maxRecDepth 20000 in
theorem w_Mo_well_b70 {X : CX} {V : WV} (hV : IsM V) {z : Int32 × Mem} (hC : Ck X V bc_Mo_well 5 "SecretWellsModel" (some .int) 7 152) (k70 : Int32 → Int32 → Int32 → Mem → Option (Int32 × Mem)) (hk70 : ∀ (x1 : Int32) (x3 : Int32) (x4 : Int32) (S : Mem), k70 x1 x3 x4 S = some z → G X V 5 (QI X V z.1 z.2) 70 [some (.ref (V.2.2.1 0 0)), some (.int x1), none, some (.int x3), some (.int x4)] [] S) (x1 : Int32) (x3 : Int32) (x4 : Int32) (S : Mem) (h : f_Mo_well_b70  k70 x1 x3 x4 S = some z) : G X V 5 (QI X V z.1 z.2) 70 [some (.ref (V.2.2.1 0 0)), some (.int x1), none, some (.int x3), some (.int x4)] [] S := by
  unfold f_Mo_well_b70 at h
  refine g_iload (pc := 70) hC (i := 4) (x := x4) rfl d_Mo_well_70 ?_
  refine g_aload_n (pc := 72) hC (i := 0) (x := (V.2.2.1 0 0)) rfl rfl d_Mo_well_72 ?_
  refine g_getA (pc := 73) hC fo_Mo_67 (ob_Mo hV) rfl d_Mo_well_73 ?_
  refine g_aload_n (pc := 76) hC (i := 0) (x := (V.2.2.1 0 0)) rfl rfl d_Mo_well_76 ?_
  refine g_getI (pc := 77) hC fo_Mo_245 (ob_Mo hV) rfl d_Mo_well_77 ?_
  refine g_iald (pc := 80) hC (ar_Mo_30 hV) d_Mo_well_80 h (fun h => ?_)
  refine g_icmp_ge (pc := 81) hC (tgt := 110) (by decide) d_Mo_well_81 h (fun h => ?_) (fun h => ?_)
  · refine g_iload_n (pc := 110) hC (i := 3) (x := x3) rfl rfl d_Mo_well_110 ?_
    exact g_iW (pc := 111) hC rfl d_Mo_well_111 h
  · refine g_aload_n (pc := 84) hC (i := 0) (x := (V.2.2.1 0 0)) rfl rfl d_Mo_well_84 ?_
    refine g_getA (pc := 85) hC fo_Mo_137 (ob_Mo hV) rfl d_Mo_well_85 ?_
    refine g_iconst (pc := 88) hC kc_4 d_Mo_well_88 ?_
    refine g_iload (pc := 89) hC (i := 4) (x := x4) rfl d_Mo_well_89 ?_
    refine g_iadd (pc := 91) hC d_Mo_well_91 ?_
    refine g_iald (pc := 92) hC (ar_Mo_57 hV) d_Mo_well_92 h (fun h => ?_)
    refine g_iload_n (pc := 93) hC (i := 1) (x := x1) rfl rfl d_Mo_well_93 ?_
    refine g_icmp_ne (pc := 94) hC (tgt := 104) (by decide) d_Mo_well_94 h (fun h => ?_) (fun h => ?_)
    · refine s_iinc (pc := 104) hC (i := 4) (x := x4) (v := x4 + 1) rfl (by rw [kc_1]) (by decide) d_Mo_well_104 (lv2 := [some (.ref (V.2.2.1 0 0)), some (.int x1), none, some (.int x3), some (.int (x4 + 1))]) rfl ?_
      refine g_goto (pc := 107) hC (tgt := 70) (by decide) d_Mo_well_107 ?_
      exact hk70 x1 x3 (x4 + 1) S h
    · refine g_iload_n (pc := 97) hC (i := 3) (x := x3) rfl rfl d_Mo_well_97 ?_
      refine g_iconst (pc := 98) hC kc_1 d_Mo_well_98 ?_
      refine g_iload (pc := 99) hC (i := 4) (x := x4) rfl d_Mo_well_99 ?_
      refine g_ishl (pc := 101) hC d_Mo_well_101 ?_
      refine g_ior (pc := 102) hC d_Mo_well_102 ?_
      refine g_leti h (fun y103 h => ?_)
      refine s_istore_n (pc := 103) hC (i := 3) rfl (by decide) d_Mo_well_103 (lv2 := [some (.ref (V.2.2.1 0 0)), some (.int x1), none, some (.int y103), some (.int x4)]) rfl ?_
      refine s_iinc (pc := 104) hC (i := 4) (x := x4) (v := x4 + 1) rfl (by rw [kc_1]) (by decide) d_Mo_well_104 (lv2 := [some (.ref (V.2.2.1 0 0)), some (.int x1), none, some (.int y103), some (.int (x4 + 1))]) rfl ?_
      refine g_goto (pc := 107) hC (tgt := 70) (by decide) d_Mo_well_107 ?_
      exact hk70 x1 y103 (x4 + 1) S h
theorem w_Mo_well_l70 {X : CX} {V : WV} (hV : IsM V) {z : Int32 × Mem} (hC : Ck X V bc_Mo_well 5 "SecretWellsModel" (some .int) 7 152) : ∀ (n : Nat) (x1 : Int32) (x3 : Int32) (x4 : Int32) (S : Mem), f_Mo_well_l70  n x1 x3 x4 S = some z → G X V 5 (QI X V z.1 z.2) 70 [some (.ref (V.2.2.1 0 0)), some (.int x1), none, some (.int x3), some (.int x4)] [] S := by
  intro n
  induction n with
  | zero =>
    intro x1 x3 x4 S h
    have h : (none : Option (Int32 × Mem)) = some z := h
    cases h
  | succ n ih =>
    intro x1 x3 x4 S h
    exact w_Mo_well_b70 hV hC (f_Mo_well_l70  n) ih x1 x3 x4 S h
set_option maxRecDepth 20000 in
theorem w_Mo_well_b0 {X : CX} {V : WV} (hV : IsM V) {z : Int32 × Mem} (hC : Ck X V bc_Mo_well 5 "SecretWellsModel" (some .int) 7 152) (x1 : Int32) (x2 : Int32) (S : Mem) (h : f_Mo_well_b0  x1 x2 S = some z) : G X V 5 (QI X V z.1 z.2) 0 [some (.ref (V.2.2.1 0 0)), some (.int x1), some (.int x2), none, none] [] S := by
  unfold f_Mo_well_b0 at h
  refine g_aload_n (pc := 0) hC (i := 0) (x := (V.2.2.1 0 0)) rfl rfl d_Mo_well_0 ?_
  refine g_iload_n (pc := 1) hC (i := 1) (x := x1) rfl rfl d_Mo_well_1 ?_
  obtain ⟨q2, hq2, h⟩ := Option.bind_eq_some_iff.mp h
  refine g_vi (pc := 2) hC (As := [.int x1]) (st := []) mt_Mo_isWell lk_Mo_419 rfl (ob_Mo hV) (Nat.le_of_ble_eq_true rfl) ⟨Nat.le_of_ble_eq_true rfl, Nat.le_of_ble_eq_true rfl⟩ rfl d_Mo_well_2 (c_Mo_isWell hV hq2) ?_
  refine g_if_ne (pc := 5) hC (tgt := 10) (by decide) d_Mo_well_5 h (fun h => ?_) (fun h => ?_)
  · refine g_aload_n (pc := 10) hC (i := 0) (x := (V.2.2.1 0 0)) rfl rfl d_Mo_well_10 ?_
    obtain ⟨q11, hq11, h⟩ := Option.bind_eq_some_iff.mp h
    refine g_vv (pc := 11) hC (As := []) (st := []) mt_Mo_copies lk_Mo_422 rfl (ob_Mo hV) (Nat.le_of_ble_eq_true rfl) ⟨Nat.le_of_ble_eq_true rfl, Nat.le_of_ble_eq_true rfl⟩ rfl d_Mo_well_11 (c_Mo_copies hV hq11) ?_
    refine g_iload_n (pc := 14) hC (i := 2) (x := x2) rfl rfl d_Mo_well_14 ?_
    by_cases hs15_0 : x2 = 0
    · rw [if_pos hs15_0] at h
      refine g_table (pc := 15) hC (tgt := 52) d_Mo_well_15 rfl (by rw [hs15_0]; decide) ?_
      refine g_aload_n (pc := 52) hC (i := 0) (x := (V.2.2.1 0 0)) rfl rfl d_Mo_well_52 ?_
      refine g_iload_n (pc := 53) hC (i := 1) (x := x1) rfl rfl d_Mo_well_53 ?_
      obtain ⟨q54, hq54, h⟩ := Option.bind_eq_some_iff.mp h
      refine g_vi (pc := 54) hC (As := [.int x1]) (st := []) mt_Mo_deepOf lk_Mo_364 rfl (ob_Mo hV) (Nat.le_of_ble_eq_true rfl) ⟨Nat.le_of_ble_eq_true rfl, Nat.le_of_ble_eq_true rfl⟩ rfl d_Mo_well_54 (c_Mo_deepOf hV hq54) ?_
      exact g_iW (pc := 57) hC rfl d_Mo_well_57 h
    rw [if_neg hs15_0] at h
    by_cases hs15_1 : x2 = 1
    · rw [if_pos hs15_1] at h
      refine g_table (pc := 15) hC (tgt := 58) d_Mo_well_15 rfl (by rw [hs15_1]; decide) ?_
      refine g_aload_n (pc := 58) hC (i := 0) (x := (V.2.2.1 0 0)) rfl rfl d_Mo_well_58 ?_
      refine g_getA (pc := 59) hC fo_Mo_137 (ob_Mo hV) rfl d_Mo_well_59 ?_
      refine g_iload_n (pc := 62) hC (i := 1) (x := x1) rfl rfl d_Mo_well_62 ?_
      refine g_iald (pc := 63) hC (ar_Mo_57 hV) d_Mo_well_63 h (fun h => ?_)
      exact g_iW (pc := 64) hC rfl d_Mo_well_64 h
    rw [if_neg hs15_1] at h
    by_cases hs15_2 : x2 = 2
    · rw [if_pos hs15_2] at h
      refine g_table (pc := 15) hC (tgt := 65) d_Mo_well_15 rfl (by rw [hs15_2]; decide) ?_
      refine g_iconst (pc := 65) hC kc_0 d_Mo_well_65 ?_
      refine s_istore_n (pc := 66) hC (i := 3) rfl (by decide) d_Mo_well_66 (lv2 := [some (.ref (V.2.2.1 0 0)), some (.int x1), some (.int x2), some (.int 0), none]) rfl ?_
      refine g_iconst (pc := 67) hC kc_0 d_Mo_well_67 ?_
      refine s_istore (pc := 68) hC (i := 4) (by decide) d_Mo_well_68 (lv2 := [some (.ref (V.2.2.1 0 0)), some (.int x1), some (.int x2), some (.int 0), some (.int 0)]) rfl ?_
      refine g_le (lv2 := [some (.ref (V.2.2.1 0 0)), some (.int x1), none, some (.int 0), some (.int 0)]) (⟨rfl, ⟨rfl, ⟨rfl, ⟨rfl, trivial⟩⟩⟩⟩) ?_
      exact w_Mo_well_l70 hV hC 5000 x1 0 0 q11 h
    rw [if_neg hs15_2] at h
    by_cases hs15_3 : x2 = 3
    · rw [if_pos hs15_3] at h
      refine g_table (pc := 15) hC (tgt := 112) d_Mo_well_15 rfl (by rw [hs15_3]; decide) ?_
      refine g_aload_n (pc := 112) hC (i := 0) (x := (V.2.2.1 0 0)) rfl rfl d_Mo_well_112 ?_
      refine g_iload_n (pc := 113) hC (i := 1) (x := x1) rfl rfl d_Mo_well_113 ?_
      obtain ⟨q114, hq114, h⟩ := Option.bind_eq_some_iff.mp h
      refine g_vi (pc := 114) hC (As := [.int x1]) (st := []) mt_Mo_holding lk_Mo_386 rfl (ob_Mo hV) (Nat.le_of_ble_eq_true rfl) ⟨Nat.le_of_ble_eq_true rfl, Nat.le_of_ble_eq_true rfl⟩ rfl d_Mo_well_114 (c_Mo_holding hV hq114) ?_
      exact g_iW (pc := 117) hC rfl d_Mo_well_117 h
    rw [if_neg hs15_3] at h
    by_cases hs15_4 : x2 = 4
    · rw [if_pos hs15_4] at h
      refine g_table (pc := 15) hC (tgt := 118) d_Mo_well_15 rfl (by rw [hs15_4]; decide) ?_
      refine g_aload_n (pc := 118) hC (i := 0) (x := (V.2.2.1 0 0)) rfl rfl d_Mo_well_118 ?_
      refine g_iload_n (pc := 119) hC (i := 1) (x := x1) rfl rfl d_Mo_well_119 ?_
      obtain ⟨q120, hq120, h⟩ := Option.bind_eq_some_iff.mp h
      refine g_vi (pc := 120) hC (As := [.int x1]) (st := []) mt_Mo_drinkersOf lk_Mo_380 rfl (ob_Mo hV) (Nat.le_of_ble_eq_true rfl) ⟨Nat.le_of_ble_eq_true rfl, Nat.le_of_ble_eq_true rfl⟩ rfl d_Mo_well_120 (c_Mo_drinkersOf hV hq120) ?_
      exact g_iW (pc := 123) hC rfl d_Mo_well_123 h
    rw [if_neg hs15_4] at h
    by_cases hs15_5 : x2 = 5
    · rw [if_pos hs15_5] at h
      refine g_table (pc := 15) hC (tgt := 124) d_Mo_well_15 rfl (by rw [hs15_5]; decide) ?_
      refine g_aload_n (pc := 124) hC (i := 0) (x := (V.2.2.1 0 0)) rfl rfl d_Mo_well_124 ?_
      refine g_iload_n (pc := 125) hC (i := 1) (x := x1) rfl rfl d_Mo_well_125 ?_
      obtain ⟨q126, hq126, h⟩ := Option.bind_eq_some_iff.mp h
      refine g_vi (pc := 126) hC (As := [.int x1]) (st := []) mt_Mo_fillsOf lk_Mo_404 rfl (ob_Mo hV) (Nat.le_of_ble_eq_true rfl) ⟨Nat.le_of_ble_eq_true rfl, Nat.le_of_ble_eq_true rfl⟩ rfl d_Mo_well_126 (c_Mo_fillsOf hV hq126) ?_
      exact g_iW (pc := 129) hC rfl d_Mo_well_129 h
    rw [if_neg hs15_5] at h
    refine g_table (pc := 15) hC (tgt := 130) d_Mo_well_15 rfl ((sw_else [(0 : Int32), (1 : Int32), (2 : Int32), (3 : Int32), (4 : Int32), (5 : Int32)] (by intro v hv; simp only [List.mem_cons, List.not_mem_nil, or_false] at hv; rcases hv with rfl | rfl | rfl | rfl | rfl | rfl <;> assumption) (by decide)).trans (by decide)) ?_
    refine g_iconst (pc := 130) hC kc_m1 d_Mo_well_130 ?_
    exact g_iW (pc := 131) hC rfl d_Mo_well_131 h
  · refine g_iconst (pc := 8) hC kc_m1 d_Mo_well_8 ?_
    exact g_iW (pc := 9) hC rfl d_Mo_well_9 h
theorem c_Mo_well {V : WV} {l : Launch} (hV : IsM V) {x1 : Int32} {x2 : Int32} {S : Mem} {z : Int32 × Mem} (h : f_Mo_well x1 x2 S = some z) : CI V l y_Mo_well bc_Mo_well 5 (some .int) 7 152 [.ref (V.2.2.1 0 0), .int x1, .int x2] S z.1 z.2 :=
  ct_i rfl (IsM.ok hV) (Nat.le_of_ble_eq_true rfl) (fun _ _ hC => w_Mo_well_b0 hV hC x1 x2 S h)
def f_Mo_man_b0 (x1 : Int32) (x2 : Int32) (S : Mem) : Option (Int32 × Mem) :=
  Option.bind (f_Mo_isMan x1 S) (fun q2 =>
  if q2 = 0 then
    some ((-1), S)
  else
    Option.bind (f_Mo_copies S) (fun q11 =>
    if x2 = 0 then
      Option.bind (f_Mo_isAlive x1 q11) (fun q50 =>
      if q50 = 0 then
        some (0, q11)
      else
        some (1, q11))
    else if x2 = 1 then
      gIn (12 + x1) 40 (
      some (q11.2.1 0 57 (12 + x1).toNatClampNeg, q11))
    else if x2 = 2 then
      gIn (19 + x1) 40 (
      some (q11.2.1 0 57 (19 + x1).toNatClampNeg, q11))
    else if x2 = 3 then
      gIn (26 + x1) 40 (
      some (q11.2.1 0 57 (26 + x1).toNatClampNeg, q11))
    else if x2 = 4 then
      Option.bind (f_Mo_isAlive x1 q11) (fun q94 =>
      if q94 = 0 then
        some (0, q11)
      else
        Option.bind (f_Mo_drinksOf x1 q11) (fun q102 =>
        some (q102.1, q102.2)))
    else 
      some ((-1), q11)))
def f_Mo_man (x1 : Int32) (x2 : Int32) (S : Mem) : Option (Int32 × Mem) := f_Mo_man_b0  x1 x2 S
theorem d_Mo_man_0 : decode bc_Mo_man 0 = .ok (.aload_n 0, 1) := by decide +kernel
theorem d_Mo_man_1 : decode bc_Mo_man 1 = .ok (.iload_n 1, 1) := by decide +kernel
theorem d_Mo_man_2 : decode bc_Mo_man 2 = .ok (.invokevirtual 425, 3) := by decide +kernel
theorem d_Mo_man_5 : decode bc_Mo_man 5 = .ok (.ifCond .ne 5, 3) := by decide +kernel
theorem d_Mo_man_8 : decode bc_Mo_man 8 = .ok (.iconst (-1), 1) := by decide +kernel
theorem d_Mo_man_9 : decode bc_Mo_man 9 = .ok (.ireturn, 1) := by decide +kernel
theorem d_Mo_man_10 : decode bc_Mo_man 10 = .ok (.aload_n 0, 1) := by decide +kernel
theorem d_Mo_man_11 : decode bc_Mo_man 11 = .ok (.invokevirtual 422, 3) := by decide +kernel
theorem d_Mo_man_14 : decode bc_Mo_man 14 = .ok (.iload_n 2, 1) := by decide +kernel
theorem d_Mo_man_15 : decode bc_Mo_man 15 = .ok (.tableswitch 95 0 4 #[33, 47, 57, 67, 77], 33) := by decide +kernel
theorem d_Mo_man_48 : decode bc_Mo_man 48 = .ok (.aload_n 0, 1) := by decide +kernel
theorem d_Mo_man_49 : decode bc_Mo_man 49 = .ok (.iload_n 1, 1) := by decide +kernel
theorem d_Mo_man_50 : decode bc_Mo_man 50 = .ok (.invokevirtual 367, 3) := by decide +kernel
theorem d_Mo_man_53 : decode bc_Mo_man 53 = .ok (.ifCond .eq 7, 3) := by decide +kernel
theorem d_Mo_man_56 : decode bc_Mo_man 56 = .ok (.iconst 1, 1) := by decide +kernel
theorem d_Mo_man_57 : decode bc_Mo_man 57 = .ok (.goto 4, 3) := by decide +kernel
theorem d_Mo_man_60 : decode bc_Mo_man 60 = .ok (.iconst 0, 1) := by decide +kernel
theorem d_Mo_man_61 : decode bc_Mo_man 61 = .ok (.ireturn, 1) := by decide +kernel
theorem d_Mo_man_62 : decode bc_Mo_man 62 = .ok (.aload_n 0, 1) := by decide +kernel
theorem d_Mo_man_63 : decode bc_Mo_man 63 = .ok (.getfield 137, 3) := by decide +kernel
theorem d_Mo_man_66 : decode bc_Mo_man 66 = .ok (.bipush 12, 2) := by decide +kernel
theorem d_Mo_man_68 : decode bc_Mo_man 68 = .ok (.iload_n 1, 1) := by decide +kernel
theorem d_Mo_man_69 : decode bc_Mo_man 69 = .ok (.iadd, 1) := by decide +kernel
theorem d_Mo_man_70 : decode bc_Mo_man 70 = .ok (.iaload, 1) := by decide +kernel
theorem d_Mo_man_71 : decode bc_Mo_man 71 = .ok (.ireturn, 1) := by decide +kernel
theorem d_Mo_man_72 : decode bc_Mo_man 72 = .ok (.aload_n 0, 1) := by decide +kernel
theorem d_Mo_man_73 : decode bc_Mo_man 73 = .ok (.getfield 137, 3) := by decide +kernel
theorem d_Mo_man_76 : decode bc_Mo_man 76 = .ok (.bipush 19, 2) := by decide +kernel
theorem d_Mo_man_78 : decode bc_Mo_man 78 = .ok (.iload_n 1, 1) := by decide +kernel
theorem d_Mo_man_79 : decode bc_Mo_man 79 = .ok (.iadd, 1) := by decide +kernel
theorem d_Mo_man_80 : decode bc_Mo_man 80 = .ok (.iaload, 1) := by decide +kernel
theorem d_Mo_man_81 : decode bc_Mo_man 81 = .ok (.ireturn, 1) := by decide +kernel
theorem d_Mo_man_82 : decode bc_Mo_man 82 = .ok (.aload_n 0, 1) := by decide +kernel
theorem d_Mo_man_83 : decode bc_Mo_man 83 = .ok (.getfield 137, 3) := by decide +kernel
theorem d_Mo_man_86 : decode bc_Mo_man 86 = .ok (.bipush 26, 2) := by decide +kernel
theorem d_Mo_man_88 : decode bc_Mo_man 88 = .ok (.iload_n 1, 1) := by decide +kernel
theorem d_Mo_man_89 : decode bc_Mo_man 89 = .ok (.iadd, 1) := by decide +kernel
theorem d_Mo_man_90 : decode bc_Mo_man 90 = .ok (.iaload, 1) := by decide +kernel
theorem d_Mo_man_91 : decode bc_Mo_man 91 = .ok (.ireturn, 1) := by decide +kernel
theorem d_Mo_man_92 : decode bc_Mo_man 92 = .ok (.aload_n 0, 1) := by decide +kernel
theorem d_Mo_man_93 : decode bc_Mo_man 93 = .ok (.iload_n 1, 1) := by decide +kernel
theorem d_Mo_man_94 : decode bc_Mo_man 94 = .ok (.invokevirtual 367, 3) := by decide +kernel
theorem d_Mo_man_97 : decode bc_Mo_man 97 = .ok (.ifCond .eq 11, 3) := by decide +kernel
theorem d_Mo_man_100 : decode bc_Mo_man 100 = .ok (.aload_n 0, 1) := by decide +kernel
theorem d_Mo_man_101 : decode bc_Mo_man 101 = .ok (.iload_n 1, 1) := by decide +kernel
theorem d_Mo_man_102 : decode bc_Mo_man 102 = .ok (.invokevirtual 395, 3) := by decide +kernel
theorem d_Mo_man_105 : decode bc_Mo_man 105 = .ok (.goto 4, 3) := by decide +kernel
theorem d_Mo_man_108 : decode bc_Mo_man 108 = .ok (.iconst 0, 1) := by decide +kernel
theorem d_Mo_man_109 : decode bc_Mo_man 109 = .ok (.ireturn, 1) := by decide +kernel
theorem d_Mo_man_110 : decode bc_Mo_man 110 = .ok (.iconst (-1), 1) := by decide +kernel
theorem d_Mo_man_111 : decode bc_Mo_man 111 = .ok (.ireturn, 1) := by decide +kernel
set_option maxRecDepth 20000 in
theorem w_Mo_man_b0 {X : CX} {V : WV} (hV : IsM V) {z : Int32 × Mem} (hC : Ck X V bc_Mo_man 3 "SecretWellsModel" (some .int) 8 173) (x1 : Int32) (x2 : Int32) (S : Mem) (h : f_Mo_man_b0  x1 x2 S = some z) : G X V 3 (QI X V z.1 z.2) 0 [some (.ref (V.2.2.1 0 0)), some (.int x1), some (.int x2)] [] S := by
  unfold f_Mo_man_b0 at h
  refine g_aload_n (pc := 0) hC (i := 0) (x := (V.2.2.1 0 0)) rfl rfl d_Mo_man_0 ?_
  refine g_iload_n (pc := 1) hC (i := 1) (x := x1) rfl rfl d_Mo_man_1 ?_
  obtain ⟨q2, hq2, h⟩ := Option.bind_eq_some_iff.mp h
  refine g_vi (pc := 2) hC (As := [.int x1]) (st := []) mt_Mo_isMan lk_Mo_425 rfl (ob_Mo hV) (Nat.le_of_ble_eq_true rfl) ⟨Nat.le_of_ble_eq_true rfl, Nat.le_of_ble_eq_true rfl⟩ rfl d_Mo_man_2 (c_Mo_isMan hV hq2) ?_
  refine g_if_ne (pc := 5) hC (tgt := 10) (by decide) d_Mo_man_5 h (fun h => ?_) (fun h => ?_)
  · refine g_aload_n (pc := 10) hC (i := 0) (x := (V.2.2.1 0 0)) rfl rfl d_Mo_man_10 ?_
    obtain ⟨q11, hq11, h⟩ := Option.bind_eq_some_iff.mp h
    refine g_vv (pc := 11) hC (As := []) (st := []) mt_Mo_copies lk_Mo_422 rfl (ob_Mo hV) (Nat.le_of_ble_eq_true rfl) ⟨Nat.le_of_ble_eq_true rfl, Nat.le_of_ble_eq_true rfl⟩ rfl d_Mo_man_11 (c_Mo_copies hV hq11) ?_
    refine g_iload_n (pc := 14) hC (i := 2) (x := x2) rfl rfl d_Mo_man_14 ?_
    by_cases hs15_0 : x2 = 0
    · rw [if_pos hs15_0] at h
      refine g_table (pc := 15) hC (tgt := 48) d_Mo_man_15 rfl (by rw [hs15_0]; decide) ?_
      refine g_aload_n (pc := 48) hC (i := 0) (x := (V.2.2.1 0 0)) rfl rfl d_Mo_man_48 ?_
      refine g_iload_n (pc := 49) hC (i := 1) (x := x1) rfl rfl d_Mo_man_49 ?_
      obtain ⟨q50, hq50, h⟩ := Option.bind_eq_some_iff.mp h
      refine g_vi (pc := 50) hC (As := [.int x1]) (st := []) mt_Mo_isAlive lk_Mo_367 rfl (ob_Mo hV) (Nat.le_of_ble_eq_true rfl) ⟨Nat.le_of_ble_eq_true rfl, Nat.le_of_ble_eq_true rfl⟩ rfl d_Mo_man_50 (c_Mo_isAlive hV hq50) ?_
      refine g_if_eq (pc := 53) hC (tgt := 60) (by decide) d_Mo_man_53 h (fun h => ?_) (fun h => ?_)
      · refine g_iconst (pc := 60) hC kc_0 d_Mo_man_60 ?_
        exact g_iW (pc := 61) hC rfl d_Mo_man_61 h
      · refine g_iconst (pc := 56) hC kc_1 d_Mo_man_56 ?_
        refine g_goto (pc := 57) hC (tgt := 61) (by decide) d_Mo_man_57 ?_
        exact g_iW (pc := 61) hC rfl d_Mo_man_61 h
    rw [if_neg hs15_0] at h
    by_cases hs15_1 : x2 = 1
    · rw [if_pos hs15_1] at h
      refine g_table (pc := 15) hC (tgt := 62) d_Mo_man_15 rfl (by rw [hs15_1]; decide) ?_
      refine g_aload_n (pc := 62) hC (i := 0) (x := (V.2.2.1 0 0)) rfl rfl d_Mo_man_62 ?_
      refine g_getA (pc := 63) hC fo_Mo_137 (ob_Mo hV) rfl d_Mo_man_63 ?_
      refine g_bipush (pc := 66) hC kb_12 d_Mo_man_66 ?_
      refine g_iload_n (pc := 68) hC (i := 1) (x := x1) rfl rfl d_Mo_man_68 ?_
      refine g_iadd (pc := 69) hC d_Mo_man_69 ?_
      refine g_iald (pc := 70) hC (ar_Mo_57 hV) d_Mo_man_70 h (fun h => ?_)
      exact g_iW (pc := 71) hC rfl d_Mo_man_71 h
    rw [if_neg hs15_1] at h
    by_cases hs15_2 : x2 = 2
    · rw [if_pos hs15_2] at h
      refine g_table (pc := 15) hC (tgt := 72) d_Mo_man_15 rfl (by rw [hs15_2]; decide) ?_
      refine g_aload_n (pc := 72) hC (i := 0) (x := (V.2.2.1 0 0)) rfl rfl d_Mo_man_72 ?_
      refine g_getA (pc := 73) hC fo_Mo_137 (ob_Mo hV) rfl d_Mo_man_73 ?_
      refine g_bipush (pc := 76) hC kb_19 d_Mo_man_76 ?_
      refine g_iload_n (pc := 78) hC (i := 1) (x := x1) rfl rfl d_Mo_man_78 ?_
      refine g_iadd (pc := 79) hC d_Mo_man_79 ?_
      refine g_iald (pc := 80) hC (ar_Mo_57 hV) d_Mo_man_80 h (fun h => ?_)
      exact g_iW (pc := 81) hC rfl d_Mo_man_81 h
    rw [if_neg hs15_2] at h
    by_cases hs15_3 : x2 = 3
    · rw [if_pos hs15_3] at h
      refine g_table (pc := 15) hC (tgt := 82) d_Mo_man_15 rfl (by rw [hs15_3]; decide) ?_
      refine g_aload_n (pc := 82) hC (i := 0) (x := (V.2.2.1 0 0)) rfl rfl d_Mo_man_82 ?_
      refine g_getA (pc := 83) hC fo_Mo_137 (ob_Mo hV) rfl d_Mo_man_83 ?_
      refine g_bipush (pc := 86) hC kb_26 d_Mo_man_86 ?_
      refine g_iload_n (pc := 88) hC (i := 1) (x := x1) rfl rfl d_Mo_man_88 ?_
      refine g_iadd (pc := 89) hC d_Mo_man_89 ?_
      refine g_iald (pc := 90) hC (ar_Mo_57 hV) d_Mo_man_90 h (fun h => ?_)
      exact g_iW (pc := 91) hC rfl d_Mo_man_91 h
    rw [if_neg hs15_3] at h
    by_cases hs15_4 : x2 = 4
    · rw [if_pos hs15_4] at h
      refine g_table (pc := 15) hC (tgt := 92) d_Mo_man_15 rfl (by rw [hs15_4]; decide) ?_
      refine g_aload_n (pc := 92) hC (i := 0) (x := (V.2.2.1 0 0)) rfl rfl d_Mo_man_92 ?_
      refine g_iload_n (pc := 93) hC (i := 1) (x := x1) rfl rfl d_Mo_man_93 ?_
      obtain ⟨q94, hq94, h⟩ := Option.bind_eq_some_iff.mp h
      refine g_vi (pc := 94) hC (As := [.int x1]) (st := []) mt_Mo_isAlive lk_Mo_367 rfl (ob_Mo hV) (Nat.le_of_ble_eq_true rfl) ⟨Nat.le_of_ble_eq_true rfl, Nat.le_of_ble_eq_true rfl⟩ rfl d_Mo_man_94 (c_Mo_isAlive hV hq94) ?_
      refine g_if_eq (pc := 97) hC (tgt := 108) (by decide) d_Mo_man_97 h (fun h => ?_) (fun h => ?_)
      · refine g_iconst (pc := 108) hC kc_0 d_Mo_man_108 ?_
        exact g_iW (pc := 109) hC rfl d_Mo_man_109 h
      · refine g_aload_n (pc := 100) hC (i := 0) (x := (V.2.2.1 0 0)) rfl rfl d_Mo_man_100 ?_
        refine g_iload_n (pc := 101) hC (i := 1) (x := x1) rfl rfl d_Mo_man_101 ?_
        obtain ⟨q102, hq102, h⟩ := Option.bind_eq_some_iff.mp h
        refine g_vi (pc := 102) hC (As := [.int x1]) (st := []) mt_Mo_drinksOf lk_Mo_395 rfl (ob_Mo hV) (Nat.le_of_ble_eq_true rfl) ⟨Nat.le_of_ble_eq_true rfl, Nat.le_of_ble_eq_true rfl⟩ rfl d_Mo_man_102 (c_Mo_drinksOf hV hq102) ?_
        refine g_goto (pc := 105) hC (tgt := 109) (by decide) d_Mo_man_105 ?_
        exact g_iW (pc := 109) hC rfl d_Mo_man_109 h
    rw [if_neg hs15_4] at h
    refine g_table (pc := 15) hC (tgt := 110) d_Mo_man_15 rfl ((sw_else [(0 : Int32), (1 : Int32), (2 : Int32), (3 : Int32), (4 : Int32)] (by intro v hv; simp only [List.mem_cons, List.not_mem_nil, or_false] at hv; rcases hv with rfl | rfl | rfl | rfl | rfl <;> assumption) (by decide)).trans (by decide)) ?_
    refine g_iconst (pc := 110) hC kc_m1 d_Mo_man_110 ?_
    exact g_iW (pc := 111) hC rfl d_Mo_man_111 h
  · refine g_iconst (pc := 8) hC kc_m1 d_Mo_man_8 ?_
    exact g_iW (pc := 9) hC rfl d_Mo_man_9 h
theorem c_Mo_man {V : WV} {l : Launch} (hV : IsM V) {x1 : Int32} {x2 : Int32} {S : Mem} {z : Int32 × Mem} (h : f_Mo_man x1 x2 S = some z) : CI V l y_Mo_man bc_Mo_man 3 (some .int) 8 173 [.ref (V.2.2.1 0 0), .int x1, .int x2] S z.1 z.2 :=
  ct_i rfl (IsM.ok hV) (Nat.le_of_ble_eq_true rfl) (fun _ _ hC => w_Mo_man_b0 hV hC x1 x2 S h)
def f_Mo_secret_b0 (x1 : Int32) (x2 : Int32) (S : Mem) : Option (Int32 × Mem) :=
  Option.bind (f_Mo_isSecret x1 S) (fun q2 =>
  if q2 = 0 then
    some ((-1), S)
  else
    Option.bind (f_Mo_copies S) (fun q11 =>
    if x2 = 0 then
      Option.bind (f_Mo_knowersOf x1 q11) (fun q46 =>
      some (q46, q11))
    else if x2 = 1 then
      Option.bind (f_Mo_knownBy x1 q11) (fun q52 =>
      some (q52, q11))
    else if x2 = 2 then
      gIn (4 + x1) 40 (
      some (q11.2.1 0 57 (4 + x1).toNatClampNeg, q11))
    else if x2 = 3 then
      gIn (4 + x1) 40 (
      if (q11.2.1 0 57 (4 + x1).toNatClampNeg) < 0 then
        some (0, q11)
      else
        Option.bind (f_Mo_weightNow x1 q11) (fun q78 =>
        some (q78, q11)))
    else 
      some ((-1), q11)))
def f_Mo_secret (x1 : Int32) (x2 : Int32) (S : Mem) : Option (Int32 × Mem) := f_Mo_secret_b0  x1 x2 S
theorem d_Mo_secret_0 : decode bc_Mo_secret 0 = .ok (.aload_n 0, 1) := by decide +kernel
theorem d_Mo_secret_1 : decode bc_Mo_secret 1 = .ok (.iload_n 1, 1) := by decide +kernel
theorem d_Mo_secret_2 : decode bc_Mo_secret 2 = .ok (.invokevirtual 428, 3) := by decide +kernel
theorem d_Mo_secret_5 : decode bc_Mo_secret 5 = .ok (.ifCond .ne 5, 3) := by decide +kernel
theorem d_Mo_secret_8 : decode bc_Mo_secret 8 = .ok (.iconst (-1), 1) := by decide +kernel
theorem d_Mo_secret_9 : decode bc_Mo_secret 9 = .ok (.ireturn, 1) := by decide +kernel
theorem d_Mo_secret_10 : decode bc_Mo_secret 10 = .ok (.aload_n 0, 1) := by decide +kernel
theorem d_Mo_secret_11 : decode bc_Mo_secret 11 = .ok (.invokevirtual 422, 3) := by decide +kernel
theorem d_Mo_secret_14 : decode bc_Mo_secret 14 = .ok (.iload_n 2, 1) := by decide +kernel
theorem d_Mo_secret_15 : decode bc_Mo_secret 15 = .ok (.tableswitch 71 0 3 #[29, 35, 41, 50], 29) := by decide +kernel
theorem d_Mo_secret_44 : decode bc_Mo_secret 44 = .ok (.aload_n 0, 1) := by decide +kernel
theorem d_Mo_secret_45 : decode bc_Mo_secret 45 = .ok (.iload_n 1, 1) := by decide +kernel
theorem d_Mo_secret_46 : decode bc_Mo_secret 46 = .ok (.invokevirtual 346, 3) := by decide +kernel
theorem d_Mo_secret_49 : decode bc_Mo_secret 49 = .ok (.ireturn, 1) := by decide +kernel
theorem d_Mo_secret_50 : decode bc_Mo_secret 50 = .ok (.aload_n 0, 1) := by decide +kernel
theorem d_Mo_secret_51 : decode bc_Mo_secret 51 = .ok (.iload_n 1, 1) := by decide +kernel
theorem d_Mo_secret_52 : decode bc_Mo_secret 52 = .ok (.invokevirtual 352, 3) := by decide +kernel
theorem d_Mo_secret_55 : decode bc_Mo_secret 55 = .ok (.ireturn, 1) := by decide +kernel
theorem d_Mo_secret_56 : decode bc_Mo_secret 56 = .ok (.aload_n 0, 1) := by decide +kernel
theorem d_Mo_secret_57 : decode bc_Mo_secret 57 = .ok (.getfield 137, 3) := by decide +kernel
theorem d_Mo_secret_60 : decode bc_Mo_secret 60 = .ok (.iconst 4, 1) := by decide +kernel
theorem d_Mo_secret_61 : decode bc_Mo_secret 61 = .ok (.iload_n 1, 1) := by decide +kernel
theorem d_Mo_secret_62 : decode bc_Mo_secret 62 = .ok (.iadd, 1) := by decide +kernel
theorem d_Mo_secret_63 : decode bc_Mo_secret 63 = .ok (.iaload, 1) := by decide +kernel
theorem d_Mo_secret_64 : decode bc_Mo_secret 64 = .ok (.ireturn, 1) := by decide +kernel
theorem d_Mo_secret_65 : decode bc_Mo_secret 65 = .ok (.aload_n 0, 1) := by decide +kernel
theorem d_Mo_secret_66 : decode bc_Mo_secret 66 = .ok (.getfield 137, 3) := by decide +kernel
theorem d_Mo_secret_69 : decode bc_Mo_secret 69 = .ok (.iconst 4, 1) := by decide +kernel
theorem d_Mo_secret_70 : decode bc_Mo_secret 70 = .ok (.iload_n 1, 1) := by decide +kernel
theorem d_Mo_secret_71 : decode bc_Mo_secret 71 = .ok (.iadd, 1) := by decide +kernel
theorem d_Mo_secret_72 : decode bc_Mo_secret 72 = .ok (.iaload, 1) := by decide +kernel
theorem d_Mo_secret_73 : decode bc_Mo_secret 73 = .ok (.ifCond .lt 11, 3) := by decide +kernel
theorem d_Mo_secret_76 : decode bc_Mo_secret 76 = .ok (.aload_n 0, 1) := by decide +kernel
theorem d_Mo_secret_77 : decode bc_Mo_secret 77 = .ok (.iload_n 1, 1) := by decide +kernel
theorem d_Mo_secret_78 : decode bc_Mo_secret 78 = .ok (.invokevirtual 361, 3) := by decide +kernel
theorem d_Mo_secret_81 : decode bc_Mo_secret 81 = .ok (.goto 4, 3) := by decide +kernel
theorem d_Mo_secret_84 : decode bc_Mo_secret 84 = .ok (.iconst 0, 1) := by decide +kernel
theorem d_Mo_secret_85 : decode bc_Mo_secret 85 = .ok (.ireturn, 1) := by decide +kernel
theorem d_Mo_secret_86 : decode bc_Mo_secret 86 = .ok (.iconst (-1), 1) := by decide +kernel
theorem d_Mo_secret_87 : decode bc_Mo_secret 87 = .ok (.ireturn, 1) := by decide +kernel
set_option maxRecDepth 20000 in
theorem w_Mo_secret_b0 {X : CX} {V : WV} (hV : IsM V) {z : Int32 × Mem} (hC : Ck X V bc_Mo_secret 3 "SecretWellsModel" (some .int) 4 87) (x1 : Int32) (x2 : Int32) (S : Mem) (h : f_Mo_secret_b0  x1 x2 S = some z) : G X V 3 (QI X V z.1 z.2) 0 [some (.ref (V.2.2.1 0 0)), some (.int x1), some (.int x2)] [] S := by
  unfold f_Mo_secret_b0 at h
  refine g_aload_n (pc := 0) hC (i := 0) (x := (V.2.2.1 0 0)) rfl rfl d_Mo_secret_0 ?_
  refine g_iload_n (pc := 1) hC (i := 1) (x := x1) rfl rfl d_Mo_secret_1 ?_
  obtain ⟨q2, hq2, h⟩ := Option.bind_eq_some_iff.mp h
  refine g_vi (pc := 2) hC (As := [.int x1]) (st := []) mt_Mo_isSecret lk_Mo_428 rfl (ob_Mo hV) (Nat.le_of_ble_eq_true rfl) ⟨Nat.le_of_ble_eq_true rfl, Nat.le_of_ble_eq_true rfl⟩ rfl d_Mo_secret_2 (c_Mo_isSecret hV hq2) ?_
  refine g_if_ne (pc := 5) hC (tgt := 10) (by decide) d_Mo_secret_5 h (fun h => ?_) (fun h => ?_)
  · refine g_aload_n (pc := 10) hC (i := 0) (x := (V.2.2.1 0 0)) rfl rfl d_Mo_secret_10 ?_
    obtain ⟨q11, hq11, h⟩ := Option.bind_eq_some_iff.mp h
    refine g_vv (pc := 11) hC (As := []) (st := []) mt_Mo_copies lk_Mo_422 rfl (ob_Mo hV) (Nat.le_of_ble_eq_true rfl) ⟨Nat.le_of_ble_eq_true rfl, Nat.le_of_ble_eq_true rfl⟩ rfl d_Mo_secret_11 (c_Mo_copies hV hq11) ?_
    refine g_iload_n (pc := 14) hC (i := 2) (x := x2) rfl rfl d_Mo_secret_14 ?_
    by_cases hs15_0 : x2 = 0
    · rw [if_pos hs15_0] at h
      refine g_table (pc := 15) hC (tgt := 44) d_Mo_secret_15 rfl (by rw [hs15_0]; decide) ?_
      refine g_aload_n (pc := 44) hC (i := 0) (x := (V.2.2.1 0 0)) rfl rfl d_Mo_secret_44 ?_
      refine g_iload_n (pc := 45) hC (i := 1) (x := x1) rfl rfl d_Mo_secret_45 ?_
      obtain ⟨q46, hq46, h⟩ := Option.bind_eq_some_iff.mp h
      refine g_vi (pc := 46) hC (As := [.int x1]) (st := []) mt_Mo_knowersOf lk_Mo_346 rfl (ob_Mo hV) (Nat.le_of_ble_eq_true rfl) ⟨Nat.le_of_ble_eq_true rfl, Nat.le_of_ble_eq_true rfl⟩ rfl d_Mo_secret_46 (c_Mo_knowersOf hV hq46) ?_
      exact g_iW (pc := 49) hC rfl d_Mo_secret_49 h
    rw [if_neg hs15_0] at h
    by_cases hs15_1 : x2 = 1
    · rw [if_pos hs15_1] at h
      refine g_table (pc := 15) hC (tgt := 50) d_Mo_secret_15 rfl (by rw [hs15_1]; decide) ?_
      refine g_aload_n (pc := 50) hC (i := 0) (x := (V.2.2.1 0 0)) rfl rfl d_Mo_secret_50 ?_
      refine g_iload_n (pc := 51) hC (i := 1) (x := x1) rfl rfl d_Mo_secret_51 ?_
      obtain ⟨q52, hq52, h⟩ := Option.bind_eq_some_iff.mp h
      refine g_vi (pc := 52) hC (As := [.int x1]) (st := []) mt_Mo_knownBy lk_Mo_352 rfl (ob_Mo hV) (Nat.le_of_ble_eq_true rfl) ⟨Nat.le_of_ble_eq_true rfl, Nat.le_of_ble_eq_true rfl⟩ rfl d_Mo_secret_52 (c_Mo_knownBy hV hq52) ?_
      exact g_iW (pc := 55) hC rfl d_Mo_secret_55 h
    rw [if_neg hs15_1] at h
    by_cases hs15_2 : x2 = 2
    · rw [if_pos hs15_2] at h
      refine g_table (pc := 15) hC (tgt := 56) d_Mo_secret_15 rfl (by rw [hs15_2]; decide) ?_
      refine g_aload_n (pc := 56) hC (i := 0) (x := (V.2.2.1 0 0)) rfl rfl d_Mo_secret_56 ?_
      refine g_getA (pc := 57) hC fo_Mo_137 (ob_Mo hV) rfl d_Mo_secret_57 ?_
      refine g_iconst (pc := 60) hC kc_4 d_Mo_secret_60 ?_
      refine g_iload_n (pc := 61) hC (i := 1) (x := x1) rfl rfl d_Mo_secret_61 ?_
      refine g_iadd (pc := 62) hC d_Mo_secret_62 ?_
      refine g_iald (pc := 63) hC (ar_Mo_57 hV) d_Mo_secret_63 h (fun h => ?_)
      exact g_iW (pc := 64) hC rfl d_Mo_secret_64 h
    rw [if_neg hs15_2] at h
    by_cases hs15_3 : x2 = 3
    · rw [if_pos hs15_3] at h
      refine g_table (pc := 15) hC (tgt := 65) d_Mo_secret_15 rfl (by rw [hs15_3]; decide) ?_
      refine g_aload_n (pc := 65) hC (i := 0) (x := (V.2.2.1 0 0)) rfl rfl d_Mo_secret_65 ?_
      refine g_getA (pc := 66) hC fo_Mo_137 (ob_Mo hV) rfl d_Mo_secret_66 ?_
      refine g_iconst (pc := 69) hC kc_4 d_Mo_secret_69 ?_
      refine g_iload_n (pc := 70) hC (i := 1) (x := x1) rfl rfl d_Mo_secret_70 ?_
      refine g_iadd (pc := 71) hC d_Mo_secret_71 ?_
      refine g_iald (pc := 72) hC (ar_Mo_57 hV) d_Mo_secret_72 h (fun h => ?_)
      refine g_if_lt (pc := 73) hC (tgt := 84) (by decide) d_Mo_secret_73 h (fun h => ?_) (fun h => ?_)
      · refine g_iconst (pc := 84) hC kc_0 d_Mo_secret_84 ?_
        exact g_iW (pc := 85) hC rfl d_Mo_secret_85 h
      · refine g_aload_n (pc := 76) hC (i := 0) (x := (V.2.2.1 0 0)) rfl rfl d_Mo_secret_76 ?_
        refine g_iload_n (pc := 77) hC (i := 1) (x := x1) rfl rfl d_Mo_secret_77 ?_
        obtain ⟨q78, hq78, h⟩ := Option.bind_eq_some_iff.mp h
        refine g_vi (pc := 78) hC (As := [.int x1]) (st := []) mt_Mo_weightNow lk_Mo_361 rfl (ob_Mo hV) (Nat.le_of_ble_eq_true rfl) ⟨Nat.le_of_ble_eq_true rfl, Nat.le_of_ble_eq_true rfl⟩ rfl d_Mo_secret_78 (c_Mo_weightNow hV hq78) ?_
        refine g_goto (pc := 81) hC (tgt := 85) (by decide) d_Mo_secret_81 ?_
        exact g_iW (pc := 85) hC rfl d_Mo_secret_85 h
    rw [if_neg hs15_3] at h
    refine g_table (pc := 15) hC (tgt := 86) d_Mo_secret_15 rfl ((sw_else [(0 : Int32), (1 : Int32), (2 : Int32), (3 : Int32)] (by intro v hv; simp only [List.mem_cons, List.not_mem_nil, or_false] at hv; rcases hv with rfl | rfl | rfl | rfl <;> assumption) (by decide)).trans (by decide)) ?_
    refine g_iconst (pc := 86) hC kc_m1 d_Mo_secret_86 ?_
    exact g_iW (pc := 87) hC rfl d_Mo_secret_87 h
  · refine g_iconst (pc := 8) hC kc_m1 d_Mo_secret_8 ?_
    exact g_iW (pc := 9) hC rfl d_Mo_secret_9 h
theorem c_Mo_secret {V : WV} {l : Launch} (hV : IsM V) {x1 : Int32} {x2 : Int32} {S : Mem} {z : Int32 × Mem} (h : f_Mo_secret x1 x2 S = some z) : CI V l y_Mo_secret bc_Mo_secret 3 (some .int) 4 87 [.ref (V.2.2.1 0 0), .int x1, .int x2] S z.1 z.2 :=
  ct_i rfl (IsM.ok hV) (Nat.le_of_ble_eq_true rfl) (fun _ _ hC => w_Mo_secret_b0 hV hC x1 x2 S h)
def f_Mo_tells_b0 (x1 : Int32) (x2 : Int32) (S : Mem) : Option (Int32 × Mem) :=
  gIn (S.1 0 18) 2 (
  Option.bind (f_Mo_in x1 0 ((S.2.1 0 34 (S.1 0 18).toNatClampNeg) - 1)) (fun q13 =>
  if q13 = 0 then
    some ((-1), S)
  else
    Option.bind (f_Mo_isSecret x2 S) (fun q21 =>
    if q21 = 0 then
      some ((-1), S)
    else
      Option.bind (f_Mo_copies S) (fun q30 =>
      gIn ((12 * (q30.1 0 18)) + x1) 24 (
      Option.bind (f_Mo_isAlive (q30.2.1 0 35 ((12 * (q30.1 0 18)) + x1).toNatClampNeg) q30) (fun q48 =>
      if q48 = 0 then
        some ((-2), q30)
      else
        gIn ((12 * (q30.1 0 18)) + x1) 24 (
        Option.bind (f_Mo_isAlive (q30.2.1 0 36 ((12 * (q30.1 0 18)) + x1).toNatClampNeg) q30) (fun q69 =>
        if q69 = 0 then
          some ((-2), q30)
        else
          Option.bind (f_Mo_tellsOf x1 x2 q30) (fun q81 =>
          some (q81.1, q81.2))))))))))
def f_Mo_tells (x1 : Int32) (x2 : Int32) (S : Mem) : Option (Int32 × Mem) := f_Mo_tells_b0  x1 x2 S
theorem d_Mo_tells_0 : decode bc_Mo_tells 0 = .ok (.iload_n 1, 1) := by decide +kernel
theorem d_Mo_tells_1 : decode bc_Mo_tells 1 = .ok (.iconst 0, 1) := by decide +kernel
theorem d_Mo_tells_2 : decode bc_Mo_tells 2 = .ok (.aload_n 0, 1) := by decide +kernel
theorem d_Mo_tells_3 : decode bc_Mo_tells 3 = .ok (.getfield 80, 3) := by decide +kernel
theorem d_Mo_tells_6 : decode bc_Mo_tells 6 = .ok (.aload_n 0, 1) := by decide +kernel
theorem d_Mo_tells_7 : decode bc_Mo_tells 7 = .ok (.getfield 245, 3) := by decide +kernel
theorem d_Mo_tells_10 : decode bc_Mo_tells 10 = .ok (.iaload, 1) := by decide +kernel
theorem d_Mo_tells_11 : decode bc_Mo_tells 11 = .ok (.iconst 1, 1) := by decide +kernel
theorem d_Mo_tells_12 : decode bc_Mo_tells 12 = .ok (.isub, 1) := by decide +kernel
theorem d_Mo_tells_13 : decode bc_Mo_tells 13 = .ok (.invokestatic 332, 3) := by decide +kernel
theorem d_Mo_tells_16 : decode bc_Mo_tells 16 = .ok (.ifCond .eq 11, 3) := by decide +kernel
theorem d_Mo_tells_19 : decode bc_Mo_tells 19 = .ok (.aload_n 0, 1) := by decide +kernel
theorem d_Mo_tells_20 : decode bc_Mo_tells 20 = .ok (.iload_n 2, 1) := by decide +kernel
theorem d_Mo_tells_21 : decode bc_Mo_tells 21 = .ok (.invokevirtual 428, 3) := by decide +kernel
theorem d_Mo_tells_24 : decode bc_Mo_tells 24 = .ok (.ifCond .ne 5, 3) := by decide +kernel
theorem d_Mo_tells_27 : decode bc_Mo_tells 27 = .ok (.iconst (-1), 1) := by decide +kernel
theorem d_Mo_tells_28 : decode bc_Mo_tells 28 = .ok (.ireturn, 1) := by decide +kernel
theorem d_Mo_tells_29 : decode bc_Mo_tells 29 = .ok (.aload_n 0, 1) := by decide +kernel
theorem d_Mo_tells_30 : decode bc_Mo_tells 30 = .ok (.invokevirtual 422, 3) := by decide +kernel
theorem d_Mo_tells_33 : decode bc_Mo_tells 33 = .ok (.aload_n 0, 1) := by decide +kernel
theorem d_Mo_tells_34 : decode bc_Mo_tells 34 = .ok (.aload_n 0, 1) := by decide +kernel
theorem d_Mo_tells_35 : decode bc_Mo_tells 35 = .ok (.getfield 83, 3) := by decide +kernel
theorem d_Mo_tells_38 : decode bc_Mo_tells 38 = .ok (.bipush 12, 2) := by decide +kernel
theorem d_Mo_tells_40 : decode bc_Mo_tells 40 = .ok (.aload_n 0, 1) := by decide +kernel
theorem d_Mo_tells_41 : decode bc_Mo_tells 41 = .ok (.getfield 245, 3) := by decide +kernel
theorem d_Mo_tells_44 : decode bc_Mo_tells 44 = .ok (.imul, 1) := by decide +kernel
theorem d_Mo_tells_45 : decode bc_Mo_tells 45 = .ok (.iload_n 1, 1) := by decide +kernel
theorem d_Mo_tells_46 : decode bc_Mo_tells 46 = .ok (.iadd, 1) := by decide +kernel
theorem d_Mo_tells_47 : decode bc_Mo_tells 47 = .ok (.iaload, 1) := by decide +kernel
theorem d_Mo_tells_48 : decode bc_Mo_tells 48 = .ok (.invokevirtual 367, 3) := by decide +kernel
theorem d_Mo_tells_51 : decode bc_Mo_tells 51 = .ok (.ifCond .eq 24, 3) := by decide +kernel
theorem d_Mo_tells_54 : decode bc_Mo_tells 54 = .ok (.aload_n 0, 1) := by decide +kernel
theorem d_Mo_tells_55 : decode bc_Mo_tells 55 = .ok (.aload_n 0, 1) := by decide +kernel
theorem d_Mo_tells_56 : decode bc_Mo_tells 56 = .ok (.getfield 86, 3) := by decide +kernel
theorem d_Mo_tells_59 : decode bc_Mo_tells 59 = .ok (.bipush 12, 2) := by decide +kernel
theorem d_Mo_tells_61 : decode bc_Mo_tells 61 = .ok (.aload_n 0, 1) := by decide +kernel
theorem d_Mo_tells_62 : decode bc_Mo_tells 62 = .ok (.getfield 245, 3) := by decide +kernel
theorem d_Mo_tells_65 : decode bc_Mo_tells 65 = .ok (.imul, 1) := by decide +kernel
theorem d_Mo_tells_66 : decode bc_Mo_tells 66 = .ok (.iload_n 1, 1) := by decide +kernel
theorem d_Mo_tells_67 : decode bc_Mo_tells 67 = .ok (.iadd, 1) := by decide +kernel
theorem d_Mo_tells_68 : decode bc_Mo_tells 68 = .ok (.iaload, 1) := by decide +kernel
theorem d_Mo_tells_69 : decode bc_Mo_tells 69 = .ok (.invokevirtual 367, 3) := by decide +kernel
theorem d_Mo_tells_72 : decode bc_Mo_tells 72 = .ok (.ifCond .ne 6, 3) := by decide +kernel
theorem d_Mo_tells_75 : decode bc_Mo_tells 75 = .ok (.bipush (-2), 2) := by decide +kernel
theorem d_Mo_tells_77 : decode bc_Mo_tells 77 = .ok (.ireturn, 1) := by decide +kernel
theorem d_Mo_tells_78 : decode bc_Mo_tells 78 = .ok (.aload_n 0, 1) := by decide +kernel
theorem d_Mo_tells_79 : decode bc_Mo_tells 79 = .ok (.iload_n 1, 1) := by decide +kernel
theorem d_Mo_tells_80 : decode bc_Mo_tells 80 = .ok (.iload_n 2, 1) := by decide +kernel
theorem d_Mo_tells_81 : decode bc_Mo_tells 81 = .ok (.invokevirtual 401, 3) := by decide +kernel
theorem d_Mo_tells_84 : decode bc_Mo_tells 84 = .ok (.ireturn, 1) := by decide +kernel
set_option maxRecDepth 20000 in
theorem w_Mo_tells_b0 {X : CX} {V : WV} (hV : IsM V) {z : Int32 × Mem} (hC : Ck X V bc_Mo_tells 3 "SecretWellsModel" (some .int) 8 174) (x1 : Int32) (x2 : Int32) (S : Mem) (h : f_Mo_tells_b0  x1 x2 S = some z) : G X V 3 (QI X V z.1 z.2) 0 [some (.ref (V.2.2.1 0 0)), some (.int x1), some (.int x2)] [] S := by
  unfold f_Mo_tells_b0 at h
  refine g_iload_n (pc := 0) hC (i := 1) (x := x1) rfl rfl d_Mo_tells_0 ?_
  refine g_iconst (pc := 1) hC kc_0 d_Mo_tells_1 ?_
  refine g_aload_n (pc := 2) hC (i := 0) (x := (V.2.2.1 0 0)) rfl rfl d_Mo_tells_2 ?_
  refine g_getA (pc := 3) hC fo_Mo_80 (ob_Mo hV) rfl d_Mo_tells_3 ?_
  refine g_aload_n (pc := 6) hC (i := 0) (x := (V.2.2.1 0 0)) rfl rfl d_Mo_tells_6 ?_
  refine g_getI (pc := 7) hC fo_Mo_245 (ob_Mo hV) rfl d_Mo_tells_7 ?_
  refine g_iald (pc := 10) hC (ar_Mo_34 hV) d_Mo_tells_10 h (fun h => ?_)
  refine g_iconst (pc := 11) hC kc_1 d_Mo_tells_11 ?_
  refine g_isub (pc := 12) hC d_Mo_tells_12 ?_
  obtain ⟨q13, hq13, h⟩ := Option.bind_eq_some_iff.mp h
  refine g_si (pc := 13) hC (As := [.int x1, .int 0, .int ((S.2.1 0 34 (S.1 0 18).toNatClampNeg) - 1)]) (st := []) mt_Mo_in lk_Mo_332 (Nat.le_of_ble_eq_true rfl) ⟨Nat.le_of_ble_eq_true rfl, Nat.le_of_ble_eq_true rfl⟩ rfl d_Mo_tells_13 (c_Mo_in (IsM.ok hV) hq13) ?_
  refine g_if_eq (pc := 16) hC (tgt := 27) (by decide) d_Mo_tells_16 h (fun h => ?_) (fun h => ?_)
  · refine g_iconst (pc := 27) hC kc_m1 d_Mo_tells_27 ?_
    exact g_iW (pc := 28) hC rfl d_Mo_tells_28 h
  · refine g_aload_n (pc := 19) hC (i := 0) (x := (V.2.2.1 0 0)) rfl rfl d_Mo_tells_19 ?_
    refine g_iload_n (pc := 20) hC (i := 2) (x := x2) rfl rfl d_Mo_tells_20 ?_
    obtain ⟨q21, hq21, h⟩ := Option.bind_eq_some_iff.mp h
    refine g_vi (pc := 21) hC (As := [.int x2]) (st := []) mt_Mo_isSecret lk_Mo_428 rfl (ob_Mo hV) (Nat.le_of_ble_eq_true rfl) ⟨Nat.le_of_ble_eq_true rfl, Nat.le_of_ble_eq_true rfl⟩ rfl d_Mo_tells_21 (c_Mo_isSecret hV hq21) ?_
    refine g_if_ne (pc := 24) hC (tgt := 29) (by decide) d_Mo_tells_24 h (fun h => ?_) (fun h => ?_)
    · refine g_aload_n (pc := 29) hC (i := 0) (x := (V.2.2.1 0 0)) rfl rfl d_Mo_tells_29 ?_
      obtain ⟨q30, hq30, h⟩ := Option.bind_eq_some_iff.mp h
      refine g_vv (pc := 30) hC (As := []) (st := []) mt_Mo_copies lk_Mo_422 rfl (ob_Mo hV) (Nat.le_of_ble_eq_true rfl) ⟨Nat.le_of_ble_eq_true rfl, Nat.le_of_ble_eq_true rfl⟩ rfl d_Mo_tells_30 (c_Mo_copies hV hq30) ?_
      refine g_aload_n (pc := 33) hC (i := 0) (x := (V.2.2.1 0 0)) rfl rfl d_Mo_tells_33 ?_
      refine g_aload_n (pc := 34) hC (i := 0) (x := (V.2.2.1 0 0)) rfl rfl d_Mo_tells_34 ?_
      refine g_getA (pc := 35) hC fo_Mo_83 (ob_Mo hV) rfl d_Mo_tells_35 ?_
      refine g_bipush (pc := 38) hC kb_12 d_Mo_tells_38 ?_
      refine g_aload_n (pc := 40) hC (i := 0) (x := (V.2.2.1 0 0)) rfl rfl d_Mo_tells_40 ?_
      refine g_getI (pc := 41) hC fo_Mo_245 (ob_Mo hV) rfl d_Mo_tells_41 ?_
      refine g_imul (pc := 44) hC d_Mo_tells_44 ?_
      refine g_iload_n (pc := 45) hC (i := 1) (x := x1) rfl rfl d_Mo_tells_45 ?_
      refine g_iadd (pc := 46) hC d_Mo_tells_46 ?_
      refine g_iald (pc := 47) hC (ar_Mo_35 hV) d_Mo_tells_47 h (fun h => ?_)
      obtain ⟨q48, hq48, h⟩ := Option.bind_eq_some_iff.mp h
      refine g_vi (pc := 48) hC (As := [.int (q30.2.1 0 35 ((12 * (q30.1 0 18)) + x1).toNatClampNeg)]) (st := []) mt_Mo_isAlive lk_Mo_367 rfl (ob_Mo hV) (Nat.le_of_ble_eq_true rfl) ⟨Nat.le_of_ble_eq_true rfl, Nat.le_of_ble_eq_true rfl⟩ rfl d_Mo_tells_48 (c_Mo_isAlive hV hq48) ?_
      refine g_if_eq (pc := 51) hC (tgt := 75) (by decide) d_Mo_tells_51 h (fun h => ?_) (fun h => ?_)
      · refine g_bipush (pc := 75) hC kb_m2 d_Mo_tells_75 ?_
        exact g_iW (pc := 77) hC rfl d_Mo_tells_77 h
      · refine g_aload_n (pc := 54) hC (i := 0) (x := (V.2.2.1 0 0)) rfl rfl d_Mo_tells_54 ?_
        refine g_aload_n (pc := 55) hC (i := 0) (x := (V.2.2.1 0 0)) rfl rfl d_Mo_tells_55 ?_
        refine g_getA (pc := 56) hC fo_Mo_86 (ob_Mo hV) rfl d_Mo_tells_56 ?_
        refine g_bipush (pc := 59) hC kb_12 d_Mo_tells_59 ?_
        refine g_aload_n (pc := 61) hC (i := 0) (x := (V.2.2.1 0 0)) rfl rfl d_Mo_tells_61 ?_
        refine g_getI (pc := 62) hC fo_Mo_245 (ob_Mo hV) rfl d_Mo_tells_62 ?_
        refine g_imul (pc := 65) hC d_Mo_tells_65 ?_
        refine g_iload_n (pc := 66) hC (i := 1) (x := x1) rfl rfl d_Mo_tells_66 ?_
        refine g_iadd (pc := 67) hC d_Mo_tells_67 ?_
        refine g_iald (pc := 68) hC (ar_Mo_36 hV) d_Mo_tells_68 h (fun h => ?_)
        obtain ⟨q69, hq69, h⟩ := Option.bind_eq_some_iff.mp h
        refine g_vi (pc := 69) hC (As := [.int (q30.2.1 0 36 ((12 * (q30.1 0 18)) + x1).toNatClampNeg)]) (st := []) mt_Mo_isAlive lk_Mo_367 rfl (ob_Mo hV) (Nat.le_of_ble_eq_true rfl) ⟨Nat.le_of_ble_eq_true rfl, Nat.le_of_ble_eq_true rfl⟩ rfl d_Mo_tells_69 (c_Mo_isAlive hV hq69) ?_
        refine g_if_ne (pc := 72) hC (tgt := 78) (by decide) d_Mo_tells_72 h (fun h => ?_) (fun h => ?_)
        · refine g_aload_n (pc := 78) hC (i := 0) (x := (V.2.2.1 0 0)) rfl rfl d_Mo_tells_78 ?_
          refine g_iload_n (pc := 79) hC (i := 1) (x := x1) rfl rfl d_Mo_tells_79 ?_
          refine g_iload_n (pc := 80) hC (i := 2) (x := x2) rfl rfl d_Mo_tells_80 ?_
          obtain ⟨q81, hq81, h⟩ := Option.bind_eq_some_iff.mp h
          refine g_vi (pc := 81) hC (As := [.int x1, .int x2]) (st := []) mt_Mo_tellsOf lk_Mo_401 rfl (ob_Mo hV) (Nat.le_of_ble_eq_true rfl) ⟨Nat.le_of_ble_eq_true rfl, Nat.le_of_ble_eq_true rfl⟩ rfl d_Mo_tells_81 (c_Mo_tellsOf hV hq81) ?_
          exact g_iW (pc := 84) hC rfl d_Mo_tells_84 h
        · refine g_bipush (pc := 75) hC kb_m2 d_Mo_tells_75 ?_
          exact g_iW (pc := 77) hC rfl d_Mo_tells_77 h
    · refine g_iconst (pc := 27) hC kc_m1 d_Mo_tells_27 ?_
      exact g_iW (pc := 28) hC rfl d_Mo_tells_28 h
theorem c_Mo_tells {V : WV} {l : Launch} (hV : IsM V) {x1 : Int32} {x2 : Int32} {S : Mem} {z : Int32 × Mem} (h : f_Mo_tells x1 x2 S = some z) : CI V l y_Mo_tells bc_Mo_tells 3 (some .int) 8 174 [.ref (V.2.2.1 0 0), .int x1, .int x2] S z.1 z.2 :=
  ct_i rfl (IsM.ok hV) (Nat.le_of_ble_eq_true rfl) (fun _ _ hC => w_Mo_tells_b0 hV hC x1 x2 S h)
def f_Mo_keeps_b51 (k51 : Int32 → Mem → Option (Mem)) (x1 : Int32) (S : Mem) : Option (Mem) :=
  if 40 ≤ x1 then
    letS (pI S 0 60 ((S.1 0 60) + 1)) (fun S90 =>
    Option.bind (f_Mo_keepsRow S90) (fun q94 =>
    some q94))
  else
    gIn x1 40 (
    gIn ((40 * (S.1 0 60)) + x1) 1600 (letS (sA S 0 61 ((40 * (S.1 0 60)) + x1) (S.2.1 0 56 x1.toNatClampNeg)) (fun S76 =>
    k51 (x1 + 1) S76)))
def f_Mo_keeps_l51 : Nat → Int32 → Mem → Option (Mem)
  | 0 => fun _ _ => none
  | n + 1 => f_Mo_keeps_b51  (f_Mo_keeps_l51  n)
def f_Mo_keeps_b11 (k11 : Int32 → Mem → Option (Mem)) (x1 : Int32) (S : Mem) : Option (Mem) :=
  if 1560 ≤ x1 then
    letS (pI S 0 60 ((S.1 0 60) - 1)) (fun S46 =>
    f_Mo_keeps_l51 5000 0 S46)
  else
    gIn (x1 + 40) 1600 (
    gIn x1 1600 (letS (sA S 0 61 x1 (S.2.1 0 61 (x1 + 40).toNatClampNeg)) (fun S32 =>
    k11 (x1 + 1) S32)))
def f_Mo_keeps_l11 : Nat → Int32 → Mem → Option (Mem)
  | 0 => fun _ _ => none
  | n + 1 => f_Mo_keeps_b11  (f_Mo_keeps_l11  n)
def f_Mo_keeps_b0 (S : Mem) : Option (Mem) :=
  if (S.1 0 60) = 40 then
    f_Mo_keeps_l11 5000 0 S
  else
    f_Mo_keeps_l51 5000 0 S
def f_Mo_keeps (S : Mem) : Option (Mem) := f_Mo_keeps_b0  S
theorem d_Mo_keeps_0 : decode bc_Mo_keeps 0 = .ok (.aload_n 0, 1) := by decide +kernel
theorem d_Mo_keeps_1 : decode bc_Mo_keeps 1 = .ok (.getfield 263, 3) := by decide +kernel
theorem d_Mo_keeps_4 : decode bc_Mo_keeps 4 = .ok (.bipush 40, 2) := by decide +kernel
theorem d_Mo_keeps_6 : decode bc_Mo_keeps 6 = .ok (.if_icmp .ne 43, 3) := by decide +kernel
theorem d_Mo_keeps_9 : decode bc_Mo_keeps 9 = .ok (.iconst 0, 1) := by decide +kernel
theorem d_Mo_keeps_10 : decode bc_Mo_keeps 10 = .ok (.istore_n 1, 1) := by decide +kernel
theorem d_Mo_keeps_11 : decode bc_Mo_keeps 11 = .ok (.iload_n 1, 1) := by decide +kernel
theorem d_Mo_keeps_12 : decode bc_Mo_keeps 12 = .ok (.sipush 1560, 3) := by decide +kernel
theorem d_Mo_keeps_15 : decode bc_Mo_keeps 15 = .ok (.if_icmp .ge 24, 3) := by decide +kernel
theorem d_Mo_keeps_18 : decode bc_Mo_keeps 18 = .ok (.aload_n 0, 1) := by decide +kernel
theorem d_Mo_keeps_19 : decode bc_Mo_keeps 19 = .ok (.getfield 143, 3) := by decide +kernel
theorem d_Mo_keeps_22 : decode bc_Mo_keeps 22 = .ok (.iload_n 1, 1) := by decide +kernel
theorem d_Mo_keeps_23 : decode bc_Mo_keeps 23 = .ok (.aload_n 0, 1) := by decide +kernel
theorem d_Mo_keeps_24 : decode bc_Mo_keeps 24 = .ok (.getfield 143, 3) := by decide +kernel
theorem d_Mo_keeps_27 : decode bc_Mo_keeps 27 = .ok (.iload_n 1, 1) := by decide +kernel
theorem d_Mo_keeps_28 : decode bc_Mo_keeps 28 = .ok (.bipush 40, 2) := by decide +kernel
theorem d_Mo_keeps_30 : decode bc_Mo_keeps 30 = .ok (.iadd, 1) := by decide +kernel
theorem d_Mo_keeps_31 : decode bc_Mo_keeps 31 = .ok (.iaload, 1) := by decide +kernel
theorem d_Mo_keeps_32 : decode bc_Mo_keeps 32 = .ok (.iastore, 1) := by decide +kernel
theorem d_Mo_keeps_33 : decode bc_Mo_keeps 33 = .ok (.iinc 1 1, 3) := by decide +kernel
theorem d_Mo_keeps_36 : decode bc_Mo_keeps 36 = .ok (.goto (-25), 3) := by decide +kernel
theorem d_Mo_keeps_39 : decode bc_Mo_keeps 39 = .ok (.aload_n 0, 1) := by decide +kernel
theorem d_Mo_keeps_40 : decode bc_Mo_keeps 40 = .ok (.dup, 1) := by decide +kernel
theorem d_Mo_keeps_41 : decode bc_Mo_keeps 41 = .ok (.getfield 263, 3) := by decide +kernel
theorem d_Mo_keeps_44 : decode bc_Mo_keeps 44 = .ok (.iconst 1, 1) := by decide +kernel
theorem d_Mo_keeps_45 : decode bc_Mo_keeps 45 = .ok (.isub, 1) := by decide +kernel
theorem d_Mo_keeps_46 : decode bc_Mo_keeps 46 = .ok (.putfield 263, 3) := by decide +kernel
theorem d_Mo_keeps_49 : decode bc_Mo_keeps 49 = .ok (.iconst 0, 1) := by decide +kernel
theorem d_Mo_keeps_50 : decode bc_Mo_keeps 50 = .ok (.istore_n 1, 1) := by decide +kernel
theorem d_Mo_keeps_51 : decode bc_Mo_keeps 51 = .ok (.iload_n 1, 1) := by decide +kernel
theorem d_Mo_keeps_52 : decode bc_Mo_keeps 52 = .ok (.bipush 40, 2) := by decide +kernel
theorem d_Mo_keeps_54 : decode bc_Mo_keeps 54 = .ok (.if_icmp .ge 29, 3) := by decide +kernel
theorem d_Mo_keeps_57 : decode bc_Mo_keeps 57 = .ok (.aload_n 0, 1) := by decide +kernel
theorem d_Mo_keeps_58 : decode bc_Mo_keeps 58 = .ok (.getfield 143, 3) := by decide +kernel
theorem d_Mo_keeps_61 : decode bc_Mo_keeps 61 = .ok (.bipush 40, 2) := by decide +kernel
theorem d_Mo_keeps_63 : decode bc_Mo_keeps 63 = .ok (.aload_n 0, 1) := by decide +kernel
theorem d_Mo_keeps_64 : decode bc_Mo_keeps 64 = .ok (.getfield 263, 3) := by decide +kernel
theorem d_Mo_keeps_67 : decode bc_Mo_keeps 67 = .ok (.imul, 1) := by decide +kernel
theorem d_Mo_keeps_68 : decode bc_Mo_keeps 68 = .ok (.iload_n 1, 1) := by decide +kernel
theorem d_Mo_keeps_69 : decode bc_Mo_keeps 69 = .ok (.iadd, 1) := by decide +kernel
theorem d_Mo_keeps_70 : decode bc_Mo_keeps 70 = .ok (.aload_n 0, 1) := by decide +kernel
theorem d_Mo_keeps_71 : decode bc_Mo_keeps 71 = .ok (.getfield 134, 3) := by decide +kernel
theorem d_Mo_keeps_74 : decode bc_Mo_keeps 74 = .ok (.iload_n 1, 1) := by decide +kernel
theorem d_Mo_keeps_75 : decode bc_Mo_keeps 75 = .ok (.iaload, 1) := by decide +kernel
theorem d_Mo_keeps_76 : decode bc_Mo_keeps 76 = .ok (.iastore, 1) := by decide +kernel
theorem d_Mo_keeps_77 : decode bc_Mo_keeps 77 = .ok (.iinc 1 1, 3) := by decide +kernel
theorem d_Mo_keeps_80 : decode bc_Mo_keeps 80 = .ok (.goto (-29), 3) := by decide +kernel
theorem d_Mo_keeps_83 : decode bc_Mo_keeps 83 = .ok (.aload_n 0, 1) := by decide +kernel
theorem d_Mo_keeps_84 : decode bc_Mo_keeps 84 = .ok (.dup, 1) := by decide +kernel
theorem d_Mo_keeps_85 : decode bc_Mo_keeps 85 = .ok (.getfield 263, 3) := by decide +kernel
theorem d_Mo_keeps_88 : decode bc_Mo_keeps 88 = .ok (.iconst 1, 1) := by decide +kernel
theorem d_Mo_keeps_89 : decode bc_Mo_keeps 89 = .ok (.iadd, 1) := by decide +kernel
theorem d_Mo_keeps_90 : decode bc_Mo_keeps 90 = .ok (.putfield 263, 3) := by decide +kernel
theorem d_Mo_keeps_93 : decode bc_Mo_keeps 93 = .ok (.aload_n 0, 1) := by decide +kernel
theorem d_Mo_keeps_94 : decode bc_Mo_keeps 94 = .ok (.invokevirtual 175, 3) := by decide +kernel
theorem d_Mo_keeps_97 : decode bc_Mo_keeps 97 = .ok (.return_, 1) := by decide +kernel
set_option maxRecDepth 20000 in
theorem w_Mo_keeps_b51 {X : CX} {V : WV} (hV : IsM V) {z : Mem} (hC : Ck X V bc_Mo_keeps 2 "SecretWellsModel" none 1 21) (k51 : Int32 → Mem → Option (Mem)) (hk51 : ∀ (x1 : Int32) (S : Mem), k51 x1 S = some z → G X V 2 (QV X V z) 51 [some (.ref (V.2.2.1 0 0)), some (.int x1)] [] S) (x1 : Int32) (S : Mem) (h : f_Mo_keeps_b51  k51 x1 S = some z) : G X V 2 (QV X V z) 51 [some (.ref (V.2.2.1 0 0)), some (.int x1)] [] S := by
  unfold f_Mo_keeps_b51 at h
  refine g_iload_n (pc := 51) hC (i := 1) (x := x1) rfl rfl d_Mo_keeps_51 ?_
  refine g_bipush (pc := 52) hC kb_40 d_Mo_keeps_52 ?_
  refine g_icmp_ge (pc := 54) hC (tgt := 83) (by decide) d_Mo_keeps_54 h (fun h => ?_) (fun h => ?_)
  · refine g_aload_n (pc := 83) hC (i := 0) (x := (V.2.2.1 0 0)) rfl rfl d_Mo_keeps_83 ?_
    refine g_dup (pc := 84) hC rfl d_Mo_keeps_84 ?_
    refine g_getI (pc := 85) hC fo_Mo_263 (ob_Mo hV) rfl d_Mo_keeps_85 ?_
    refine g_iconst (pc := 88) hC kc_1 d_Mo_keeps_88 ?_
    refine g_iadd (pc := 89) hC d_Mo_keeps_89 ?_
    refine g_putI (pc := 90) hC po_Mo_263 (ob_Mo hV) rfl rfl rfl d_Mo_keeps_90 ?_
    refine g_letS h (fun S90 h => ?_)
    refine g_aload_n (pc := 93) hC (i := 0) (x := (V.2.2.1 0 0)) rfl rfl d_Mo_keeps_93 ?_
    obtain ⟨q94, hq94, h⟩ := Option.bind_eq_some_iff.mp h
    refine g_vv (pc := 94) hC (As := []) (st := []) mt_Mo_keepsRow lk_Mo_175 rfl (ob_Mo hV) (Nat.le_of_ble_eq_true rfl) ⟨Nat.le_of_ble_eq_true rfl, Nat.le_of_ble_eq_true rfl⟩ rfl d_Mo_keeps_94 (c_Mo_keepsRow hV hq94) ?_
    exact g_vW (pc := 97) hC d_Mo_keeps_97 h
  · refine g_aload_n (pc := 57) hC (i := 0) (x := (V.2.2.1 0 0)) rfl rfl d_Mo_keeps_57 ?_
    refine g_getA (pc := 58) hC fo_Mo_143 (ob_Mo hV) rfl d_Mo_keeps_58 ?_
    refine g_bipush (pc := 61) hC kb_40 d_Mo_keeps_61 ?_
    refine g_aload_n (pc := 63) hC (i := 0) (x := (V.2.2.1 0 0)) rfl rfl d_Mo_keeps_63 ?_
    refine g_getI (pc := 64) hC fo_Mo_263 (ob_Mo hV) rfl d_Mo_keeps_64 ?_
    refine g_imul (pc := 67) hC d_Mo_keeps_67 ?_
    refine g_iload_n (pc := 68) hC (i := 1) (x := x1) rfl rfl d_Mo_keeps_68 ?_
    refine g_iadd (pc := 69) hC d_Mo_keeps_69 ?_
    refine g_aload_n (pc := 70) hC (i := 0) (x := (V.2.2.1 0 0)) rfl rfl d_Mo_keeps_70 ?_
    refine g_getA (pc := 71) hC fo_Mo_134 (ob_Mo hV) rfl d_Mo_keeps_71 ?_
    refine g_iload_n (pc := 74) hC (i := 1) (x := x1) rfl rfl d_Mo_keeps_74 ?_
    refine g_iald (pc := 75) hC (ar_Mo_56 hV) d_Mo_keeps_75 h (fun h => ?_)
    refine g_iast (pc := 76) hC (ar_Mo_61 hV) d_Mo_keeps_76 h (fun h => ?_)
    refine g_letS h (fun S76 h => ?_)
    refine s_iinc (pc := 77) hC (i := 1) (x := x1) (v := x1 + 1) rfl (by rw [kc_1]) (by decide) d_Mo_keeps_77 (lv2 := [some (.ref (V.2.2.1 0 0)), some (.int (x1 + 1))]) rfl ?_
    refine g_goto (pc := 80) hC (tgt := 51) (by decide) d_Mo_keeps_80 ?_
    exact hk51 (x1 + 1) S76 h
theorem w_Mo_keeps_l51 {X : CX} {V : WV} (hV : IsM V) {z : Mem} (hC : Ck X V bc_Mo_keeps 2 "SecretWellsModel" none 1 21) : ∀ (n : Nat) (x1 : Int32) (S : Mem), f_Mo_keeps_l51  n x1 S = some z → G X V 2 (QV X V z) 51 [some (.ref (V.2.2.1 0 0)), some (.int x1)] [] S := by
  intro n
  induction n with
  | zero =>
    intro x1 S h
    have h : (none : Option (Mem)) = some z := h
    cases h
  | succ n ih =>
    intro x1 S h
    exact w_Mo_keeps_b51 hV hC (f_Mo_keeps_l51  n) ih x1 S h
set_option maxRecDepth 20000 in
theorem w_Mo_keeps_b11 {X : CX} {V : WV} (hV : IsM V) {z : Mem} (hC : Ck X V bc_Mo_keeps 2 "SecretWellsModel" none 1 21) (k11 : Int32 → Mem → Option (Mem)) (hk11 : ∀ (x1 : Int32) (S : Mem), k11 x1 S = some z → G X V 2 (QV X V z) 11 [some (.ref (V.2.2.1 0 0)), some (.int x1)] [] S) (x1 : Int32) (S : Mem) (h : f_Mo_keeps_b11  k11 x1 S = some z) : G X V 2 (QV X V z) 11 [some (.ref (V.2.2.1 0 0)), some (.int x1)] [] S := by
  unfold f_Mo_keeps_b11 at h
  refine g_iload_n (pc := 11) hC (i := 1) (x := x1) rfl rfl d_Mo_keeps_11 ?_
  refine g_sipush (pc := 12) hC ks_1560 d_Mo_keeps_12 ?_
  refine g_icmp_ge (pc := 15) hC (tgt := 39) (by decide) d_Mo_keeps_15 h (fun h => ?_) (fun h => ?_)
  · refine g_aload_n (pc := 39) hC (i := 0) (x := (V.2.2.1 0 0)) rfl rfl d_Mo_keeps_39 ?_
    refine g_dup (pc := 40) hC rfl d_Mo_keeps_40 ?_
    refine g_getI (pc := 41) hC fo_Mo_263 (ob_Mo hV) rfl d_Mo_keeps_41 ?_
    refine g_iconst (pc := 44) hC kc_1 d_Mo_keeps_44 ?_
    refine g_isub (pc := 45) hC d_Mo_keeps_45 ?_
    refine g_putI (pc := 46) hC po_Mo_263 (ob_Mo hV) rfl rfl rfl d_Mo_keeps_46 ?_
    refine g_letS h (fun S46 h => ?_)
    refine g_iconst (pc := 49) hC kc_0 d_Mo_keeps_49 ?_
    refine s_istore_n (pc := 50) hC (i := 1) rfl (by decide) d_Mo_keeps_50 (lv2 := [some (.ref (V.2.2.1 0 0)), some (.int 0)]) rfl ?_
    exact w_Mo_keeps_l51 hV hC 5000 0 S46 h
  · refine g_aload_n (pc := 18) hC (i := 0) (x := (V.2.2.1 0 0)) rfl rfl d_Mo_keeps_18 ?_
    refine g_getA (pc := 19) hC fo_Mo_143 (ob_Mo hV) rfl d_Mo_keeps_19 ?_
    refine g_iload_n (pc := 22) hC (i := 1) (x := x1) rfl rfl d_Mo_keeps_22 ?_
    refine g_aload_n (pc := 23) hC (i := 0) (x := (V.2.2.1 0 0)) rfl rfl d_Mo_keeps_23 ?_
    refine g_getA (pc := 24) hC fo_Mo_143 (ob_Mo hV) rfl d_Mo_keeps_24 ?_
    refine g_iload_n (pc := 27) hC (i := 1) (x := x1) rfl rfl d_Mo_keeps_27 ?_
    refine g_bipush (pc := 28) hC kb_40 d_Mo_keeps_28 ?_
    refine g_iadd (pc := 30) hC d_Mo_keeps_30 ?_
    refine g_iald (pc := 31) hC (ar_Mo_61 hV) d_Mo_keeps_31 h (fun h => ?_)
    refine g_iast (pc := 32) hC (ar_Mo_61 hV) d_Mo_keeps_32 h (fun h => ?_)
    refine g_letS h (fun S32 h => ?_)
    refine s_iinc (pc := 33) hC (i := 1) (x := x1) (v := x1 + 1) rfl (by rw [kc_1]) (by decide) d_Mo_keeps_33 (lv2 := [some (.ref (V.2.2.1 0 0)), some (.int (x1 + 1))]) rfl ?_
    refine g_goto (pc := 36) hC (tgt := 11) (by decide) d_Mo_keeps_36 ?_
    exact hk11 (x1 + 1) S32 h
theorem w_Mo_keeps_l11 {X : CX} {V : WV} (hV : IsM V) {z : Mem} (hC : Ck X V bc_Mo_keeps 2 "SecretWellsModel" none 1 21) : ∀ (n : Nat) (x1 : Int32) (S : Mem), f_Mo_keeps_l11  n x1 S = some z → G X V 2 (QV X V z) 11 [some (.ref (V.2.2.1 0 0)), some (.int x1)] [] S := by
  intro n
  induction n with
  | zero =>
    intro x1 S h
    have h : (none : Option (Mem)) = some z := h
    cases h
  | succ n ih =>
    intro x1 S h
    exact w_Mo_keeps_b11 hV hC (f_Mo_keeps_l11  n) ih x1 S h
set_option maxRecDepth 20000 in
theorem w_Mo_keeps_b0 {X : CX} {V : WV} (hV : IsM V) {z : Mem} (hC : Ck X V bc_Mo_keeps 2 "SecretWellsModel" none 1 21) (S : Mem) (h : f_Mo_keeps_b0  S = some z) : G X V 2 (QV X V z) 0 [some (.ref (V.2.2.1 0 0)), none] [] S := by
  unfold f_Mo_keeps_b0 at h
  refine g_aload_n (pc := 0) hC (i := 0) (x := (V.2.2.1 0 0)) rfl rfl d_Mo_keeps_0 ?_
  refine g_getI (pc := 1) hC fo_Mo_263 (ob_Mo hV) rfl d_Mo_keeps_1 ?_
  refine g_bipush (pc := 4) hC kb_40 d_Mo_keeps_4 ?_
  refine g_icmp_ne (pc := 6) hC (tgt := 49) (by decide) d_Mo_keeps_6 h (fun h => ?_) (fun h => ?_)
  · refine g_iconst (pc := 49) hC kc_0 d_Mo_keeps_49 ?_
    refine s_istore_n (pc := 50) hC (i := 1) rfl (by decide) d_Mo_keeps_50 (lv2 := [some (.ref (V.2.2.1 0 0)), some (.int 0)]) rfl ?_
    exact w_Mo_keeps_l51 hV hC 5000 0 S h
  · refine g_iconst (pc := 9) hC kc_0 d_Mo_keeps_9 ?_
    refine s_istore_n (pc := 10) hC (i := 1) rfl (by decide) d_Mo_keeps_10 (lv2 := [some (.ref (V.2.2.1 0 0)), some (.int 0)]) rfl ?_
    exact w_Mo_keeps_l11 hV hC 5000 0 S h
theorem c_Mo_keeps {V : WV} {l : Launch} (hV : IsM V) {S : Mem} {z : Mem} (h : f_Mo_keeps S = some z) : CV V l y_Mo_keeps bc_Mo_keeps 2 none 1 21 [.ref (V.2.2.1 0 0)] S z :=
  ct_v rfl (IsM.ok hV) (Nat.le_of_ble_eq_true rfl) (fun _ _ hC => w_Mo_keeps_b0 hV hC S h)
def f_Mo_days_b0 (x1 : Int32) (S : Mem) : Option (Int32 × Mem) :=
  Option.bind (f_Mo_in x1 0 100) (fun q4 =>
  if q4 = 0 then
    some ((-1), S)
  else
    if x1 = 0 then
      gIn 35 40 (
      some (S.2.1 0 56 (35 : Int32).toNatClampNeg, S))
    else
      Option.bind (f_Mo_copies S) (fun q25 =>
      Option.bind (f_Mo_goes x1 q25) (fun q30 =>
      Option.bind (f_Mo_keeps q30) (fun q34 =>
      gIn 35 40 (
      some (q34.2.1 0 56 (35 : Int32).toNatClampNeg, q34))))))
def f_Mo_days (x1 : Int32) (S : Mem) : Option (Int32 × Mem) := f_Mo_days_b0  x1 S
theorem d_Mo_days_0 : decode bc_Mo_days 0 = .ok (.iload_n 1, 1) := by decide +kernel
theorem d_Mo_days_1 : decode bc_Mo_days 1 = .ok (.iconst 0, 1) := by decide +kernel
theorem d_Mo_days_2 : decode bc_Mo_days 2 = .ok (.bipush 100, 2) := by decide +kernel
theorem d_Mo_days_4 : decode bc_Mo_days 4 = .ok (.invokestatic 332, 3) := by decide +kernel
theorem d_Mo_days_7 : decode bc_Mo_days 7 = .ok (.ifCond .ne 5, 3) := by decide +kernel
theorem d_Mo_days_10 : decode bc_Mo_days 10 = .ok (.iconst (-1), 1) := by decide +kernel
theorem d_Mo_days_11 : decode bc_Mo_days 11 = .ok (.ireturn, 1) := by decide +kernel
theorem d_Mo_days_12 : decode bc_Mo_days 12 = .ok (.iload_n 1, 1) := by decide +kernel
theorem d_Mo_days_13 : decode bc_Mo_days 13 = .ok (.ifCond .ne 11, 3) := by decide +kernel
theorem d_Mo_days_16 : decode bc_Mo_days 16 = .ok (.aload_n 0, 1) := by decide +kernel
theorem d_Mo_days_17 : decode bc_Mo_days 17 = .ok (.getfield 134, 3) := by decide +kernel
theorem d_Mo_days_20 : decode bc_Mo_days 20 = .ok (.bipush 35, 2) := by decide +kernel
theorem d_Mo_days_22 : decode bc_Mo_days 22 = .ok (.iaload, 1) := by decide +kernel
theorem d_Mo_days_23 : decode bc_Mo_days 23 = .ok (.ireturn, 1) := by decide +kernel
theorem d_Mo_days_24 : decode bc_Mo_days 24 = .ok (.aload_n 0, 1) := by decide +kernel
theorem d_Mo_days_25 : decode bc_Mo_days 25 = .ok (.invokevirtual 422, 3) := by decide +kernel
theorem d_Mo_days_28 : decode bc_Mo_days 28 = .ok (.aload_n 0, 1) := by decide +kernel
theorem d_Mo_days_29 : decode bc_Mo_days 29 = .ok (.iload_n 1, 1) := by decide +kernel
theorem d_Mo_days_30 : decode bc_Mo_days 30 = .ok (.invokevirtual 431, 3) := by decide +kernel
theorem d_Mo_days_33 : decode bc_Mo_days 33 = .ok (.aload_n 0, 1) := by decide +kernel
theorem d_Mo_days_34 : decode bc_Mo_days 34 = .ok (.invokevirtual 434, 3) := by decide +kernel
theorem d_Mo_days_37 : decode bc_Mo_days 37 = .ok (.aload_n 0, 1) := by decide +kernel
theorem d_Mo_days_38 : decode bc_Mo_days 38 = .ok (.getfield 134, 3) := by decide +kernel
theorem d_Mo_days_41 : decode bc_Mo_days 41 = .ok (.bipush 35, 2) := by decide +kernel
theorem d_Mo_days_43 : decode bc_Mo_days 43 = .ok (.iaload, 1) := by decide +kernel
theorem d_Mo_days_44 : decode bc_Mo_days 44 = .ok (.ireturn, 1) := by decide +kernel
set_option maxRecDepth 20000 in
theorem w_Mo_days_b0 {X : CX} {V : WV} (hV : IsM V) {z : Int32 × Mem} (hC : Ck X V bc_Mo_days 2 "SecretWellsModel" (some .int) 11 243) (x1 : Int32) (S : Mem) (h : f_Mo_days_b0  x1 S = some z) : G X V 2 (QI X V z.1 z.2) 0 [some (.ref (V.2.2.1 0 0)), some (.int x1)] [] S := by
  unfold f_Mo_days_b0 at h
  refine g_iload_n (pc := 0) hC (i := 1) (x := x1) rfl rfl d_Mo_days_0 ?_
  refine g_iconst (pc := 1) hC kc_0 d_Mo_days_1 ?_
  refine g_bipush (pc := 2) hC kb_100 d_Mo_days_2 ?_
  obtain ⟨q4, hq4, h⟩ := Option.bind_eq_some_iff.mp h
  refine g_si (pc := 4) hC (As := [.int x1, .int 0, .int 100]) (st := []) mt_Mo_in lk_Mo_332 (Nat.le_of_ble_eq_true rfl) ⟨Nat.le_of_ble_eq_true rfl, Nat.le_of_ble_eq_true rfl⟩ rfl d_Mo_days_4 (c_Mo_in (IsM.ok hV) hq4) ?_
  refine g_if_ne (pc := 7) hC (tgt := 12) (by decide) d_Mo_days_7 h (fun h => ?_) (fun h => ?_)
  · refine g_iload_n (pc := 12) hC (i := 1) (x := x1) rfl rfl d_Mo_days_12 ?_
    refine g_if_ne (pc := 13) hC (tgt := 24) (by decide) d_Mo_days_13 h (fun h => ?_) (fun h => ?_)
    · refine g_aload_n (pc := 24) hC (i := 0) (x := (V.2.2.1 0 0)) rfl rfl d_Mo_days_24 ?_
      obtain ⟨q25, hq25, h⟩ := Option.bind_eq_some_iff.mp h
      refine g_vv (pc := 25) hC (As := []) (st := []) mt_Mo_copies lk_Mo_422 rfl (ob_Mo hV) (Nat.le_of_ble_eq_true rfl) ⟨Nat.le_of_ble_eq_true rfl, Nat.le_of_ble_eq_true rfl⟩ rfl d_Mo_days_25 (c_Mo_copies hV hq25) ?_
      refine g_aload_n (pc := 28) hC (i := 0) (x := (V.2.2.1 0 0)) rfl rfl d_Mo_days_28 ?_
      refine g_iload_n (pc := 29) hC (i := 1) (x := x1) rfl rfl d_Mo_days_29 ?_
      obtain ⟨q30, hq30, h⟩ := Option.bind_eq_some_iff.mp h
      refine g_vv (pc := 30) hC (As := [.int x1]) (st := []) mt_Mo_goes lk_Mo_431 rfl (ob_Mo hV) (Nat.le_of_ble_eq_true rfl) ⟨Nat.le_of_ble_eq_true rfl, Nat.le_of_ble_eq_true rfl⟩ rfl d_Mo_days_30 (c_Mo_goes hV hq30) ?_
      refine g_aload_n (pc := 33) hC (i := 0) (x := (V.2.2.1 0 0)) rfl rfl d_Mo_days_33 ?_
      obtain ⟨q34, hq34, h⟩ := Option.bind_eq_some_iff.mp h
      refine g_vv (pc := 34) hC (As := []) (st := []) mt_Mo_keeps lk_Mo_434 rfl (ob_Mo hV) (Nat.le_of_ble_eq_true rfl) ⟨Nat.le_of_ble_eq_true rfl, Nat.le_of_ble_eq_true rfl⟩ rfl d_Mo_days_34 (c_Mo_keeps hV hq34) ?_
      refine g_aload_n (pc := 37) hC (i := 0) (x := (V.2.2.1 0 0)) rfl rfl d_Mo_days_37 ?_
      refine g_getA (pc := 38) hC fo_Mo_134 (ob_Mo hV) rfl d_Mo_days_38 ?_
      refine g_bipush (pc := 41) hC kb_35 d_Mo_days_41 ?_
      refine g_iald (pc := 43) hC (ar_Mo_56 hV) d_Mo_days_43 h (fun h => ?_)
      exact g_iW (pc := 44) hC rfl d_Mo_days_44 h
    · refine g_aload_n (pc := 16) hC (i := 0) (x := (V.2.2.1 0 0)) rfl rfl d_Mo_days_16 ?_
      refine g_getA (pc := 17) hC fo_Mo_134 (ob_Mo hV) rfl d_Mo_days_17 ?_
      refine g_bipush (pc := 20) hC kb_35 d_Mo_days_20 ?_
      refine g_iald (pc := 22) hC (ar_Mo_56 hV) d_Mo_days_22 h (fun h => ?_)
      exact g_iW (pc := 23) hC rfl d_Mo_days_23 h
  · refine g_iconst (pc := 10) hC kc_m1 d_Mo_days_10 ?_
    exact g_iW (pc := 11) hC rfl d_Mo_days_11 h
theorem c_Mo_days {V : WV} {l : Launch} (hV : IsM V) {x1 : Int32} {S : Mem} {z : Int32 × Mem} (h : f_Mo_days x1 S = some z) : CI V l y_Mo_days bc_Mo_days 2 (some .int) 11 243 [.ref (V.2.2.1 0 0), .int x1] S z.1 z.2 :=
  ct_i rfl (IsM.ok hV) (Nat.le_of_ble_eq_true rfl) (fun _ _ hC => w_Mo_days_b0 hV hC x1 S h)
def f_Mo_whispers_b111 (x3 : Int32) (s0 : Int32) (s1 : Int32) (S : Mem) : Option (Int32 × Mem) :=
  gIn s1 40 (letS (sA S 0 57 s1 s0) (fun S111 =>
  Option.bind (f_Mo_cutsWater S111) (fun q113 =>
  Option.bind (f_Mo_keeps q113) (fun q117 =>
  Option.bind (f_Mo_deepOf x3 q117) (fun q122 =>
  some (q122, q117))))))
def f_Mo_whispers_b0 (x1 : Int32) (x2 : Int32) (x3 : Int32) (x4 : Int32) (S : Mem) : Option (Int32 × Mem) :=
  Option.bind (f_Mo_isMan x1 S) (fun q2 =>
  if q2 = 0 then
    some ((-1), S)
  else
    Option.bind (f_Mo_isSecret x2 S) (fun q10 =>
    if q10 = 0 then
      some ((-1), S)
    else
      Option.bind (f_Mo_isWell x3 S) (fun q18 =>
      if q18 = 0 then
        some ((-1), S)
      else
        Option.bind (f_Mo_copies S) (fun q27 =>
        Option.bind (f_Mo_isAlive x1 q27) (fun q32 =>
        if q32 = 0 then
          some ((-2), q27)
        else
          Option.bind (f_Mo_knows x1 x2 q27) (fun q41 =>
          if q41 = 0 then
            some ((-2), q27)
          else
            gIn (4 + x2) 40 (
            if (q27.2.1 0 57 (4 + x2).toNatClampNeg) = x3 then
              some ((-2), q27)
            else
              gIn (4 + x2) 40 (letS (sA q27 0 57 (4 + x2) x3) (fun S70 =>
              gIn 36 40 (
              gIn 36 40 (letS (sA S70 0 57 36 ((S70.2.1 0 57 (36 : Int32).toNatClampNeg) + 1)) (fun S81 =>
              gIn x3 40 (
              if (S81.2.1 0 57 x3.toNatClampNeg) ≤ x4 then
                f_Mo_whispers_b111 x3 0 x3 S81
              else
                gIn x3 40 (
                f_Mo_whispers_b111 x3 ((S81.2.1 0 57 x3.toNatClampNeg) - x4) x3 S81))))))))))))))
def f_Mo_whispers (x1 : Int32) (x2 : Int32) (x3 : Int32) (x4 : Int32) (S : Mem) : Option (Int32 × Mem) := f_Mo_whispers_b0  x1 x2 x3 x4 S
theorem d_Mo_whispers_0 : decode bc_Mo_whispers 0 = .ok (.aload_n 0, 1) := by decide +kernel
theorem d_Mo_whispers_1 : decode bc_Mo_whispers 1 = .ok (.iload_n 1, 1) := by decide +kernel
theorem d_Mo_whispers_2 : decode bc_Mo_whispers 2 = .ok (.invokevirtual 425, 3) := by decide +kernel
theorem d_Mo_whispers_5 : decode bc_Mo_whispers 5 = .ok (.ifCond .eq 19, 3) := by decide +kernel
theorem d_Mo_whispers_8 : decode bc_Mo_whispers 8 = .ok (.aload_n 0, 1) := by decide +kernel
theorem d_Mo_whispers_9 : decode bc_Mo_whispers 9 = .ok (.iload_n 2, 1) := by decide +kernel
theorem d_Mo_whispers_10 : decode bc_Mo_whispers 10 = .ok (.invokevirtual 428, 3) := by decide +kernel
theorem d_Mo_whispers_13 : decode bc_Mo_whispers 13 = .ok (.ifCond .eq 11, 3) := by decide +kernel
theorem d_Mo_whispers_16 : decode bc_Mo_whispers 16 = .ok (.aload_n 0, 1) := by decide +kernel
theorem d_Mo_whispers_17 : decode bc_Mo_whispers 17 = .ok (.iload_n 3, 1) := by decide +kernel
theorem d_Mo_whispers_18 : decode bc_Mo_whispers 18 = .ok (.invokevirtual 419, 3) := by decide +kernel
theorem d_Mo_whispers_21 : decode bc_Mo_whispers 21 = .ok (.ifCond .ne 5, 3) := by decide +kernel
theorem d_Mo_whispers_24 : decode bc_Mo_whispers 24 = .ok (.iconst (-1), 1) := by decide +kernel
theorem d_Mo_whispers_25 : decode bc_Mo_whispers 25 = .ok (.ireturn, 1) := by decide +kernel
theorem d_Mo_whispers_26 : decode bc_Mo_whispers 26 = .ok (.aload_n 0, 1) := by decide +kernel
theorem d_Mo_whispers_27 : decode bc_Mo_whispers 27 = .ok (.invokevirtual 422, 3) := by decide +kernel
theorem d_Mo_whispers_30 : decode bc_Mo_whispers 30 = .ok (.aload_n 0, 1) := by decide +kernel
theorem d_Mo_whispers_31 : decode bc_Mo_whispers 31 = .ok (.iload_n 1, 1) := by decide +kernel
theorem d_Mo_whispers_32 : decode bc_Mo_whispers 32 = .ok (.invokevirtual 367, 3) := by decide +kernel
theorem d_Mo_whispers_35 : decode bc_Mo_whispers 35 = .ok (.ifCond .eq 24, 3) := by decide +kernel
theorem d_Mo_whispers_38 : decode bc_Mo_whispers 38 = .ok (.aload_n 0, 1) := by decide +kernel
theorem d_Mo_whispers_39 : decode bc_Mo_whispers 39 = .ok (.iload_n 1, 1) := by decide +kernel
theorem d_Mo_whispers_40 : decode bc_Mo_whispers 40 = .ok (.iload_n 2, 1) := by decide +kernel
theorem d_Mo_whispers_41 : decode bc_Mo_whispers 41 = .ok (.invokevirtual 342, 3) := by decide +kernel
theorem d_Mo_whispers_44 : decode bc_Mo_whispers 44 = .ok (.ifCond .eq 15, 3) := by decide +kernel
theorem d_Mo_whispers_47 : decode bc_Mo_whispers 47 = .ok (.aload_n 0, 1) := by decide +kernel
theorem d_Mo_whispers_48 : decode bc_Mo_whispers 48 = .ok (.getfield 137, 3) := by decide +kernel
theorem d_Mo_whispers_51 : decode bc_Mo_whispers 51 = .ok (.iconst 4, 1) := by decide +kernel
theorem d_Mo_whispers_52 : decode bc_Mo_whispers 52 = .ok (.iload_n 2, 1) := by decide +kernel
theorem d_Mo_whispers_53 : decode bc_Mo_whispers 53 = .ok (.iadd, 1) := by decide +kernel
theorem d_Mo_whispers_54 : decode bc_Mo_whispers 54 = .ok (.iaload, 1) := by decide +kernel
theorem d_Mo_whispers_55 : decode bc_Mo_whispers 55 = .ok (.iload_n 3, 1) := by decide +kernel
theorem d_Mo_whispers_56 : decode bc_Mo_whispers 56 = .ok (.if_icmp .ne 6, 3) := by decide +kernel
theorem d_Mo_whispers_59 : decode bc_Mo_whispers 59 = .ok (.bipush (-2), 2) := by decide +kernel
theorem d_Mo_whispers_61 : decode bc_Mo_whispers 61 = .ok (.ireturn, 1) := by decide +kernel
theorem d_Mo_whispers_62 : decode bc_Mo_whispers 62 = .ok (.aload_n 0, 1) := by decide +kernel
theorem d_Mo_whispers_63 : decode bc_Mo_whispers 63 = .ok (.getfield 137, 3) := by decide +kernel
theorem d_Mo_whispers_66 : decode bc_Mo_whispers 66 = .ok (.iconst 4, 1) := by decide +kernel
theorem d_Mo_whispers_67 : decode bc_Mo_whispers 67 = .ok (.iload_n 2, 1) := by decide +kernel
theorem d_Mo_whispers_68 : decode bc_Mo_whispers 68 = .ok (.iadd, 1) := by decide +kernel
theorem d_Mo_whispers_69 : decode bc_Mo_whispers 69 = .ok (.iload_n 3, 1) := by decide +kernel
theorem d_Mo_whispers_70 : decode bc_Mo_whispers 70 = .ok (.iastore, 1) := by decide +kernel
theorem d_Mo_whispers_71 : decode bc_Mo_whispers 71 = .ok (.aload_n 0, 1) := by decide +kernel
theorem d_Mo_whispers_72 : decode bc_Mo_whispers 72 = .ok (.getfield 137, 3) := by decide +kernel
theorem d_Mo_whispers_75 : decode bc_Mo_whispers 75 = .ok (.bipush 36, 2) := by decide +kernel
theorem d_Mo_whispers_77 : decode bc_Mo_whispers 77 = .ok (.dup2, 1) := by decide +kernel
theorem d_Mo_whispers_78 : decode bc_Mo_whispers 78 = .ok (.iaload, 1) := by decide +kernel
theorem d_Mo_whispers_79 : decode bc_Mo_whispers 79 = .ok (.iconst 1, 1) := by decide +kernel
theorem d_Mo_whispers_80 : decode bc_Mo_whispers 80 = .ok (.iadd, 1) := by decide +kernel
theorem d_Mo_whispers_81 : decode bc_Mo_whispers 81 = .ok (.iastore, 1) := by decide +kernel
theorem d_Mo_whispers_82 : decode bc_Mo_whispers 82 = .ok (.aload_n 0, 1) := by decide +kernel
theorem d_Mo_whispers_83 : decode bc_Mo_whispers 83 = .ok (.getfield 137, 3) := by decide +kernel
theorem d_Mo_whispers_86 : decode bc_Mo_whispers 86 = .ok (.iload_n 3, 1) := by decide +kernel
theorem d_Mo_whispers_87 : decode bc_Mo_whispers 87 = .ok (.aload_n 0, 1) := by decide +kernel
theorem d_Mo_whispers_88 : decode bc_Mo_whispers 88 = .ok (.getfield 137, 3) := by decide +kernel
theorem d_Mo_whispers_91 : decode bc_Mo_whispers 91 = .ok (.iload_n 3, 1) := by decide +kernel
theorem d_Mo_whispers_92 : decode bc_Mo_whispers 92 = .ok (.iaload, 1) := by decide +kernel
theorem d_Mo_whispers_93 : decode bc_Mo_whispers 93 = .ok (.iload 4, 2) := by decide +kernel
theorem d_Mo_whispers_95 : decode bc_Mo_whispers 95 = .ok (.if_icmp .le 15, 3) := by decide +kernel
theorem d_Mo_whispers_98 : decode bc_Mo_whispers 98 = .ok (.aload_n 0, 1) := by decide +kernel
theorem d_Mo_whispers_99 : decode bc_Mo_whispers 99 = .ok (.getfield 137, 3) := by decide +kernel
theorem d_Mo_whispers_102 : decode bc_Mo_whispers 102 = .ok (.iload_n 3, 1) := by decide +kernel
theorem d_Mo_whispers_103 : decode bc_Mo_whispers 103 = .ok (.iaload, 1) := by decide +kernel
theorem d_Mo_whispers_104 : decode bc_Mo_whispers 104 = .ok (.iload 4, 2) := by decide +kernel
theorem d_Mo_whispers_106 : decode bc_Mo_whispers 106 = .ok (.isub, 1) := by decide +kernel
theorem d_Mo_whispers_107 : decode bc_Mo_whispers 107 = .ok (.goto 4, 3) := by decide +kernel
theorem d_Mo_whispers_110 : decode bc_Mo_whispers 110 = .ok (.iconst 0, 1) := by decide +kernel
theorem d_Mo_whispers_111 : decode bc_Mo_whispers 111 = .ok (.iastore, 1) := by decide +kernel
theorem d_Mo_whispers_112 : decode bc_Mo_whispers 112 = .ok (.aload_n 0, 1) := by decide +kernel
theorem d_Mo_whispers_113 : decode bc_Mo_whispers 113 = .ok (.invokevirtual 339, 3) := by decide +kernel
theorem d_Mo_whispers_116 : decode bc_Mo_whispers 116 = .ok (.aload_n 0, 1) := by decide +kernel
theorem d_Mo_whispers_117 : decode bc_Mo_whispers 117 = .ok (.invokevirtual 434, 3) := by decide +kernel
theorem d_Mo_whispers_120 : decode bc_Mo_whispers 120 = .ok (.aload_n 0, 1) := by decide +kernel
theorem d_Mo_whispers_121 : decode bc_Mo_whispers 121 = .ok (.iload_n 3, 1) := by decide +kernel
theorem d_Mo_whispers_122 : decode bc_Mo_whispers 122 = .ok (.invokevirtual 364, 3) := by decide +kernel
theorem d_Mo_whispers_125 : decode bc_Mo_whispers 125 = .ok (.ireturn, 1) := by decide +kernel
set_option maxRecDepth 20000 in
theorem w_Mo_whispers_b111 {X : CX} {V : WV} (hV : IsM V) {z : Int32 × Mem} (hC : Ck X V bc_Mo_whispers 5 "SecretWellsModel" (some .int) 6 132) (x3 : Int32) (s0 : Int32) (s1 : Int32) (S : Mem) (h : f_Mo_whispers_b111  x3 s0 s1 S = some z) : G X V 5 (QI X V z.1 z.2) 111 [some (.ref (V.2.2.1 0 0)), none, none, some (.int x3), none] [.int s0, .int s1, .ref (V.2.2.1 0 (57 + 1))] S := by
  unfold f_Mo_whispers_b111 at h
  refine g_iast (pc := 111) hC (ar_Mo_57 hV) d_Mo_whispers_111 h (fun h => ?_)
  refine g_letS h (fun S111 h => ?_)
  refine g_aload_n (pc := 112) hC (i := 0) (x := (V.2.2.1 0 0)) rfl rfl d_Mo_whispers_112 ?_
  obtain ⟨q113, hq113, h⟩ := Option.bind_eq_some_iff.mp h
  refine g_vv (pc := 113) hC (As := []) (st := []) mt_Mo_cutsWater lk_Mo_339 rfl (ob_Mo hV) (Nat.le_of_ble_eq_true rfl) ⟨Nat.le_of_ble_eq_true rfl, Nat.le_of_ble_eq_true rfl⟩ rfl d_Mo_whispers_113 (c_Mo_cutsWater hV hq113) ?_
  refine g_aload_n (pc := 116) hC (i := 0) (x := (V.2.2.1 0 0)) rfl rfl d_Mo_whispers_116 ?_
  obtain ⟨q117, hq117, h⟩ := Option.bind_eq_some_iff.mp h
  refine g_vv (pc := 117) hC (As := []) (st := []) mt_Mo_keeps lk_Mo_434 rfl (ob_Mo hV) (Nat.le_of_ble_eq_true rfl) ⟨Nat.le_of_ble_eq_true rfl, Nat.le_of_ble_eq_true rfl⟩ rfl d_Mo_whispers_117 (c_Mo_keeps hV hq117) ?_
  refine g_aload_n (pc := 120) hC (i := 0) (x := (V.2.2.1 0 0)) rfl rfl d_Mo_whispers_120 ?_
  refine g_iload_n (pc := 121) hC (i := 3) (x := x3) rfl rfl d_Mo_whispers_121 ?_
  obtain ⟨q122, hq122, h⟩ := Option.bind_eq_some_iff.mp h
  refine g_vi (pc := 122) hC (As := [.int x3]) (st := []) mt_Mo_deepOf lk_Mo_364 rfl (ob_Mo hV) (Nat.le_of_ble_eq_true rfl) ⟨Nat.le_of_ble_eq_true rfl, Nat.le_of_ble_eq_true rfl⟩ rfl d_Mo_whispers_122 (c_Mo_deepOf hV hq122) ?_
  exact g_iW (pc := 125) hC rfl d_Mo_whispers_125 h
set_option maxRecDepth 20000 in
theorem w_Mo_whispers_b0 {X : CX} {V : WV} (hV : IsM V) {z : Int32 × Mem} (hC : Ck X V bc_Mo_whispers 5 "SecretWellsModel" (some .int) 6 132) (x1 : Int32) (x2 : Int32) (x3 : Int32) (x4 : Int32) (S : Mem) (h : f_Mo_whispers_b0  x1 x2 x3 x4 S = some z) : G X V 5 (QI X V z.1 z.2) 0 [some (.ref (V.2.2.1 0 0)), some (.int x1), some (.int x2), some (.int x3), some (.int x4)] [] S := by
  unfold f_Mo_whispers_b0 at h
  refine g_aload_n (pc := 0) hC (i := 0) (x := (V.2.2.1 0 0)) rfl rfl d_Mo_whispers_0 ?_
  refine g_iload_n (pc := 1) hC (i := 1) (x := x1) rfl rfl d_Mo_whispers_1 ?_
  obtain ⟨q2, hq2, h⟩ := Option.bind_eq_some_iff.mp h
  refine g_vi (pc := 2) hC (As := [.int x1]) (st := []) mt_Mo_isMan lk_Mo_425 rfl (ob_Mo hV) (Nat.le_of_ble_eq_true rfl) ⟨Nat.le_of_ble_eq_true rfl, Nat.le_of_ble_eq_true rfl⟩ rfl d_Mo_whispers_2 (c_Mo_isMan hV hq2) ?_
  refine g_if_eq (pc := 5) hC (tgt := 24) (by decide) d_Mo_whispers_5 h (fun h => ?_) (fun h => ?_)
  · refine g_iconst (pc := 24) hC kc_m1 d_Mo_whispers_24 ?_
    exact g_iW (pc := 25) hC rfl d_Mo_whispers_25 h
  · refine g_aload_n (pc := 8) hC (i := 0) (x := (V.2.2.1 0 0)) rfl rfl d_Mo_whispers_8 ?_
    refine g_iload_n (pc := 9) hC (i := 2) (x := x2) rfl rfl d_Mo_whispers_9 ?_
    obtain ⟨q10, hq10, h⟩ := Option.bind_eq_some_iff.mp h
    refine g_vi (pc := 10) hC (As := [.int x2]) (st := []) mt_Mo_isSecret lk_Mo_428 rfl (ob_Mo hV) (Nat.le_of_ble_eq_true rfl) ⟨Nat.le_of_ble_eq_true rfl, Nat.le_of_ble_eq_true rfl⟩ rfl d_Mo_whispers_10 (c_Mo_isSecret hV hq10) ?_
    refine g_if_eq (pc := 13) hC (tgt := 24) (by decide) d_Mo_whispers_13 h (fun h => ?_) (fun h => ?_)
    · refine g_iconst (pc := 24) hC kc_m1 d_Mo_whispers_24 ?_
      exact g_iW (pc := 25) hC rfl d_Mo_whispers_25 h
    · refine g_aload_n (pc := 16) hC (i := 0) (x := (V.2.2.1 0 0)) rfl rfl d_Mo_whispers_16 ?_
      refine g_iload_n (pc := 17) hC (i := 3) (x := x3) rfl rfl d_Mo_whispers_17 ?_
      obtain ⟨q18, hq18, h⟩ := Option.bind_eq_some_iff.mp h
      refine g_vi (pc := 18) hC (As := [.int x3]) (st := []) mt_Mo_isWell lk_Mo_419 rfl (ob_Mo hV) (Nat.le_of_ble_eq_true rfl) ⟨Nat.le_of_ble_eq_true rfl, Nat.le_of_ble_eq_true rfl⟩ rfl d_Mo_whispers_18 (c_Mo_isWell hV hq18) ?_
      refine g_if_ne (pc := 21) hC (tgt := 26) (by decide) d_Mo_whispers_21 h (fun h => ?_) (fun h => ?_)
      · refine g_aload_n (pc := 26) hC (i := 0) (x := (V.2.2.1 0 0)) rfl rfl d_Mo_whispers_26 ?_
        obtain ⟨q27, hq27, h⟩ := Option.bind_eq_some_iff.mp h
        refine g_vv (pc := 27) hC (As := []) (st := []) mt_Mo_copies lk_Mo_422 rfl (ob_Mo hV) (Nat.le_of_ble_eq_true rfl) ⟨Nat.le_of_ble_eq_true rfl, Nat.le_of_ble_eq_true rfl⟩ rfl d_Mo_whispers_27 (c_Mo_copies hV hq27) ?_
        refine g_aload_n (pc := 30) hC (i := 0) (x := (V.2.2.1 0 0)) rfl rfl d_Mo_whispers_30 ?_
        refine g_iload_n (pc := 31) hC (i := 1) (x := x1) rfl rfl d_Mo_whispers_31 ?_
        obtain ⟨q32, hq32, h⟩ := Option.bind_eq_some_iff.mp h
        refine g_vi (pc := 32) hC (As := [.int x1]) (st := []) mt_Mo_isAlive lk_Mo_367 rfl (ob_Mo hV) (Nat.le_of_ble_eq_true rfl) ⟨Nat.le_of_ble_eq_true rfl, Nat.le_of_ble_eq_true rfl⟩ rfl d_Mo_whispers_32 (c_Mo_isAlive hV hq32) ?_
        refine g_if_eq (pc := 35) hC (tgt := 59) (by decide) d_Mo_whispers_35 h (fun h => ?_) (fun h => ?_)
        · refine g_bipush (pc := 59) hC kb_m2 d_Mo_whispers_59 ?_
          exact g_iW (pc := 61) hC rfl d_Mo_whispers_61 h
        · refine g_aload_n (pc := 38) hC (i := 0) (x := (V.2.2.1 0 0)) rfl rfl d_Mo_whispers_38 ?_
          refine g_iload_n (pc := 39) hC (i := 1) (x := x1) rfl rfl d_Mo_whispers_39 ?_
          refine g_iload_n (pc := 40) hC (i := 2) (x := x2) rfl rfl d_Mo_whispers_40 ?_
          obtain ⟨q41, hq41, h⟩ := Option.bind_eq_some_iff.mp h
          refine g_vi (pc := 41) hC (As := [.int x1, .int x2]) (st := []) mt_Mo_knows lk_Mo_342 rfl (ob_Mo hV) (Nat.le_of_ble_eq_true rfl) ⟨Nat.le_of_ble_eq_true rfl, Nat.le_of_ble_eq_true rfl⟩ rfl d_Mo_whispers_41 (c_Mo_knows hV hq41) ?_
          refine g_if_eq (pc := 44) hC (tgt := 59) (by decide) d_Mo_whispers_44 h (fun h => ?_) (fun h => ?_)
          · refine g_bipush (pc := 59) hC kb_m2 d_Mo_whispers_59 ?_
            exact g_iW (pc := 61) hC rfl d_Mo_whispers_61 h
          · refine g_aload_n (pc := 47) hC (i := 0) (x := (V.2.2.1 0 0)) rfl rfl d_Mo_whispers_47 ?_
            refine g_getA (pc := 48) hC fo_Mo_137 (ob_Mo hV) rfl d_Mo_whispers_48 ?_
            refine g_iconst (pc := 51) hC kc_4 d_Mo_whispers_51 ?_
            refine g_iload_n (pc := 52) hC (i := 2) (x := x2) rfl rfl d_Mo_whispers_52 ?_
            refine g_iadd (pc := 53) hC d_Mo_whispers_53 ?_
            refine g_iald (pc := 54) hC (ar_Mo_57 hV) d_Mo_whispers_54 h (fun h => ?_)
            refine g_iload_n (pc := 55) hC (i := 3) (x := x3) rfl rfl d_Mo_whispers_55 ?_
            refine g_icmp_ne (pc := 56) hC (tgt := 62) (by decide) d_Mo_whispers_56 h (fun h => ?_) (fun h => ?_)
            · refine g_aload_n (pc := 62) hC (i := 0) (x := (V.2.2.1 0 0)) rfl rfl d_Mo_whispers_62 ?_
              refine g_getA (pc := 63) hC fo_Mo_137 (ob_Mo hV) rfl d_Mo_whispers_63 ?_
              refine g_iconst (pc := 66) hC kc_4 d_Mo_whispers_66 ?_
              refine g_iload_n (pc := 67) hC (i := 2) (x := x2) rfl rfl d_Mo_whispers_67 ?_
              refine g_iadd (pc := 68) hC d_Mo_whispers_68 ?_
              refine g_iload_n (pc := 69) hC (i := 3) (x := x3) rfl rfl d_Mo_whispers_69 ?_
              refine g_iast (pc := 70) hC (ar_Mo_57 hV) d_Mo_whispers_70 h (fun h => ?_)
              refine g_letS h (fun S70 h => ?_)
              refine g_aload_n (pc := 71) hC (i := 0) (x := (V.2.2.1 0 0)) rfl rfl d_Mo_whispers_71 ?_
              refine g_getA (pc := 72) hC fo_Mo_137 (ob_Mo hV) rfl d_Mo_whispers_72 ?_
              refine g_bipush (pc := 75) hC kb_36 d_Mo_whispers_75 ?_
              refine g_dup2 (pc := 77) hC rfl rfl d_Mo_whispers_77 ?_
              refine g_iald (pc := 78) hC (ar_Mo_57 hV) d_Mo_whispers_78 h (fun h => ?_)
              refine g_iconst (pc := 79) hC kc_1 d_Mo_whispers_79 ?_
              refine g_iadd (pc := 80) hC d_Mo_whispers_80 ?_
              refine g_iast (pc := 81) hC (ar_Mo_57 hV) d_Mo_whispers_81 h (fun h => ?_)
              refine g_letS h (fun S81 h => ?_)
              refine g_aload_n (pc := 82) hC (i := 0) (x := (V.2.2.1 0 0)) rfl rfl d_Mo_whispers_82 ?_
              refine g_getA (pc := 83) hC fo_Mo_137 (ob_Mo hV) rfl d_Mo_whispers_83 ?_
              refine g_iload_n (pc := 86) hC (i := 3) (x := x3) rfl rfl d_Mo_whispers_86 ?_
              refine g_aload_n (pc := 87) hC (i := 0) (x := (V.2.2.1 0 0)) rfl rfl d_Mo_whispers_87 ?_
              refine g_getA (pc := 88) hC fo_Mo_137 (ob_Mo hV) rfl d_Mo_whispers_88 ?_
              refine g_iload_n (pc := 91) hC (i := 3) (x := x3) rfl rfl d_Mo_whispers_91 ?_
              refine g_iald (pc := 92) hC (ar_Mo_57 hV) d_Mo_whispers_92 h (fun h => ?_)
              refine g_iload (pc := 93) hC (i := 4) (x := x4) rfl d_Mo_whispers_93 ?_
              refine g_icmp_le (pc := 95) hC (tgt := 110) (by decide) d_Mo_whispers_95 h (fun h => ?_) (fun h => ?_)
              · refine g_iconst (pc := 110) hC kc_0 d_Mo_whispers_110 ?_
                refine g_le (lv2 := [some (.ref (V.2.2.1 0 0)), none, none, some (.int x3), none]) (⟨rfl, ⟨rfl, trivial⟩⟩) ?_
                exact w_Mo_whispers_b111 hV hC x3 0 x3 S81 h
              · refine g_aload_n (pc := 98) hC (i := 0) (x := (V.2.2.1 0 0)) rfl rfl d_Mo_whispers_98 ?_
                refine g_getA (pc := 99) hC fo_Mo_137 (ob_Mo hV) rfl d_Mo_whispers_99 ?_
                refine g_iload_n (pc := 102) hC (i := 3) (x := x3) rfl rfl d_Mo_whispers_102 ?_
                refine g_iald (pc := 103) hC (ar_Mo_57 hV) d_Mo_whispers_103 h (fun h => ?_)
                refine g_iload (pc := 104) hC (i := 4) (x := x4) rfl d_Mo_whispers_104 ?_
                refine g_isub (pc := 106) hC d_Mo_whispers_106 ?_
                refine g_goto (pc := 107) hC (tgt := 111) (by decide) d_Mo_whispers_107 ?_
                refine g_le (lv2 := [some (.ref (V.2.2.1 0 0)), none, none, some (.int x3), none]) (⟨rfl, ⟨rfl, trivial⟩⟩) ?_
                exact w_Mo_whispers_b111 hV hC x3 ((S81.2.1 0 57 x3.toNatClampNeg) - x4) x3 S81 h
            · refine g_bipush (pc := 59) hC kb_m2 d_Mo_whispers_59 ?_
              exact g_iW (pc := 61) hC rfl d_Mo_whispers_61 h
      · refine g_iconst (pc := 24) hC kc_m1 d_Mo_whispers_24 ?_
        exact g_iW (pc := 25) hC rfl d_Mo_whispers_25 h
theorem c_Mo_whispers {V : WV} {l : Launch} (hV : IsM V) {x1 : Int32} {x2 : Int32} {x3 : Int32} {x4 : Int32} {S : Mem} {z : Int32 × Mem} (h : f_Mo_whispers x1 x2 x3 x4 S = some z) : CI V l y_Mo_whispers bc_Mo_whispers 5 (some .int) 6 132 [.ref (V.2.2.1 0 0), .int x1, .int x2, .int x3, .int x4] S z.1 z.2 :=
  ct_i rfl (IsM.ok hV) (Nat.le_of_ble_eq_true rfl) (fun _ _ hC => w_Mo_whispers_b0 hV hC x1 x2 x3 x4 S h)
def f_Mo_whisper_b0 (x1 : Int32) (x2 : Int32) (x3 : Int32) (S : Mem) : Option (Int32 × Mem) :=
  Option.bind (f_Mo_whispers x1 x2 x3 0 S) (fun q5 =>
  some (q5.1, q5.2))
def f_Mo_whisper (x1 : Int32) (x2 : Int32) (x3 : Int32) (S : Mem) : Option (Int32 × Mem) := f_Mo_whisper_b0  x1 x2 x3 S
theorem d_Mo_whisper_0 : decode bc_Mo_whisper 0 = .ok (.aload_n 0, 1) := by decide +kernel
theorem d_Mo_whisper_1 : decode bc_Mo_whisper 1 = .ok (.iload_n 1, 1) := by decide +kernel
theorem d_Mo_whisper_2 : decode bc_Mo_whisper 2 = .ok (.iload_n 2, 1) := by decide +kernel
theorem d_Mo_whisper_3 : decode bc_Mo_whisper 3 = .ok (.iload_n 3, 1) := by decide +kernel
theorem d_Mo_whisper_4 : decode bc_Mo_whisper 4 = .ok (.iconst 0, 1) := by decide +kernel
theorem d_Mo_whisper_5 : decode bc_Mo_whisper 5 = .ok (.invokevirtual 437, 3) := by decide +kernel
theorem d_Mo_whisper_8 : decode bc_Mo_whisper 8 = .ok (.ireturn, 1) := by decide +kernel
set_option maxRecDepth 20000 in
theorem w_Mo_whisper_b0 {X : CX} {V : WV} (hV : IsM V) {z : Int32 × Mem} (hC : Ck X V bc_Mo_whisper 4 "SecretWellsModel" (some .int) 7 156) (x1 : Int32) (x2 : Int32) (x3 : Int32) (S : Mem) (h : f_Mo_whisper_b0  x1 x2 x3 S = some z) : G X V 4 (QI X V z.1 z.2) 0 [some (.ref (V.2.2.1 0 0)), some (.int x1), some (.int x2), some (.int x3)] [] S := by
  unfold f_Mo_whisper_b0 at h
  refine g_aload_n (pc := 0) hC (i := 0) (x := (V.2.2.1 0 0)) rfl rfl d_Mo_whisper_0 ?_
  refine g_iload_n (pc := 1) hC (i := 1) (x := x1) rfl rfl d_Mo_whisper_1 ?_
  refine g_iload_n (pc := 2) hC (i := 2) (x := x2) rfl rfl d_Mo_whisper_2 ?_
  refine g_iload_n (pc := 3) hC (i := 3) (x := x3) rfl rfl d_Mo_whisper_3 ?_
  refine g_iconst (pc := 4) hC kc_0 d_Mo_whisper_4 ?_
  obtain ⟨q5, hq5, h⟩ := Option.bind_eq_some_iff.mp h
  refine g_vi (pc := 5) hC (As := [.int x1, .int x2, .int x3, .int 0]) (st := []) mt_Mo_whispers lk_Mo_437 rfl (ob_Mo hV) (Nat.le_of_ble_eq_true rfl) ⟨Nat.le_of_ble_eq_true rfl, Nat.le_of_ble_eq_true rfl⟩ rfl d_Mo_whisper_5 (c_Mo_whispers hV hq5) ?_
  exact g_iW (pc := 8) hC rfl d_Mo_whisper_8 h
theorem c_Mo_whisper {V : WV} {l : Launch} (hV : IsM V) {x1 : Int32} {x2 : Int32} {x3 : Int32} {S : Mem} {z : Int32 × Mem} (h : f_Mo_whisper x1 x2 x3 S = some z) : CI V l y_Mo_whisper bc_Mo_whisper 4 (some .int) 7 156 [.ref (V.2.2.1 0 0), .int x1, .int x2, .int x3] S z.1 z.2 :=
  ct_i rfl (IsM.ok hV) (Nat.le_of_ble_eq_true rfl) (fun _ _ hC => w_Mo_whisper_b0 hV hC x1 x2 x3 S h)
def f_Mo_drill_b0 (x1 : Int32) (x2 : Int32) (x3 : Int32) (S : Mem) : Option (Int32 × Mem) :=
  gIn (S.1 0 18) 2 (
  Option.bind (f_Mo_whispers x1 x2 x3 (S.2.1 0 38 (S.1 0 18).toNatClampNeg) S) (fun q13 =>
  some (q13.1, q13.2)))
def f_Mo_drill (x1 : Int32) (x2 : Int32) (x3 : Int32) (S : Mem) : Option (Int32 × Mem) := f_Mo_drill_b0  x1 x2 x3 S
theorem d_Mo_drill_0 : decode bc_Mo_drill 0 = .ok (.aload_n 0, 1) := by decide +kernel
theorem d_Mo_drill_1 : decode bc_Mo_drill 1 = .ok (.iload_n 1, 1) := by decide +kernel
theorem d_Mo_drill_2 : decode bc_Mo_drill 2 = .ok (.iload_n 2, 1) := by decide +kernel
theorem d_Mo_drill_3 : decode bc_Mo_drill 3 = .ok (.iload_n 3, 1) := by decide +kernel
theorem d_Mo_drill_4 : decode bc_Mo_drill 4 = .ok (.aload_n 0, 1) := by decide +kernel
theorem d_Mo_drill_5 : decode bc_Mo_drill 5 = .ok (.getfield 92, 3) := by decide +kernel
theorem d_Mo_drill_8 : decode bc_Mo_drill 8 = .ok (.aload_n 0, 1) := by decide +kernel
theorem d_Mo_drill_9 : decode bc_Mo_drill 9 = .ok (.getfield 245, 3) := by decide +kernel
theorem d_Mo_drill_12 : decode bc_Mo_drill 12 = .ok (.iaload, 1) := by decide +kernel
theorem d_Mo_drill_13 : decode bc_Mo_drill 13 = .ok (.invokevirtual 437, 3) := by decide +kernel
theorem d_Mo_drill_16 : decode bc_Mo_drill 16 = .ok (.ireturn, 1) := by decide +kernel
set_option maxRecDepth 20000 in
theorem w_Mo_drill_b0 {X : CX} {V : WV} (hV : IsM V) {z : Int32 × Mem} (hC : Ck X V bc_Mo_drill 4 "SecretWellsModel" (some .int) 7 156) (x1 : Int32) (x2 : Int32) (x3 : Int32) (S : Mem) (h : f_Mo_drill_b0  x1 x2 x3 S = some z) : G X V 4 (QI X V z.1 z.2) 0 [some (.ref (V.2.2.1 0 0)), some (.int x1), some (.int x2), some (.int x3)] [] S := by
  unfold f_Mo_drill_b0 at h
  refine g_aload_n (pc := 0) hC (i := 0) (x := (V.2.2.1 0 0)) rfl rfl d_Mo_drill_0 ?_
  refine g_iload_n (pc := 1) hC (i := 1) (x := x1) rfl rfl d_Mo_drill_1 ?_
  refine g_iload_n (pc := 2) hC (i := 2) (x := x2) rfl rfl d_Mo_drill_2 ?_
  refine g_iload_n (pc := 3) hC (i := 3) (x := x3) rfl rfl d_Mo_drill_3 ?_
  refine g_aload_n (pc := 4) hC (i := 0) (x := (V.2.2.1 0 0)) rfl rfl d_Mo_drill_4 ?_
  refine g_getA (pc := 5) hC fo_Mo_92 (ob_Mo hV) rfl d_Mo_drill_5 ?_
  refine g_aload_n (pc := 8) hC (i := 0) (x := (V.2.2.1 0 0)) rfl rfl d_Mo_drill_8 ?_
  refine g_getI (pc := 9) hC fo_Mo_245 (ob_Mo hV) rfl d_Mo_drill_9 ?_
  refine g_iald (pc := 12) hC (ar_Mo_38 hV) d_Mo_drill_12 h (fun h => ?_)
  obtain ⟨q13, hq13, h⟩ := Option.bind_eq_some_iff.mp h
  refine g_vi (pc := 13) hC (As := [.int x1, .int x2, .int x3, .int (S.2.1 0 38 (S.1 0 18).toNatClampNeg)]) (st := []) mt_Mo_whispers lk_Mo_437 rfl (ob_Mo hV) (Nat.le_of_ble_eq_true rfl) ⟨Nat.le_of_ble_eq_true rfl, Nat.le_of_ble_eq_true rfl⟩ rfl d_Mo_drill_13 (c_Mo_whispers hV hq13) ?_
  exact g_iW (pc := 16) hC rfl d_Mo_drill_16 h
theorem c_Mo_drill {V : WV} {l : Launch} (hV : IsM V) {x1 : Int32} {x2 : Int32} {x3 : Int32} {S : Mem} {z : Int32 × Mem} (h : f_Mo_drill x1 x2 x3 S = some z) : CI V l y_Mo_drill bc_Mo_drill 4 (some .int) 7 156 [.ref (V.2.2.1 0 0), .int x1, .int x2, .int x3] S z.1 z.2 :=
  ct_i rfl (IsM.ok hV) (Nat.le_of_ble_eq_true rfl) (fun _ _ hC => w_Mo_drill_b0 hV hC x1 x2 x3 S h)
def f_Mo_tell_b0 (x1 : Int32) (x2 : Int32) (x3 : Int32) (S : Mem) : Option (Int32 × Mem) :=
  Option.bind (f_Mo_isMan x1 S) (fun q2 =>
  if q2 = 0 then
    some (0, S)
  else
    Option.bind (f_Mo_isMan x2 S) (fun q10 =>
    if q10 = 0 then
      some (0, S)
    else
      if x1 = x2 then
        some (0, S)
      else
        Option.bind (f_Mo_isSecret x3 S) (fun q23 =>
        if q23 = 0 then
          some (0, S)
        else
          Option.bind (f_Mo_copies S) (fun q32 =>
          Option.bind (f_Mo_isAlive x1 q32) (fun q37 =>
          if q37 = 0 then
            some (0, q32)
          else
            Option.bind (f_Mo_isAlive x2 q32) (fun q45 =>
            if q45 = 0 then
              some (0, q32)
            else
              Option.bind (f_Mo_knows x1 x3 q32) (fun q54 =>
              if q54 = 0 then
                some (0, q32)
              else
                Option.bind (f_Mo_knows x2 x3 q32) (fun q63 =>
                if q63 = 0 then
                  gIn (26 + x2) 40 (
                  gIn (26 + x2) 40 (letS (sA q32 0 57 (26 + x2) ((q32.2.1 0 57 (26 + x2).toNatClampNeg) ||| ((1 : Int32) <<< (x3 &&& 31)))) (fun S85 =>
                  Option.bind (f_Mo_cutsWater S85) (fun q87 =>
                  Option.bind (f_Mo_keeps q87) (fun q91 =>
                  some (1, q91))))))
                else
                  some (0, q32)))))))))
def f_Mo_tell (x1 : Int32) (x2 : Int32) (x3 : Int32) (S : Mem) : Option (Int32 × Mem) := f_Mo_tell_b0  x1 x2 x3 S
theorem d_Mo_tell_0 : decode bc_Mo_tell 0 = .ok (.aload_n 0, 1) := by decide +kernel
theorem d_Mo_tell_1 : decode bc_Mo_tell 1 = .ok (.iload_n 1, 1) := by decide +kernel
theorem d_Mo_tell_2 : decode bc_Mo_tell 2 = .ok (.invokevirtual 425, 3) := by decide +kernel
theorem d_Mo_tell_5 : decode bc_Mo_tell 5 = .ok (.ifCond .eq 24, 3) := by decide +kernel
theorem d_Mo_tell_8 : decode bc_Mo_tell 8 = .ok (.aload_n 0, 1) := by decide +kernel
theorem d_Mo_tell_9 : decode bc_Mo_tell 9 = .ok (.iload_n 2, 1) := by decide +kernel
theorem d_Mo_tell_10 : decode bc_Mo_tell 10 = .ok (.invokevirtual 425, 3) := by decide +kernel
theorem d_Mo_tell_13 : decode bc_Mo_tell 13 = .ok (.ifCond .eq 16, 3) := by decide +kernel
theorem d_Mo_tell_16 : decode bc_Mo_tell 16 = .ok (.iload_n 1, 1) := by decide +kernel
theorem d_Mo_tell_17 : decode bc_Mo_tell 17 = .ok (.iload_n 2, 1) := by decide +kernel
theorem d_Mo_tell_18 : decode bc_Mo_tell 18 = .ok (.if_icmp .eq 11, 3) := by decide +kernel
theorem d_Mo_tell_21 : decode bc_Mo_tell 21 = .ok (.aload_n 0, 1) := by decide +kernel
theorem d_Mo_tell_22 : decode bc_Mo_tell 22 = .ok (.iload_n 3, 1) := by decide +kernel
theorem d_Mo_tell_23 : decode bc_Mo_tell 23 = .ok (.invokevirtual 428, 3) := by decide +kernel
theorem d_Mo_tell_26 : decode bc_Mo_tell 26 = .ok (.ifCond .ne 5, 3) := by decide +kernel
theorem d_Mo_tell_29 : decode bc_Mo_tell 29 = .ok (.iconst 0, 1) := by decide +kernel
theorem d_Mo_tell_30 : decode bc_Mo_tell 30 = .ok (.ireturn, 1) := by decide +kernel
theorem d_Mo_tell_31 : decode bc_Mo_tell 31 = .ok (.aload_n 0, 1) := by decide +kernel
theorem d_Mo_tell_32 : decode bc_Mo_tell 32 = .ok (.invokevirtual 422, 3) := by decide +kernel
theorem d_Mo_tell_35 : decode bc_Mo_tell 35 = .ok (.aload_n 0, 1) := by decide +kernel
theorem d_Mo_tell_36 : decode bc_Mo_tell 36 = .ok (.iload_n 1, 1) := by decide +kernel
theorem d_Mo_tell_37 : decode bc_Mo_tell 37 = .ok (.invokevirtual 367, 3) := by decide +kernel
theorem d_Mo_tell_40 : decode bc_Mo_tell 40 = .ok (.ifCond .eq 29, 3) := by decide +kernel
theorem d_Mo_tell_43 : decode bc_Mo_tell 43 = .ok (.aload_n 0, 1) := by decide +kernel
theorem d_Mo_tell_44 : decode bc_Mo_tell 44 = .ok (.iload_n 2, 1) := by decide +kernel
theorem d_Mo_tell_45 : decode bc_Mo_tell 45 = .ok (.invokevirtual 367, 3) := by decide +kernel
theorem d_Mo_tell_48 : decode bc_Mo_tell 48 = .ok (.ifCond .eq 21, 3) := by decide +kernel
theorem d_Mo_tell_51 : decode bc_Mo_tell 51 = .ok (.aload_n 0, 1) := by decide +kernel
theorem d_Mo_tell_52 : decode bc_Mo_tell 52 = .ok (.iload_n 1, 1) := by decide +kernel
theorem d_Mo_tell_53 : decode bc_Mo_tell 53 = .ok (.iload_n 3, 1) := by decide +kernel
theorem d_Mo_tell_54 : decode bc_Mo_tell 54 = .ok (.invokevirtual 342, 3) := by decide +kernel
theorem d_Mo_tell_57 : decode bc_Mo_tell 57 = .ok (.ifCond .eq 12, 3) := by decide +kernel
theorem d_Mo_tell_60 : decode bc_Mo_tell 60 = .ok (.aload_n 0, 1) := by decide +kernel
theorem d_Mo_tell_61 : decode bc_Mo_tell 61 = .ok (.iload_n 2, 1) := by decide +kernel
theorem d_Mo_tell_62 : decode bc_Mo_tell 62 = .ok (.iload_n 3, 1) := by decide +kernel
theorem d_Mo_tell_63 : decode bc_Mo_tell 63 = .ok (.invokevirtual 342, 3) := by decide +kernel
theorem d_Mo_tell_66 : decode bc_Mo_tell 66 = .ok (.ifCond .eq 5, 3) := by decide +kernel
theorem d_Mo_tell_69 : decode bc_Mo_tell 69 = .ok (.iconst 0, 1) := by decide +kernel
theorem d_Mo_tell_70 : decode bc_Mo_tell 70 = .ok (.ireturn, 1) := by decide +kernel
theorem d_Mo_tell_71 : decode bc_Mo_tell 71 = .ok (.aload_n 0, 1) := by decide +kernel
theorem d_Mo_tell_72 : decode bc_Mo_tell 72 = .ok (.getfield 137, 3) := by decide +kernel
theorem d_Mo_tell_75 : decode bc_Mo_tell 75 = .ok (.bipush 26, 2) := by decide +kernel
theorem d_Mo_tell_77 : decode bc_Mo_tell 77 = .ok (.iload_n 2, 1) := by decide +kernel
theorem d_Mo_tell_78 : decode bc_Mo_tell 78 = .ok (.iadd, 1) := by decide +kernel
theorem d_Mo_tell_79 : decode bc_Mo_tell 79 = .ok (.dup2, 1) := by decide +kernel
theorem d_Mo_tell_80 : decode bc_Mo_tell 80 = .ok (.iaload, 1) := by decide +kernel
theorem d_Mo_tell_81 : decode bc_Mo_tell 81 = .ok (.iconst 1, 1) := by decide +kernel
theorem d_Mo_tell_82 : decode bc_Mo_tell 82 = .ok (.iload_n 3, 1) := by decide +kernel
theorem d_Mo_tell_83 : decode bc_Mo_tell 83 = .ok (.ishl, 1) := by decide +kernel
theorem d_Mo_tell_84 : decode bc_Mo_tell 84 = .ok (.ior, 1) := by decide +kernel
theorem d_Mo_tell_85 : decode bc_Mo_tell 85 = .ok (.iastore, 1) := by decide +kernel
theorem d_Mo_tell_86 : decode bc_Mo_tell 86 = .ok (.aload_n 0, 1) := by decide +kernel
theorem d_Mo_tell_87 : decode bc_Mo_tell 87 = .ok (.invokevirtual 339, 3) := by decide +kernel
theorem d_Mo_tell_90 : decode bc_Mo_tell 90 = .ok (.aload_n 0, 1) := by decide +kernel
theorem d_Mo_tell_91 : decode bc_Mo_tell 91 = .ok (.invokevirtual 434, 3) := by decide +kernel
theorem d_Mo_tell_94 : decode bc_Mo_tell 94 = .ok (.iconst 1, 1) := by decide +kernel
theorem d_Mo_tell_95 : decode bc_Mo_tell 95 = .ok (.ireturn, 1) := by decide +kernel
set_option maxRecDepth 20000 in
theorem w_Mo_tell_b0 {X : CX} {V : WV} (hV : IsM V) {z : Int32 × Mem} (hC : Ck X V bc_Mo_tell 4 "SecretWellsModel" (some .boolean) 6 132) (x1 : Int32) (x2 : Int32) (x3 : Int32) (S : Mem) (h : f_Mo_tell_b0  x1 x2 x3 S = some z) : G X V 4 (QI X V z.1 z.2) 0 [some (.ref (V.2.2.1 0 0)), some (.int x1), some (.int x2), some (.int x3)] [] S := by
  unfold f_Mo_tell_b0 at h
  refine g_aload_n (pc := 0) hC (i := 0) (x := (V.2.2.1 0 0)) rfl rfl d_Mo_tell_0 ?_
  refine g_iload_n (pc := 1) hC (i := 1) (x := x1) rfl rfl d_Mo_tell_1 ?_
  obtain ⟨q2, hq2, h⟩ := Option.bind_eq_some_iff.mp h
  refine g_vi (pc := 2) hC (As := [.int x1]) (st := []) mt_Mo_isMan lk_Mo_425 rfl (ob_Mo hV) (Nat.le_of_ble_eq_true rfl) ⟨Nat.le_of_ble_eq_true rfl, Nat.le_of_ble_eq_true rfl⟩ rfl d_Mo_tell_2 (c_Mo_isMan hV hq2) ?_
  refine g_if_eq (pc := 5) hC (tgt := 29) (by decide) d_Mo_tell_5 h (fun h => ?_) (fun h => ?_)
  · refine g_iconst (pc := 29) hC kc_0 d_Mo_tell_29 ?_
    exact g_iW (pc := 30) hC rfl d_Mo_tell_30 h
  · refine g_aload_n (pc := 8) hC (i := 0) (x := (V.2.2.1 0 0)) rfl rfl d_Mo_tell_8 ?_
    refine g_iload_n (pc := 9) hC (i := 2) (x := x2) rfl rfl d_Mo_tell_9 ?_
    obtain ⟨q10, hq10, h⟩ := Option.bind_eq_some_iff.mp h
    refine g_vi (pc := 10) hC (As := [.int x2]) (st := []) mt_Mo_isMan lk_Mo_425 rfl (ob_Mo hV) (Nat.le_of_ble_eq_true rfl) ⟨Nat.le_of_ble_eq_true rfl, Nat.le_of_ble_eq_true rfl⟩ rfl d_Mo_tell_10 (c_Mo_isMan hV hq10) ?_
    refine g_if_eq (pc := 13) hC (tgt := 29) (by decide) d_Mo_tell_13 h (fun h => ?_) (fun h => ?_)
    · refine g_iconst (pc := 29) hC kc_0 d_Mo_tell_29 ?_
      exact g_iW (pc := 30) hC rfl d_Mo_tell_30 h
    · refine g_iload_n (pc := 16) hC (i := 1) (x := x1) rfl rfl d_Mo_tell_16 ?_
      refine g_iload_n (pc := 17) hC (i := 2) (x := x2) rfl rfl d_Mo_tell_17 ?_
      refine g_icmp_eq (pc := 18) hC (tgt := 29) (by decide) d_Mo_tell_18 h (fun h => ?_) (fun h => ?_)
      · refine g_iconst (pc := 29) hC kc_0 d_Mo_tell_29 ?_
        exact g_iW (pc := 30) hC rfl d_Mo_tell_30 h
      · refine g_aload_n (pc := 21) hC (i := 0) (x := (V.2.2.1 0 0)) rfl rfl d_Mo_tell_21 ?_
        refine g_iload_n (pc := 22) hC (i := 3) (x := x3) rfl rfl d_Mo_tell_22 ?_
        obtain ⟨q23, hq23, h⟩ := Option.bind_eq_some_iff.mp h
        refine g_vi (pc := 23) hC (As := [.int x3]) (st := []) mt_Mo_isSecret lk_Mo_428 rfl (ob_Mo hV) (Nat.le_of_ble_eq_true rfl) ⟨Nat.le_of_ble_eq_true rfl, Nat.le_of_ble_eq_true rfl⟩ rfl d_Mo_tell_23 (c_Mo_isSecret hV hq23) ?_
        refine g_if_ne (pc := 26) hC (tgt := 31) (by decide) d_Mo_tell_26 h (fun h => ?_) (fun h => ?_)
        · refine g_aload_n (pc := 31) hC (i := 0) (x := (V.2.2.1 0 0)) rfl rfl d_Mo_tell_31 ?_
          obtain ⟨q32, hq32, h⟩ := Option.bind_eq_some_iff.mp h
          refine g_vv (pc := 32) hC (As := []) (st := []) mt_Mo_copies lk_Mo_422 rfl (ob_Mo hV) (Nat.le_of_ble_eq_true rfl) ⟨Nat.le_of_ble_eq_true rfl, Nat.le_of_ble_eq_true rfl⟩ rfl d_Mo_tell_32 (c_Mo_copies hV hq32) ?_
          refine g_aload_n (pc := 35) hC (i := 0) (x := (V.2.2.1 0 0)) rfl rfl d_Mo_tell_35 ?_
          refine g_iload_n (pc := 36) hC (i := 1) (x := x1) rfl rfl d_Mo_tell_36 ?_
          obtain ⟨q37, hq37, h⟩ := Option.bind_eq_some_iff.mp h
          refine g_vi (pc := 37) hC (As := [.int x1]) (st := []) mt_Mo_isAlive lk_Mo_367 rfl (ob_Mo hV) (Nat.le_of_ble_eq_true rfl) ⟨Nat.le_of_ble_eq_true rfl, Nat.le_of_ble_eq_true rfl⟩ rfl d_Mo_tell_37 (c_Mo_isAlive hV hq37) ?_
          refine g_if_eq (pc := 40) hC (tgt := 69) (by decide) d_Mo_tell_40 h (fun h => ?_) (fun h => ?_)
          · refine g_iconst (pc := 69) hC kc_0 d_Mo_tell_69 ?_
            exact g_iW (pc := 70) hC rfl d_Mo_tell_70 h
          · refine g_aload_n (pc := 43) hC (i := 0) (x := (V.2.2.1 0 0)) rfl rfl d_Mo_tell_43 ?_
            refine g_iload_n (pc := 44) hC (i := 2) (x := x2) rfl rfl d_Mo_tell_44 ?_
            obtain ⟨q45, hq45, h⟩ := Option.bind_eq_some_iff.mp h
            refine g_vi (pc := 45) hC (As := [.int x2]) (st := []) mt_Mo_isAlive lk_Mo_367 rfl (ob_Mo hV) (Nat.le_of_ble_eq_true rfl) ⟨Nat.le_of_ble_eq_true rfl, Nat.le_of_ble_eq_true rfl⟩ rfl d_Mo_tell_45 (c_Mo_isAlive hV hq45) ?_
            refine g_if_eq (pc := 48) hC (tgt := 69) (by decide) d_Mo_tell_48 h (fun h => ?_) (fun h => ?_)
            · refine g_iconst (pc := 69) hC kc_0 d_Mo_tell_69 ?_
              exact g_iW (pc := 70) hC rfl d_Mo_tell_70 h
            · refine g_aload_n (pc := 51) hC (i := 0) (x := (V.2.2.1 0 0)) rfl rfl d_Mo_tell_51 ?_
              refine g_iload_n (pc := 52) hC (i := 1) (x := x1) rfl rfl d_Mo_tell_52 ?_
              refine g_iload_n (pc := 53) hC (i := 3) (x := x3) rfl rfl d_Mo_tell_53 ?_
              obtain ⟨q54, hq54, h⟩ := Option.bind_eq_some_iff.mp h
              refine g_vi (pc := 54) hC (As := [.int x1, .int x3]) (st := []) mt_Mo_knows lk_Mo_342 rfl (ob_Mo hV) (Nat.le_of_ble_eq_true rfl) ⟨Nat.le_of_ble_eq_true rfl, Nat.le_of_ble_eq_true rfl⟩ rfl d_Mo_tell_54 (c_Mo_knows hV hq54) ?_
              refine g_if_eq (pc := 57) hC (tgt := 69) (by decide) d_Mo_tell_57 h (fun h => ?_) (fun h => ?_)
              · refine g_iconst (pc := 69) hC kc_0 d_Mo_tell_69 ?_
                exact g_iW (pc := 70) hC rfl d_Mo_tell_70 h
              · refine g_aload_n (pc := 60) hC (i := 0) (x := (V.2.2.1 0 0)) rfl rfl d_Mo_tell_60 ?_
                refine g_iload_n (pc := 61) hC (i := 2) (x := x2) rfl rfl d_Mo_tell_61 ?_
                refine g_iload_n (pc := 62) hC (i := 3) (x := x3) rfl rfl d_Mo_tell_62 ?_
                obtain ⟨q63, hq63, h⟩ := Option.bind_eq_some_iff.mp h
                refine g_vi (pc := 63) hC (As := [.int x2, .int x3]) (st := []) mt_Mo_knows lk_Mo_342 rfl (ob_Mo hV) (Nat.le_of_ble_eq_true rfl) ⟨Nat.le_of_ble_eq_true rfl, Nat.le_of_ble_eq_true rfl⟩ rfl d_Mo_tell_63 (c_Mo_knows hV hq63) ?_
                refine g_if_eq (pc := 66) hC (tgt := 71) (by decide) d_Mo_tell_66 h (fun h => ?_) (fun h => ?_)
                · refine g_aload_n (pc := 71) hC (i := 0) (x := (V.2.2.1 0 0)) rfl rfl d_Mo_tell_71 ?_
                  refine g_getA (pc := 72) hC fo_Mo_137 (ob_Mo hV) rfl d_Mo_tell_72 ?_
                  refine g_bipush (pc := 75) hC kb_26 d_Mo_tell_75 ?_
                  refine g_iload_n (pc := 77) hC (i := 2) (x := x2) rfl rfl d_Mo_tell_77 ?_
                  refine g_iadd (pc := 78) hC d_Mo_tell_78 ?_
                  refine g_dup2 (pc := 79) hC rfl rfl d_Mo_tell_79 ?_
                  refine g_iald (pc := 80) hC (ar_Mo_57 hV) d_Mo_tell_80 h (fun h => ?_)
                  refine g_iconst (pc := 81) hC kc_1 d_Mo_tell_81 ?_
                  refine g_iload_n (pc := 82) hC (i := 3) (x := x3) rfl rfl d_Mo_tell_82 ?_
                  refine g_ishl (pc := 83) hC d_Mo_tell_83 ?_
                  refine g_ior (pc := 84) hC d_Mo_tell_84 ?_
                  refine g_iast (pc := 85) hC (ar_Mo_57 hV) d_Mo_tell_85 h (fun h => ?_)
                  refine g_letS h (fun S85 h => ?_)
                  refine g_aload_n (pc := 86) hC (i := 0) (x := (V.2.2.1 0 0)) rfl rfl d_Mo_tell_86 ?_
                  obtain ⟨q87, hq87, h⟩ := Option.bind_eq_some_iff.mp h
                  refine g_vv (pc := 87) hC (As := []) (st := []) mt_Mo_cutsWater lk_Mo_339 rfl (ob_Mo hV) (Nat.le_of_ble_eq_true rfl) ⟨Nat.le_of_ble_eq_true rfl, Nat.le_of_ble_eq_true rfl⟩ rfl d_Mo_tell_87 (c_Mo_cutsWater hV hq87) ?_
                  refine g_aload_n (pc := 90) hC (i := 0) (x := (V.2.2.1 0 0)) rfl rfl d_Mo_tell_90 ?_
                  obtain ⟨q91, hq91, h⟩ := Option.bind_eq_some_iff.mp h
                  refine g_vv (pc := 91) hC (As := []) (st := []) mt_Mo_keeps lk_Mo_434 rfl (ob_Mo hV) (Nat.le_of_ble_eq_true rfl) ⟨Nat.le_of_ble_eq_true rfl, Nat.le_of_ble_eq_true rfl⟩ rfl d_Mo_tell_91 (c_Mo_keeps hV hq91) ?_
                  refine g_iconst (pc := 94) hC kc_1 d_Mo_tell_94 ?_
                  exact g_iW (pc := 95) hC rfl d_Mo_tell_95 h
                · refine g_iconst (pc := 69) hC kc_0 d_Mo_tell_69 ?_
                  exact g_iW (pc := 70) hC rfl d_Mo_tell_70 h
        · refine g_iconst (pc := 29) hC kc_0 d_Mo_tell_29 ?_
          exact g_iW (pc := 30) hC rfl d_Mo_tell_30 h
theorem c_Mo_tell {V : WV} {l : Launch} (hV : IsM V) {x1 : Int32} {x2 : Int32} {x3 : Int32} {S : Mem} {z : Int32 × Mem} (h : f_Mo_tell x1 x2 x3 S = some z) : CI V l y_Mo_tell bc_Mo_tell 4 (some .boolean) 6 132 [.ref (V.2.2.1 0 0), .int x1, .int x2, .int x3] S z.1 z.2 :=
  ct_i rfl (IsM.ok hV) (Nat.le_of_ble_eq_true rfl) (fun _ _ hC => w_Mo_tell_b0 hV hC x1 x2 x3 S h)
def f_Mo_go_b0 (x1 : Int32) (x2 : Int32) (S : Mem) : Option (Int32 × Mem) :=
  Option.bind (f_Mo_isMan x1 S) (fun q2 =>
  if q2 = 0 then
    some (0, S)
  else
    Option.bind (f_Mo_isWell x2 S) (fun q10 =>
    if q10 = 0 then
      some (0, S)
    else
      Option.bind (f_Mo_copies S) (fun q19 =>
      Option.bind (f_Mo_isAlive x1 q19) (fun q24 =>
      if q24 = 0 then
        some (0, q19)
      else
        gIn (12 + x1) 40 (
        if (q19.2.1 0 57 (12 + x1).toNatClampNeg) = x2 then
          some (0, q19)
        else
          gIn (12 + x1) 40 (letS (sA q19 0 57 (12 + x1) x2) (fun S54 =>
          Option.bind (f_Mo_keeps S54) (fun q56 =>
          some (1, q56)))))))))
def f_Mo_go (x1 : Int32) (x2 : Int32) (S : Mem) : Option (Int32 × Mem) := f_Mo_go_b0  x1 x2 S
theorem d_Mo_go_0 : decode bc_Mo_go 0 = .ok (.aload_n 0, 1) := by decide +kernel
theorem d_Mo_go_1 : decode bc_Mo_go 1 = .ok (.iload_n 1, 1) := by decide +kernel
theorem d_Mo_go_2 : decode bc_Mo_go 2 = .ok (.invokevirtual 425, 3) := by decide +kernel
theorem d_Mo_go_5 : decode bc_Mo_go 5 = .ok (.ifCond .eq 11, 3) := by decide +kernel
theorem d_Mo_go_8 : decode bc_Mo_go 8 = .ok (.aload_n 0, 1) := by decide +kernel
theorem d_Mo_go_9 : decode bc_Mo_go 9 = .ok (.iload_n 2, 1) := by decide +kernel
theorem d_Mo_go_10 : decode bc_Mo_go 10 = .ok (.invokevirtual 419, 3) := by decide +kernel
theorem d_Mo_go_13 : decode bc_Mo_go 13 = .ok (.ifCond .ne 5, 3) := by decide +kernel
theorem d_Mo_go_16 : decode bc_Mo_go 16 = .ok (.iconst 0, 1) := by decide +kernel
theorem d_Mo_go_17 : decode bc_Mo_go 17 = .ok (.ireturn, 1) := by decide +kernel
theorem d_Mo_go_18 : decode bc_Mo_go 18 = .ok (.aload_n 0, 1) := by decide +kernel
theorem d_Mo_go_19 : decode bc_Mo_go 19 = .ok (.invokevirtual 422, 3) := by decide +kernel
theorem d_Mo_go_22 : decode bc_Mo_go 22 = .ok (.aload_n 0, 1) := by decide +kernel
theorem d_Mo_go_23 : decode bc_Mo_go 23 = .ok (.iload_n 1, 1) := by decide +kernel
theorem d_Mo_go_24 : decode bc_Mo_go 24 = .ok (.invokevirtual 367, 3) := by decide +kernel
theorem d_Mo_go_27 : decode bc_Mo_go 27 = .ok (.ifCond .eq 16, 3) := by decide +kernel
theorem d_Mo_go_30 : decode bc_Mo_go 30 = .ok (.aload_n 0, 1) := by decide +kernel
theorem d_Mo_go_31 : decode bc_Mo_go 31 = .ok (.getfield 137, 3) := by decide +kernel
theorem d_Mo_go_34 : decode bc_Mo_go 34 = .ok (.bipush 12, 2) := by decide +kernel
theorem d_Mo_go_36 : decode bc_Mo_go 36 = .ok (.iload_n 1, 1) := by decide +kernel
theorem d_Mo_go_37 : decode bc_Mo_go 37 = .ok (.iadd, 1) := by decide +kernel
theorem d_Mo_go_38 : decode bc_Mo_go 38 = .ok (.iaload, 1) := by decide +kernel
theorem d_Mo_go_39 : decode bc_Mo_go 39 = .ok (.iload_n 2, 1) := by decide +kernel
theorem d_Mo_go_40 : decode bc_Mo_go 40 = .ok (.if_icmp .ne 5, 3) := by decide +kernel
theorem d_Mo_go_43 : decode bc_Mo_go 43 = .ok (.iconst 0, 1) := by decide +kernel
theorem d_Mo_go_44 : decode bc_Mo_go 44 = .ok (.ireturn, 1) := by decide +kernel
theorem d_Mo_go_45 : decode bc_Mo_go 45 = .ok (.aload_n 0, 1) := by decide +kernel
theorem d_Mo_go_46 : decode bc_Mo_go 46 = .ok (.getfield 137, 3) := by decide +kernel
theorem d_Mo_go_49 : decode bc_Mo_go 49 = .ok (.bipush 12, 2) := by decide +kernel
theorem d_Mo_go_51 : decode bc_Mo_go 51 = .ok (.iload_n 1, 1) := by decide +kernel
theorem d_Mo_go_52 : decode bc_Mo_go 52 = .ok (.iadd, 1) := by decide +kernel
theorem d_Mo_go_53 : decode bc_Mo_go 53 = .ok (.iload_n 2, 1) := by decide +kernel
theorem d_Mo_go_54 : decode bc_Mo_go 54 = .ok (.iastore, 1) := by decide +kernel
theorem d_Mo_go_55 : decode bc_Mo_go 55 = .ok (.aload_n 0, 1) := by decide +kernel
theorem d_Mo_go_56 : decode bc_Mo_go 56 = .ok (.invokevirtual 434, 3) := by decide +kernel
theorem d_Mo_go_59 : decode bc_Mo_go 59 = .ok (.iconst 1, 1) := by decide +kernel
theorem d_Mo_go_60 : decode bc_Mo_go 60 = .ok (.ireturn, 1) := by decide +kernel
set_option maxRecDepth 20000 in
theorem w_Mo_go_b0 {X : CX} {V : WV} (hV : IsM V) {z : Int32 × Mem} (hC : Ck X V bc_Mo_go 3 "SecretWellsModel" (some .boolean) 2 43) (x1 : Int32) (x2 : Int32) (S : Mem) (h : f_Mo_go_b0  x1 x2 S = some z) : G X V 3 (QI X V z.1 z.2) 0 [some (.ref (V.2.2.1 0 0)), some (.int x1), some (.int x2)] [] S := by
  unfold f_Mo_go_b0 at h
  refine g_aload_n (pc := 0) hC (i := 0) (x := (V.2.2.1 0 0)) rfl rfl d_Mo_go_0 ?_
  refine g_iload_n (pc := 1) hC (i := 1) (x := x1) rfl rfl d_Mo_go_1 ?_
  obtain ⟨q2, hq2, h⟩ := Option.bind_eq_some_iff.mp h
  refine g_vi (pc := 2) hC (As := [.int x1]) (st := []) mt_Mo_isMan lk_Mo_425 rfl (ob_Mo hV) (Nat.le_of_ble_eq_true rfl) ⟨Nat.le_of_ble_eq_true rfl, Nat.le_of_ble_eq_true rfl⟩ rfl d_Mo_go_2 (c_Mo_isMan hV hq2) ?_
  refine g_if_eq (pc := 5) hC (tgt := 16) (by decide) d_Mo_go_5 h (fun h => ?_) (fun h => ?_)
  · refine g_iconst (pc := 16) hC kc_0 d_Mo_go_16 ?_
    exact g_iW (pc := 17) hC rfl d_Mo_go_17 h
  · refine g_aload_n (pc := 8) hC (i := 0) (x := (V.2.2.1 0 0)) rfl rfl d_Mo_go_8 ?_
    refine g_iload_n (pc := 9) hC (i := 2) (x := x2) rfl rfl d_Mo_go_9 ?_
    obtain ⟨q10, hq10, h⟩ := Option.bind_eq_some_iff.mp h
    refine g_vi (pc := 10) hC (As := [.int x2]) (st := []) mt_Mo_isWell lk_Mo_419 rfl (ob_Mo hV) (Nat.le_of_ble_eq_true rfl) ⟨Nat.le_of_ble_eq_true rfl, Nat.le_of_ble_eq_true rfl⟩ rfl d_Mo_go_10 (c_Mo_isWell hV hq10) ?_
    refine g_if_ne (pc := 13) hC (tgt := 18) (by decide) d_Mo_go_13 h (fun h => ?_) (fun h => ?_)
    · refine g_aload_n (pc := 18) hC (i := 0) (x := (V.2.2.1 0 0)) rfl rfl d_Mo_go_18 ?_
      obtain ⟨q19, hq19, h⟩ := Option.bind_eq_some_iff.mp h
      refine g_vv (pc := 19) hC (As := []) (st := []) mt_Mo_copies lk_Mo_422 rfl (ob_Mo hV) (Nat.le_of_ble_eq_true rfl) ⟨Nat.le_of_ble_eq_true rfl, Nat.le_of_ble_eq_true rfl⟩ rfl d_Mo_go_19 (c_Mo_copies hV hq19) ?_
      refine g_aload_n (pc := 22) hC (i := 0) (x := (V.2.2.1 0 0)) rfl rfl d_Mo_go_22 ?_
      refine g_iload_n (pc := 23) hC (i := 1) (x := x1) rfl rfl d_Mo_go_23 ?_
      obtain ⟨q24, hq24, h⟩ := Option.bind_eq_some_iff.mp h
      refine g_vi (pc := 24) hC (As := [.int x1]) (st := []) mt_Mo_isAlive lk_Mo_367 rfl (ob_Mo hV) (Nat.le_of_ble_eq_true rfl) ⟨Nat.le_of_ble_eq_true rfl, Nat.le_of_ble_eq_true rfl⟩ rfl d_Mo_go_24 (c_Mo_isAlive hV hq24) ?_
      refine g_if_eq (pc := 27) hC (tgt := 43) (by decide) d_Mo_go_27 h (fun h => ?_) (fun h => ?_)
      · refine g_iconst (pc := 43) hC kc_0 d_Mo_go_43 ?_
        exact g_iW (pc := 44) hC rfl d_Mo_go_44 h
      · refine g_aload_n (pc := 30) hC (i := 0) (x := (V.2.2.1 0 0)) rfl rfl d_Mo_go_30 ?_
        refine g_getA (pc := 31) hC fo_Mo_137 (ob_Mo hV) rfl d_Mo_go_31 ?_
        refine g_bipush (pc := 34) hC kb_12 d_Mo_go_34 ?_
        refine g_iload_n (pc := 36) hC (i := 1) (x := x1) rfl rfl d_Mo_go_36 ?_
        refine g_iadd (pc := 37) hC d_Mo_go_37 ?_
        refine g_iald (pc := 38) hC (ar_Mo_57 hV) d_Mo_go_38 h (fun h => ?_)
        refine g_iload_n (pc := 39) hC (i := 2) (x := x2) rfl rfl d_Mo_go_39 ?_
        refine g_icmp_ne (pc := 40) hC (tgt := 45) (by decide) d_Mo_go_40 h (fun h => ?_) (fun h => ?_)
        · refine g_aload_n (pc := 45) hC (i := 0) (x := (V.2.2.1 0 0)) rfl rfl d_Mo_go_45 ?_
          refine g_getA (pc := 46) hC fo_Mo_137 (ob_Mo hV) rfl d_Mo_go_46 ?_
          refine g_bipush (pc := 49) hC kb_12 d_Mo_go_49 ?_
          refine g_iload_n (pc := 51) hC (i := 1) (x := x1) rfl rfl d_Mo_go_51 ?_
          refine g_iadd (pc := 52) hC d_Mo_go_52 ?_
          refine g_iload_n (pc := 53) hC (i := 2) (x := x2) rfl rfl d_Mo_go_53 ?_
          refine g_iast (pc := 54) hC (ar_Mo_57 hV) d_Mo_go_54 h (fun h => ?_)
          refine g_letS h (fun S54 h => ?_)
          refine g_aload_n (pc := 55) hC (i := 0) (x := (V.2.2.1 0 0)) rfl rfl d_Mo_go_55 ?_
          obtain ⟨q56, hq56, h⟩ := Option.bind_eq_some_iff.mp h
          refine g_vv (pc := 56) hC (As := []) (st := []) mt_Mo_keeps lk_Mo_434 rfl (ob_Mo hV) (Nat.le_of_ble_eq_true rfl) ⟨Nat.le_of_ble_eq_true rfl, Nat.le_of_ble_eq_true rfl⟩ rfl d_Mo_go_56 (c_Mo_keeps hV hq56) ?_
          refine g_iconst (pc := 59) hC kc_1 d_Mo_go_59 ?_
          exact g_iW (pc := 60) hC rfl d_Mo_go_60 h
        · refine g_iconst (pc := 43) hC kc_0 d_Mo_go_43 ?_
          exact g_iW (pc := 44) hC rfl d_Mo_go_44 h
    · refine g_iconst (pc := 16) hC kc_0 d_Mo_go_16 ?_
      exact g_iW (pc := 17) hC rfl d_Mo_go_17 h
theorem c_Mo_go {V : WV} {l : Launch} (hV : IsM V) {x1 : Int32} {x2 : Int32} {S : Mem} {z : Int32 × Mem} (h : f_Mo_go x1 x2 S = some z) : CI V l y_Mo_go bc_Mo_go 3 (some .boolean) 2 43 [.ref (V.2.2.1 0 0), .int x1, .int x2] S z.1 z.2 :=
  ct_i rfl (IsM.ok hV) (Nat.le_of_ble_eq_true rfl) (fun _ _ hC => w_Mo_go_b0 hV hC x1 x2 S h)
def f_Mo_cut_b39 (x1 : Int32) (x2 : Int32) (s0 : Int32) (S : Mem) : Option (Int32 × Mem) :=
  if s0 = x2 then
    some (0, S)
  else
    Option.bind (f_Mo_copies S) (fun q46 =>
    gIn 34 40 (
    gIn 34 40 (letS (sA q46 0 57 34 ((q46.2.1 0 57 (34 : Int32).toNatClampNeg) ^^^ ((1 : Int32) <<< (x1 &&& 31)))) (fun S61 =>
    Option.bind (f_Mo_keeps S61) (fun q63 =>
    some (1, q63))))))
def f_Mo_cut_b0 (x1 : Int32) (x2 : Int32) (S : Mem) : Option (Int32 × Mem) :=
  gIn (S.1 0 18) 2 (
  Option.bind (f_Mo_in x1 0 ((S.2.1 0 34 (S.1 0 18).toNatClampNeg) - 1)) (fun q13 =>
  if q13 = 0 then
    some (0, S)
  else
    gIn 34 40 (
    if (((S.2.1 0 56 (34 : Int32).toNatClampNeg) >>> (x1 &&& 31)) &&& 1) = 1 then
      f_Mo_cut_b39 x1 x2 1 S
    else
      f_Mo_cut_b39 x1 x2 0 S)))
def f_Mo_cut (x1 : Int32) (x2 : Int32) (S : Mem) : Option (Int32 × Mem) := f_Mo_cut_b0  x1 x2 S
theorem d_Mo_cut_0 : decode bc_Mo_cut 0 = .ok (.iload_n 1, 1) := by decide +kernel
theorem d_Mo_cut_1 : decode bc_Mo_cut 1 = .ok (.iconst 0, 1) := by decide +kernel
theorem d_Mo_cut_2 : decode bc_Mo_cut 2 = .ok (.aload_n 0, 1) := by decide +kernel
theorem d_Mo_cut_3 : decode bc_Mo_cut 3 = .ok (.getfield 80, 3) := by decide +kernel
theorem d_Mo_cut_6 : decode bc_Mo_cut 6 = .ok (.aload_n 0, 1) := by decide +kernel
theorem d_Mo_cut_7 : decode bc_Mo_cut 7 = .ok (.getfield 245, 3) := by decide +kernel
theorem d_Mo_cut_10 : decode bc_Mo_cut 10 = .ok (.iaload, 1) := by decide +kernel
theorem d_Mo_cut_11 : decode bc_Mo_cut 11 = .ok (.iconst 1, 1) := by decide +kernel
theorem d_Mo_cut_12 : decode bc_Mo_cut 12 = .ok (.isub, 1) := by decide +kernel
theorem d_Mo_cut_13 : decode bc_Mo_cut 13 = .ok (.invokestatic 332, 3) := by decide +kernel
theorem d_Mo_cut_16 : decode bc_Mo_cut 16 = .ok (.ifCond .eq 27, 3) := by decide +kernel
theorem d_Mo_cut_19 : decode bc_Mo_cut 19 = .ok (.aload_n 0, 1) := by decide +kernel
theorem d_Mo_cut_20 : decode bc_Mo_cut 20 = .ok (.getfield 134, 3) := by decide +kernel
theorem d_Mo_cut_23 : decode bc_Mo_cut 23 = .ok (.bipush 34, 2) := by decide +kernel
theorem d_Mo_cut_25 : decode bc_Mo_cut 25 = .ok (.iaload, 1) := by decide +kernel
theorem d_Mo_cut_26 : decode bc_Mo_cut 26 = .ok (.iload_n 1, 1) := by decide +kernel
theorem d_Mo_cut_27 : decode bc_Mo_cut 27 = .ok (.ishr, 1) := by decide +kernel
theorem d_Mo_cut_28 : decode bc_Mo_cut 28 = .ok (.iconst 1, 1) := by decide +kernel
theorem d_Mo_cut_29 : decode bc_Mo_cut 29 = .ok (.iand, 1) := by decide +kernel
theorem d_Mo_cut_30 : decode bc_Mo_cut 30 = .ok (.iconst 1, 1) := by decide +kernel
theorem d_Mo_cut_31 : decode bc_Mo_cut 31 = .ok (.if_icmp .ne 7, 3) := by decide +kernel
theorem d_Mo_cut_34 : decode bc_Mo_cut 34 = .ok (.iconst 1, 1) := by decide +kernel
theorem d_Mo_cut_35 : decode bc_Mo_cut 35 = .ok (.goto 4, 3) := by decide +kernel
theorem d_Mo_cut_38 : decode bc_Mo_cut 38 = .ok (.iconst 0, 1) := by decide +kernel
theorem d_Mo_cut_39 : decode bc_Mo_cut 39 = .ok (.iload_n 2, 1) := by decide +kernel
theorem d_Mo_cut_40 : decode bc_Mo_cut 40 = .ok (.if_icmp .ne 5, 3) := by decide +kernel
theorem d_Mo_cut_43 : decode bc_Mo_cut 43 = .ok (.iconst 0, 1) := by decide +kernel
theorem d_Mo_cut_44 : decode bc_Mo_cut 44 = .ok (.ireturn, 1) := by decide +kernel
theorem d_Mo_cut_45 : decode bc_Mo_cut 45 = .ok (.aload_n 0, 1) := by decide +kernel
theorem d_Mo_cut_46 : decode bc_Mo_cut 46 = .ok (.invokevirtual 422, 3) := by decide +kernel
theorem d_Mo_cut_49 : decode bc_Mo_cut 49 = .ok (.aload_n 0, 1) := by decide +kernel
theorem d_Mo_cut_50 : decode bc_Mo_cut 50 = .ok (.getfield 137, 3) := by decide +kernel
theorem d_Mo_cut_53 : decode bc_Mo_cut 53 = .ok (.bipush 34, 2) := by decide +kernel
theorem d_Mo_cut_55 : decode bc_Mo_cut 55 = .ok (.dup2, 1) := by decide +kernel
theorem d_Mo_cut_56 : decode bc_Mo_cut 56 = .ok (.iaload, 1) := by decide +kernel
theorem d_Mo_cut_57 : decode bc_Mo_cut 57 = .ok (.iconst 1, 1) := by decide +kernel
theorem d_Mo_cut_58 : decode bc_Mo_cut 58 = .ok (.iload_n 1, 1) := by decide +kernel
theorem d_Mo_cut_59 : decode bc_Mo_cut 59 = .ok (.ishl, 1) := by decide +kernel
theorem d_Mo_cut_60 : decode bc_Mo_cut 60 = .ok (.ixor, 1) := by decide +kernel
theorem d_Mo_cut_61 : decode bc_Mo_cut 61 = .ok (.iastore, 1) := by decide +kernel
theorem d_Mo_cut_62 : decode bc_Mo_cut 62 = .ok (.aload_n 0, 1) := by decide +kernel
theorem d_Mo_cut_63 : decode bc_Mo_cut 63 = .ok (.invokevirtual 434, 3) := by decide +kernel
theorem d_Mo_cut_66 : decode bc_Mo_cut 66 = .ok (.iconst 1, 1) := by decide +kernel
theorem d_Mo_cut_67 : decode bc_Mo_cut 67 = .ok (.ireturn, 1) := by decide +kernel
set_option maxRecDepth 20000 in
theorem w_Mo_cut_b39 {X : CX} {V : WV} (hV : IsM V) {z : Int32 × Mem} (hC : Ck X V bc_Mo_cut 3 "SecretWellsModel" (some .boolean) 2 42) (x1 : Int32) (x2 : Int32) (s0 : Int32) (S : Mem) (h : f_Mo_cut_b39  x1 x2 s0 S = some z) : G X V 3 (QI X V z.1 z.2) 39 [some (.ref (V.2.2.1 0 0)), some (.int x1), some (.int x2)] [.int s0] S := by
  unfold f_Mo_cut_b39 at h
  refine g_iload_n (pc := 39) hC (i := 2) (x := x2) rfl rfl d_Mo_cut_39 ?_
  refine g_icmp_ne (pc := 40) hC (tgt := 45) (by decide) d_Mo_cut_40 h (fun h => ?_) (fun h => ?_)
  · refine g_aload_n (pc := 45) hC (i := 0) (x := (V.2.2.1 0 0)) rfl rfl d_Mo_cut_45 ?_
    obtain ⟨q46, hq46, h⟩ := Option.bind_eq_some_iff.mp h
    refine g_vv (pc := 46) hC (As := []) (st := []) mt_Mo_copies lk_Mo_422 rfl (ob_Mo hV) (Nat.le_of_ble_eq_true rfl) ⟨Nat.le_of_ble_eq_true rfl, Nat.le_of_ble_eq_true rfl⟩ rfl d_Mo_cut_46 (c_Mo_copies hV hq46) ?_
    refine g_aload_n (pc := 49) hC (i := 0) (x := (V.2.2.1 0 0)) rfl rfl d_Mo_cut_49 ?_
    refine g_getA (pc := 50) hC fo_Mo_137 (ob_Mo hV) rfl d_Mo_cut_50 ?_
    refine g_bipush (pc := 53) hC kb_34 d_Mo_cut_53 ?_
    refine g_dup2 (pc := 55) hC rfl rfl d_Mo_cut_55 ?_
    refine g_iald (pc := 56) hC (ar_Mo_57 hV) d_Mo_cut_56 h (fun h => ?_)
    refine g_iconst (pc := 57) hC kc_1 d_Mo_cut_57 ?_
    refine g_iload_n (pc := 58) hC (i := 1) (x := x1) rfl rfl d_Mo_cut_58 ?_
    refine g_ishl (pc := 59) hC d_Mo_cut_59 ?_
    refine g_ixor (pc := 60) hC d_Mo_cut_60 ?_
    refine g_iast (pc := 61) hC (ar_Mo_57 hV) d_Mo_cut_61 h (fun h => ?_)
    refine g_letS h (fun S61 h => ?_)
    refine g_aload_n (pc := 62) hC (i := 0) (x := (V.2.2.1 0 0)) rfl rfl d_Mo_cut_62 ?_
    obtain ⟨q63, hq63, h⟩ := Option.bind_eq_some_iff.mp h
    refine g_vv (pc := 63) hC (As := []) (st := []) mt_Mo_keeps lk_Mo_434 rfl (ob_Mo hV) (Nat.le_of_ble_eq_true rfl) ⟨Nat.le_of_ble_eq_true rfl, Nat.le_of_ble_eq_true rfl⟩ rfl d_Mo_cut_63 (c_Mo_keeps hV hq63) ?_
    refine g_iconst (pc := 66) hC kc_1 d_Mo_cut_66 ?_
    exact g_iW (pc := 67) hC rfl d_Mo_cut_67 h
  · refine g_iconst (pc := 43) hC kc_0 d_Mo_cut_43 ?_
    exact g_iW (pc := 44) hC rfl d_Mo_cut_44 h
set_option maxRecDepth 20000 in
theorem w_Mo_cut_b0 {X : CX} {V : WV} (hV : IsM V) {z : Int32 × Mem} (hC : Ck X V bc_Mo_cut 3 "SecretWellsModel" (some .boolean) 2 42) (x1 : Int32) (x2 : Int32) (S : Mem) (h : f_Mo_cut_b0  x1 x2 S = some z) : G X V 3 (QI X V z.1 z.2) 0 [some (.ref (V.2.2.1 0 0)), some (.int x1), some (.int x2)] [] S := by
  unfold f_Mo_cut_b0 at h
  refine g_iload_n (pc := 0) hC (i := 1) (x := x1) rfl rfl d_Mo_cut_0 ?_
  refine g_iconst (pc := 1) hC kc_0 d_Mo_cut_1 ?_
  refine g_aload_n (pc := 2) hC (i := 0) (x := (V.2.2.1 0 0)) rfl rfl d_Mo_cut_2 ?_
  refine g_getA (pc := 3) hC fo_Mo_80 (ob_Mo hV) rfl d_Mo_cut_3 ?_
  refine g_aload_n (pc := 6) hC (i := 0) (x := (V.2.2.1 0 0)) rfl rfl d_Mo_cut_6 ?_
  refine g_getI (pc := 7) hC fo_Mo_245 (ob_Mo hV) rfl d_Mo_cut_7 ?_
  refine g_iald (pc := 10) hC (ar_Mo_34 hV) d_Mo_cut_10 h (fun h => ?_)
  refine g_iconst (pc := 11) hC kc_1 d_Mo_cut_11 ?_
  refine g_isub (pc := 12) hC d_Mo_cut_12 ?_
  obtain ⟨q13, hq13, h⟩ := Option.bind_eq_some_iff.mp h
  refine g_si (pc := 13) hC (As := [.int x1, .int 0, .int ((S.2.1 0 34 (S.1 0 18).toNatClampNeg) - 1)]) (st := []) mt_Mo_in lk_Mo_332 (Nat.le_of_ble_eq_true rfl) ⟨Nat.le_of_ble_eq_true rfl, Nat.le_of_ble_eq_true rfl⟩ rfl d_Mo_cut_13 (c_Mo_in (IsM.ok hV) hq13) ?_
  refine g_if_eq (pc := 16) hC (tgt := 43) (by decide) d_Mo_cut_16 h (fun h => ?_) (fun h => ?_)
  · refine g_iconst (pc := 43) hC kc_0 d_Mo_cut_43 ?_
    exact g_iW (pc := 44) hC rfl d_Mo_cut_44 h
  · refine g_aload_n (pc := 19) hC (i := 0) (x := (V.2.2.1 0 0)) rfl rfl d_Mo_cut_19 ?_
    refine g_getA (pc := 20) hC fo_Mo_134 (ob_Mo hV) rfl d_Mo_cut_20 ?_
    refine g_bipush (pc := 23) hC kb_34 d_Mo_cut_23 ?_
    refine g_iald (pc := 25) hC (ar_Mo_56 hV) d_Mo_cut_25 h (fun h => ?_)
    refine g_iload_n (pc := 26) hC (i := 1) (x := x1) rfl rfl d_Mo_cut_26 ?_
    refine g_ishr (pc := 27) hC d_Mo_cut_27 ?_
    refine g_iconst (pc := 28) hC kc_1 d_Mo_cut_28 ?_
    refine g_iand (pc := 29) hC d_Mo_cut_29 ?_
    refine g_iconst (pc := 30) hC kc_1 d_Mo_cut_30 ?_
    refine g_icmp_ne (pc := 31) hC (tgt := 38) (by decide) d_Mo_cut_31 h (fun h => ?_) (fun h => ?_)
    · refine g_iconst (pc := 38) hC kc_0 d_Mo_cut_38 ?_
      exact w_Mo_cut_b39 hV hC x1 x2 0 S h
    · refine g_iconst (pc := 34) hC kc_1 d_Mo_cut_34 ?_
      refine g_goto (pc := 35) hC (tgt := 39) (by decide) d_Mo_cut_35 ?_
      exact w_Mo_cut_b39 hV hC x1 x2 1 S h
theorem c_Mo_cut {V : WV} {l : Launch} (hV : IsM V) {x1 : Int32} {x2 : Int32} {S : Mem} {z : Int32 × Mem} (h : f_Mo_cut x1 x2 S = some z) : CI V l y_Mo_cut bc_Mo_cut 3 (some .boolean) 2 42 [.ref (V.2.2.1 0 0), .int x1, .int x2] S z.1 z.2 :=
  ct_i rfl (IsM.ok hV) (Nat.le_of_ble_eq_true rfl) (fun _ _ hC => w_Mo_cut_b0 hV hC x1 x2 S h)
def f_Mo_undo_b21 (k21 : Int32 → Mem → Option (Int32 × Mem)) (x1 : Int32) (S : Mem) : Option (Int32 × Mem) :=
  if 40 ≤ x1 then
    some (1, S)
  else
    gIn ((40 * (S.1 0 60)) + x1) 1600 (
    gIn x1 40 (letS (sA S 0 56 x1 (S.2.1 0 61 ((40 * (S.1 0 60)) + x1).toNatClampNeg)) (fun S46 =>
    k21 (x1 + 1) S46)))
def f_Mo_undo_l21 : Nat → Int32 → Mem → Option (Int32 × Mem)
  | 0 => fun _ _ => none
  | n + 1 => f_Mo_undo_b21  (f_Mo_undo_l21  n)
def f_Mo_undo_b0 (S : Mem) : Option (Int32 × Mem) :=
  if (S.1 0 60) = 0 then
    some (0, S)
  else
    letS (pI S 0 60 ((S.1 0 60) - 1)) (fun S16 =>
    f_Mo_undo_l21 5000 0 S16)
def f_Mo_undo (S : Mem) : Option (Int32 × Mem) := f_Mo_undo_b0  S
theorem d_Mo_undo_0 : decode bc_Mo_undo 0 = .ok (.aload_n 0, 1) := by decide +kernel
theorem d_Mo_undo_1 : decode bc_Mo_undo 1 = .ok (.getfield 263, 3) := by decide +kernel
theorem d_Mo_undo_4 : decode bc_Mo_undo 4 = .ok (.ifCond .ne 5, 3) := by decide +kernel
theorem d_Mo_undo_7 : decode bc_Mo_undo 7 = .ok (.iconst 0, 1) := by decide +kernel
theorem d_Mo_undo_8 : decode bc_Mo_undo 8 = .ok (.ireturn, 1) := by decide +kernel
theorem d_Mo_undo_9 : decode bc_Mo_undo 9 = .ok (.aload_n 0, 1) := by decide +kernel
theorem d_Mo_undo_10 : decode bc_Mo_undo 10 = .ok (.dup, 1) := by decide +kernel
theorem d_Mo_undo_11 : decode bc_Mo_undo 11 = .ok (.getfield 263, 3) := by decide +kernel
theorem d_Mo_undo_14 : decode bc_Mo_undo 14 = .ok (.iconst 1, 1) := by decide +kernel
theorem d_Mo_undo_15 : decode bc_Mo_undo 15 = .ok (.isub, 1) := by decide +kernel
theorem d_Mo_undo_16 : decode bc_Mo_undo 16 = .ok (.putfield 263, 3) := by decide +kernel
theorem d_Mo_undo_19 : decode bc_Mo_undo 19 = .ok (.iconst 0, 1) := by decide +kernel
theorem d_Mo_undo_20 : decode bc_Mo_undo 20 = .ok (.istore_n 1, 1) := by decide +kernel
theorem d_Mo_undo_21 : decode bc_Mo_undo 21 = .ok (.iload_n 1, 1) := by decide +kernel
theorem d_Mo_undo_22 : decode bc_Mo_undo 22 = .ok (.bipush 40, 2) := by decide +kernel
theorem d_Mo_undo_24 : decode bc_Mo_undo 24 = .ok (.if_icmp .ge 29, 3) := by decide +kernel
theorem d_Mo_undo_27 : decode bc_Mo_undo 27 = .ok (.aload_n 0, 1) := by decide +kernel
theorem d_Mo_undo_28 : decode bc_Mo_undo 28 = .ok (.getfield 134, 3) := by decide +kernel
theorem d_Mo_undo_31 : decode bc_Mo_undo 31 = .ok (.iload_n 1, 1) := by decide +kernel
theorem d_Mo_undo_32 : decode bc_Mo_undo 32 = .ok (.aload_n 0, 1) := by decide +kernel
theorem d_Mo_undo_33 : decode bc_Mo_undo 33 = .ok (.getfield 143, 3) := by decide +kernel
theorem d_Mo_undo_36 : decode bc_Mo_undo 36 = .ok (.bipush 40, 2) := by decide +kernel
theorem d_Mo_undo_38 : decode bc_Mo_undo 38 = .ok (.aload_n 0, 1) := by decide +kernel
theorem d_Mo_undo_39 : decode bc_Mo_undo 39 = .ok (.getfield 263, 3) := by decide +kernel
theorem d_Mo_undo_42 : decode bc_Mo_undo 42 = .ok (.imul, 1) := by decide +kernel
theorem d_Mo_undo_43 : decode bc_Mo_undo 43 = .ok (.iload_n 1, 1) := by decide +kernel
theorem d_Mo_undo_44 : decode bc_Mo_undo 44 = .ok (.iadd, 1) := by decide +kernel
theorem d_Mo_undo_45 : decode bc_Mo_undo 45 = .ok (.iaload, 1) := by decide +kernel
theorem d_Mo_undo_46 : decode bc_Mo_undo 46 = .ok (.iastore, 1) := by decide +kernel
theorem d_Mo_undo_47 : decode bc_Mo_undo 47 = .ok (.iinc 1 1, 3) := by decide +kernel
theorem d_Mo_undo_50 : decode bc_Mo_undo 50 = .ok (.goto (-29), 3) := by decide +kernel
theorem d_Mo_undo_53 : decode bc_Mo_undo 53 = .ok (.iconst 1, 1) := by decide +kernel
theorem d_Mo_undo_54 : decode bc_Mo_undo 54 = .ok (.ireturn, 1) := by decide +kernel
set_option maxRecDepth 20000 in
theorem w_Mo_undo_b21 {X : CX} {V : WV} (hV : IsM V) {z : Int32 × Mem} (hC : Ck X V bc_Mo_undo 2 "SecretWellsModel" (some .boolean) 0 0) (k21 : Int32 → Mem → Option (Int32 × Mem)) (hk21 : ∀ (x1 : Int32) (S : Mem), k21 x1 S = some z → G X V 2 (QI X V z.1 z.2) 21 [some (.ref (V.2.2.1 0 0)), some (.int x1)] [] S) (x1 : Int32) (S : Mem) (h : f_Mo_undo_b21  k21 x1 S = some z) : G X V 2 (QI X V z.1 z.2) 21 [some (.ref (V.2.2.1 0 0)), some (.int x1)] [] S := by
  unfold f_Mo_undo_b21 at h
  refine g_iload_n (pc := 21) hC (i := 1) (x := x1) rfl rfl d_Mo_undo_21 ?_
  refine g_bipush (pc := 22) hC kb_40 d_Mo_undo_22 ?_
  refine g_icmp_ge (pc := 24) hC (tgt := 53) (by decide) d_Mo_undo_24 h (fun h => ?_) (fun h => ?_)
  · refine g_iconst (pc := 53) hC kc_1 d_Mo_undo_53 ?_
    exact g_iW (pc := 54) hC rfl d_Mo_undo_54 h
  · refine g_aload_n (pc := 27) hC (i := 0) (x := (V.2.2.1 0 0)) rfl rfl d_Mo_undo_27 ?_
    refine g_getA (pc := 28) hC fo_Mo_134 (ob_Mo hV) rfl d_Mo_undo_28 ?_
    refine g_iload_n (pc := 31) hC (i := 1) (x := x1) rfl rfl d_Mo_undo_31 ?_
    refine g_aload_n (pc := 32) hC (i := 0) (x := (V.2.2.1 0 0)) rfl rfl d_Mo_undo_32 ?_
    refine g_getA (pc := 33) hC fo_Mo_143 (ob_Mo hV) rfl d_Mo_undo_33 ?_
    refine g_bipush (pc := 36) hC kb_40 d_Mo_undo_36 ?_
    refine g_aload_n (pc := 38) hC (i := 0) (x := (V.2.2.1 0 0)) rfl rfl d_Mo_undo_38 ?_
    refine g_getI (pc := 39) hC fo_Mo_263 (ob_Mo hV) rfl d_Mo_undo_39 ?_
    refine g_imul (pc := 42) hC d_Mo_undo_42 ?_
    refine g_iload_n (pc := 43) hC (i := 1) (x := x1) rfl rfl d_Mo_undo_43 ?_
    refine g_iadd (pc := 44) hC d_Mo_undo_44 ?_
    refine g_iald (pc := 45) hC (ar_Mo_61 hV) d_Mo_undo_45 h (fun h => ?_)
    refine g_iast (pc := 46) hC (ar_Mo_56 hV) d_Mo_undo_46 h (fun h => ?_)
    refine g_letS h (fun S46 h => ?_)
    refine s_iinc (pc := 47) hC (i := 1) (x := x1) (v := x1 + 1) rfl (by rw [kc_1]) (by decide) d_Mo_undo_47 (lv2 := [some (.ref (V.2.2.1 0 0)), some (.int (x1 + 1))]) rfl ?_
    refine g_goto (pc := 50) hC (tgt := 21) (by decide) d_Mo_undo_50 ?_
    exact hk21 (x1 + 1) S46 h
theorem w_Mo_undo_l21 {X : CX} {V : WV} (hV : IsM V) {z : Int32 × Mem} (hC : Ck X V bc_Mo_undo 2 "SecretWellsModel" (some .boolean) 0 0) : ∀ (n : Nat) (x1 : Int32) (S : Mem), f_Mo_undo_l21  n x1 S = some z → G X V 2 (QI X V z.1 z.2) 21 [some (.ref (V.2.2.1 0 0)), some (.int x1)] [] S := by
  intro n
  induction n with
  | zero =>
    intro x1 S h
    have h : (none : Option (Int32 × Mem)) = some z := h
    cases h
  | succ n ih =>
    intro x1 S h
    exact w_Mo_undo_b21 hV hC (f_Mo_undo_l21  n) ih x1 S h
set_option maxRecDepth 20000 in
theorem w_Mo_undo_b0 {X : CX} {V : WV} (hV : IsM V) {z : Int32 × Mem} (hC : Ck X V bc_Mo_undo 2 "SecretWellsModel" (some .boolean) 0 0) (S : Mem) (h : f_Mo_undo_b0  S = some z) : G X V 2 (QI X V z.1 z.2) 0 [some (.ref (V.2.2.1 0 0)), none] [] S := by
  unfold f_Mo_undo_b0 at h
  refine g_aload_n (pc := 0) hC (i := 0) (x := (V.2.2.1 0 0)) rfl rfl d_Mo_undo_0 ?_
  refine g_getI (pc := 1) hC fo_Mo_263 (ob_Mo hV) rfl d_Mo_undo_1 ?_
  refine g_if_ne (pc := 4) hC (tgt := 9) (by decide) d_Mo_undo_4 h (fun h => ?_) (fun h => ?_)
  · refine g_aload_n (pc := 9) hC (i := 0) (x := (V.2.2.1 0 0)) rfl rfl d_Mo_undo_9 ?_
    refine g_dup (pc := 10) hC rfl d_Mo_undo_10 ?_
    refine g_getI (pc := 11) hC fo_Mo_263 (ob_Mo hV) rfl d_Mo_undo_11 ?_
    refine g_iconst (pc := 14) hC kc_1 d_Mo_undo_14 ?_
    refine g_isub (pc := 15) hC d_Mo_undo_15 ?_
    refine g_putI (pc := 16) hC po_Mo_263 (ob_Mo hV) rfl rfl rfl d_Mo_undo_16 ?_
    refine g_letS h (fun S16 h => ?_)
    refine g_iconst (pc := 19) hC kc_0 d_Mo_undo_19 ?_
    refine s_istore_n (pc := 20) hC (i := 1) rfl (by decide) d_Mo_undo_20 (lv2 := [some (.ref (V.2.2.1 0 0)), some (.int 0)]) rfl ?_
    exact w_Mo_undo_l21 hV hC 5000 0 S16 h
  · refine g_iconst (pc := 7) hC kc_0 d_Mo_undo_7 ?_
    exact g_iW (pc := 8) hC rfl d_Mo_undo_8 h
theorem c_Mo_undo {V : WV} {l : Launch} (hV : IsM V) {S : Mem} {z : Int32 × Mem} (h : f_Mo_undo S = some z) : CI V l y_Mo_undo bc_Mo_undo 2 (some .boolean) 0 0 [.ref (V.2.2.1 0 0)] S z.1 z.2 :=
  ct_i rfl (IsM.ok hV) (Nat.le_of_ble_eq_true rfl) (fun _ _ hC => w_Mo_undo_b0 hV hC S h)
def f_Mo_isLong_b0 (x0 : Int32) : Option (Int32) :=
  Option.bind (f_Mo_in x0 0 200) (fun q5 =>
  gZ q5 (some q5))
def f_Mo_isLong (x0 : Int32) : Option (Int32) := f_Mo_isLong_b0  x0
theorem d_Mo_isLong_0 : decode bc_Mo_isLong 0 = .ok (.iload_n 0, 1) := by decide +kernel
theorem d_Mo_isLong_1 : decode bc_Mo_isLong 1 = .ok (.iconst 0, 1) := by decide +kernel
theorem d_Mo_isLong_2 : decode bc_Mo_isLong 2 = .ok (.sipush 200, 3) := by decide +kernel
theorem d_Mo_isLong_5 : decode bc_Mo_isLong 5 = .ok (.invokestatic 332, 3) := by decide +kernel
theorem d_Mo_isLong_8 : decode bc_Mo_isLong 8 = .ok (.ireturn, 1) := by decide +kernel
set_option maxRecDepth 20000 in
theorem w_Mo_isLong_b0 {X : CX} {V : WV} (hVO : VOk V) {S : Mem} {z : Int32} (hC : Ck X V bc_Mo_isLong 1 "SecretWellsModel" (some .boolean) 1 22) (x0 : Int32) (h : f_Mo_isLong_b0  x0 = some z) : G X V 1 (QI X V z S) 0 [some (.int x0)] [] S := by
  unfold f_Mo_isLong_b0 at h
  refine g_iload_n (pc := 0) hC (i := 0) (x := x0) rfl rfl d_Mo_isLong_0 ?_
  refine g_iconst (pc := 1) hC kc_0 d_Mo_isLong_1 ?_
  refine g_sipush (pc := 2) hC ks_200 d_Mo_isLong_2 ?_
  obtain ⟨q5, hq5, h⟩ := Option.bind_eq_some_iff.mp h
  refine g_si (pc := 5) hC (As := [.int x0, .int 0, .int 200]) (st := []) mt_Mo_in lk_Mo_332 (Nat.le_of_ble_eq_true rfl) ⟨Nat.le_of_ble_eq_true rfl, Nat.le_of_ble_eq_true rfl⟩ rfl d_Mo_isLong_5 (c_Mo_in hVO hq5) ?_
  exact g_zN (pc := 8) hC d_Mo_isLong_8 h
theorem c_Mo_isLong {V : WV} {l : Launch} (hVO : VOk V) {x0 : Int32} {S : Mem} {z : Int32} (h : f_Mo_isLong x0 = some z) : CI V l y_Mo_isLong bc_Mo_isLong 1 (some .boolean) 1 22 [.int x0] S z S :=
  ct_i rfl hVO (Nat.le_of_ble_eq_true rfl) (fun _ _ hC => w_Mo_isLong_b0 hVO hC x0 h)
def f_Mo_wellIn_b0 (x1 : Int32) (x2 : Int32) (x3 : Int32) (S : Mem) : Option (Int32 × Mem) :=
  Option.bind (f_Mo_isWell x1 S) (fun q2 =>
  if q2 = 0 then
    some ((-1), S)
  else
    Option.bind (f_Mo_isLong x2) (fun q9 =>
    if q9 = 0 then
      some ((-1), S)
    else
      Option.bind (f_Mo_in x3 0 1) (fun q18 =>
      if q18 = 0 then
        some ((-1), S)
      else
        Option.bind (f_Mo_copies S) (fun q27 =>
        Option.bind (f_Mo_goes x2 q27) (fun q32 =>
        if x3 = 0 then
          Option.bind (f_Mo_deepOf x1 q32) (fun q41 =>
          some (q41, q32))
        else
          gIn x1 40 (
          some (q32.2.1 0 57 x1.toNatClampNeg, q32)))))))
def f_Mo_wellIn (x1 : Int32) (x2 : Int32) (x3 : Int32) (S : Mem) : Option (Int32 × Mem) := f_Mo_wellIn_b0  x1 x2 x3 S
theorem d_Mo_wellIn_0 : decode bc_Mo_wellIn 0 = .ok (.aload_n 0, 1) := by decide +kernel
theorem d_Mo_wellIn_1 : decode bc_Mo_wellIn 1 = .ok (.iload_n 1, 1) := by decide +kernel
theorem d_Mo_wellIn_2 : decode bc_Mo_wellIn 2 = .ok (.invokevirtual 419, 3) := by decide +kernel
theorem d_Mo_wellIn_5 : decode bc_Mo_wellIn 5 = .ok (.ifCond .eq 19, 3) := by decide +kernel
theorem d_Mo_wellIn_8 : decode bc_Mo_wellIn 8 = .ok (.iload_n 2, 1) := by decide +kernel
theorem d_Mo_wellIn_9 : decode bc_Mo_wellIn 9 = .ok (.invokestatic 441, 3) := by decide +kernel
theorem d_Mo_wellIn_12 : decode bc_Mo_wellIn 12 = .ok (.ifCond .eq 12, 3) := by decide +kernel
theorem d_Mo_wellIn_15 : decode bc_Mo_wellIn 15 = .ok (.iload_n 3, 1) := by decide +kernel
theorem d_Mo_wellIn_16 : decode bc_Mo_wellIn 16 = .ok (.iconst 0, 1) := by decide +kernel
theorem d_Mo_wellIn_17 : decode bc_Mo_wellIn 17 = .ok (.iconst 1, 1) := by decide +kernel
theorem d_Mo_wellIn_18 : decode bc_Mo_wellIn 18 = .ok (.invokestatic 332, 3) := by decide +kernel
theorem d_Mo_wellIn_21 : decode bc_Mo_wellIn 21 = .ok (.ifCond .ne 5, 3) := by decide +kernel
theorem d_Mo_wellIn_24 : decode bc_Mo_wellIn 24 = .ok (.iconst (-1), 1) := by decide +kernel
theorem d_Mo_wellIn_25 : decode bc_Mo_wellIn 25 = .ok (.ireturn, 1) := by decide +kernel
theorem d_Mo_wellIn_26 : decode bc_Mo_wellIn 26 = .ok (.aload_n 0, 1) := by decide +kernel
theorem d_Mo_wellIn_27 : decode bc_Mo_wellIn 27 = .ok (.invokevirtual 422, 3) := by decide +kernel
theorem d_Mo_wellIn_30 : decode bc_Mo_wellIn 30 = .ok (.aload_n 0, 1) := by decide +kernel
theorem d_Mo_wellIn_31 : decode bc_Mo_wellIn 31 = .ok (.iload_n 2, 1) := by decide +kernel
theorem d_Mo_wellIn_32 : decode bc_Mo_wellIn 32 = .ok (.invokevirtual 431, 3) := by decide +kernel
theorem d_Mo_wellIn_35 : decode bc_Mo_wellIn 35 = .ok (.iload_n 3, 1) := by decide +kernel
theorem d_Mo_wellIn_36 : decode bc_Mo_wellIn 36 = .ok (.ifCond .ne 11, 3) := by decide +kernel
theorem d_Mo_wellIn_39 : decode bc_Mo_wellIn 39 = .ok (.aload_n 0, 1) := by decide +kernel
theorem d_Mo_wellIn_40 : decode bc_Mo_wellIn 40 = .ok (.iload_n 1, 1) := by decide +kernel
theorem d_Mo_wellIn_41 : decode bc_Mo_wellIn 41 = .ok (.invokevirtual 364, 3) := by decide +kernel
theorem d_Mo_wellIn_44 : decode bc_Mo_wellIn 44 = .ok (.goto 9, 3) := by decide +kernel
theorem d_Mo_wellIn_47 : decode bc_Mo_wellIn 47 = .ok (.aload_n 0, 1) := by decide +kernel
theorem d_Mo_wellIn_48 : decode bc_Mo_wellIn 48 = .ok (.getfield 137, 3) := by decide +kernel
theorem d_Mo_wellIn_51 : decode bc_Mo_wellIn 51 = .ok (.iload_n 1, 1) := by decide +kernel
theorem d_Mo_wellIn_52 : decode bc_Mo_wellIn 52 = .ok (.iaload, 1) := by decide +kernel
theorem d_Mo_wellIn_53 : decode bc_Mo_wellIn 53 = .ok (.ireturn, 1) := by decide +kernel
set_option maxRecDepth 20000 in
theorem w_Mo_wellIn_b0 {X : CX} {V : WV} (hV : IsM V) {z : Int32 × Mem} (hC : Ck X V bc_Mo_wellIn 4 "SecretWellsModel" (some .int) 11 243) (x1 : Int32) (x2 : Int32) (x3 : Int32) (S : Mem) (h : f_Mo_wellIn_b0  x1 x2 x3 S = some z) : G X V 4 (QI X V z.1 z.2) 0 [some (.ref (V.2.2.1 0 0)), some (.int x1), some (.int x2), some (.int x3)] [] S := by
  unfold f_Mo_wellIn_b0 at h
  refine g_aload_n (pc := 0) hC (i := 0) (x := (V.2.2.1 0 0)) rfl rfl d_Mo_wellIn_0 ?_
  refine g_iload_n (pc := 1) hC (i := 1) (x := x1) rfl rfl d_Mo_wellIn_1 ?_
  obtain ⟨q2, hq2, h⟩ := Option.bind_eq_some_iff.mp h
  refine g_vi (pc := 2) hC (As := [.int x1]) (st := []) mt_Mo_isWell lk_Mo_419 rfl (ob_Mo hV) (Nat.le_of_ble_eq_true rfl) ⟨Nat.le_of_ble_eq_true rfl, Nat.le_of_ble_eq_true rfl⟩ rfl d_Mo_wellIn_2 (c_Mo_isWell hV hq2) ?_
  refine g_if_eq (pc := 5) hC (tgt := 24) (by decide) d_Mo_wellIn_5 h (fun h => ?_) (fun h => ?_)
  · refine g_iconst (pc := 24) hC kc_m1 d_Mo_wellIn_24 ?_
    exact g_iW (pc := 25) hC rfl d_Mo_wellIn_25 h
  · refine g_iload_n (pc := 8) hC (i := 2) (x := x2) rfl rfl d_Mo_wellIn_8 ?_
    obtain ⟨q9, hq9, h⟩ := Option.bind_eq_some_iff.mp h
    refine g_si (pc := 9) hC (As := [.int x2]) (st := []) mt_Mo_isLong lk_Mo_441 (Nat.le_of_ble_eq_true rfl) ⟨Nat.le_of_ble_eq_true rfl, Nat.le_of_ble_eq_true rfl⟩ rfl d_Mo_wellIn_9 (c_Mo_isLong (IsM.ok hV) hq9) ?_
    refine g_if_eq (pc := 12) hC (tgt := 24) (by decide) d_Mo_wellIn_12 h (fun h => ?_) (fun h => ?_)
    · refine g_iconst (pc := 24) hC kc_m1 d_Mo_wellIn_24 ?_
      exact g_iW (pc := 25) hC rfl d_Mo_wellIn_25 h
    · refine g_iload_n (pc := 15) hC (i := 3) (x := x3) rfl rfl d_Mo_wellIn_15 ?_
      refine g_iconst (pc := 16) hC kc_0 d_Mo_wellIn_16 ?_
      refine g_iconst (pc := 17) hC kc_1 d_Mo_wellIn_17 ?_
      obtain ⟨q18, hq18, h⟩ := Option.bind_eq_some_iff.mp h
      refine g_si (pc := 18) hC (As := [.int x3, .int 0, .int 1]) (st := []) mt_Mo_in lk_Mo_332 (Nat.le_of_ble_eq_true rfl) ⟨Nat.le_of_ble_eq_true rfl, Nat.le_of_ble_eq_true rfl⟩ rfl d_Mo_wellIn_18 (c_Mo_in (IsM.ok hV) hq18) ?_
      refine g_if_ne (pc := 21) hC (tgt := 26) (by decide) d_Mo_wellIn_21 h (fun h => ?_) (fun h => ?_)
      · refine g_aload_n (pc := 26) hC (i := 0) (x := (V.2.2.1 0 0)) rfl rfl d_Mo_wellIn_26 ?_
        obtain ⟨q27, hq27, h⟩ := Option.bind_eq_some_iff.mp h
        refine g_vv (pc := 27) hC (As := []) (st := []) mt_Mo_copies lk_Mo_422 rfl (ob_Mo hV) (Nat.le_of_ble_eq_true rfl) ⟨Nat.le_of_ble_eq_true rfl, Nat.le_of_ble_eq_true rfl⟩ rfl d_Mo_wellIn_27 (c_Mo_copies hV hq27) ?_
        refine g_aload_n (pc := 30) hC (i := 0) (x := (V.2.2.1 0 0)) rfl rfl d_Mo_wellIn_30 ?_
        refine g_iload_n (pc := 31) hC (i := 2) (x := x2) rfl rfl d_Mo_wellIn_31 ?_
        obtain ⟨q32, hq32, h⟩ := Option.bind_eq_some_iff.mp h
        refine g_vv (pc := 32) hC (As := [.int x2]) (st := []) mt_Mo_goes lk_Mo_431 rfl (ob_Mo hV) (Nat.le_of_ble_eq_true rfl) ⟨Nat.le_of_ble_eq_true rfl, Nat.le_of_ble_eq_true rfl⟩ rfl d_Mo_wellIn_32 (c_Mo_goes hV hq32) ?_
        refine g_iload_n (pc := 35) hC (i := 3) (x := x3) rfl rfl d_Mo_wellIn_35 ?_
        refine g_if_ne (pc := 36) hC (tgt := 47) (by decide) d_Mo_wellIn_36 h (fun h => ?_) (fun h => ?_)
        · refine g_aload_n (pc := 47) hC (i := 0) (x := (V.2.2.1 0 0)) rfl rfl d_Mo_wellIn_47 ?_
          refine g_getA (pc := 48) hC fo_Mo_137 (ob_Mo hV) rfl d_Mo_wellIn_48 ?_
          refine g_iload_n (pc := 51) hC (i := 1) (x := x1) rfl rfl d_Mo_wellIn_51 ?_
          refine g_iald (pc := 52) hC (ar_Mo_57 hV) d_Mo_wellIn_52 h (fun h => ?_)
          exact g_iW (pc := 53) hC rfl d_Mo_wellIn_53 h
        · refine g_aload_n (pc := 39) hC (i := 0) (x := (V.2.2.1 0 0)) rfl rfl d_Mo_wellIn_39 ?_
          refine g_iload_n (pc := 40) hC (i := 1) (x := x1) rfl rfl d_Mo_wellIn_40 ?_
          obtain ⟨q41, hq41, h⟩ := Option.bind_eq_some_iff.mp h
          refine g_vi (pc := 41) hC (As := [.int x1]) (st := []) mt_Mo_deepOf lk_Mo_364 rfl (ob_Mo hV) (Nat.le_of_ble_eq_true rfl) ⟨Nat.le_of_ble_eq_true rfl, Nat.le_of_ble_eq_true rfl⟩ rfl d_Mo_wellIn_41 (c_Mo_deepOf hV hq41) ?_
          refine g_goto (pc := 44) hC (tgt := 53) (by decide) d_Mo_wellIn_44 ?_
          exact g_iW (pc := 53) hC rfl d_Mo_wellIn_53 h
      · refine g_iconst (pc := 24) hC kc_m1 d_Mo_wellIn_24 ?_
        exact g_iW (pc := 25) hC rfl d_Mo_wellIn_25 h
theorem c_Mo_wellIn {V : WV} {l : Launch} (hV : IsM V) {x1 : Int32} {x2 : Int32} {x3 : Int32} {S : Mem} {z : Int32 × Mem} (h : f_Mo_wellIn x1 x2 x3 S = some z) : CI V l y_Mo_wellIn bc_Mo_wellIn 4 (some .int) 11 243 [.ref (V.2.2.1 0 0), .int x1, .int x2, .int x3] S z.1 z.2 :=
  ct_i rfl (IsM.ok hV) (Nat.le_of_ble_eq_true rfl) (fun _ _ hC => w_Mo_wellIn_b0 hV hC x1 x2 x3 S h)
