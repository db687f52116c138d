/-! methods of the bytecode as functions, and the machine's walks of them. By program (wip/whole/gen/make.py): Mo_manIn, Mo_dryBy, Mo_first, Mo_rainsBy, Mo_thirstAll, Mo_rains, Mo_isRain, Mo_rain, Mo_rainAt, Mo_reachOf, Mo_reach, Mo_silence, Mo_shared, Mo_holds, Mo_rings, Mo_fillsMay -/
def f_Mo_manIn_b0 (x1 : Int32) (x2 : Int32) (x3 : Int32) (S : Mem) : Option (Int32 × Mem) :=
  Option.bind (f_Mo_isMan x1 S) (fun q2 =>
  if q2 = 0 then
    some ((-1), S)
  else
    Option.bind (f_Mo_isLong x2) (fun q9 =>
    if q9 = 0 then
      some ((-1), S)
    else
      Option.bind (f_Mo_in x3 0 2) (fun q18 =>
      if q18 = 0 then
        some ((-1), S)
      else
        Option.bind (f_Mo_copies S) (fun q27 =>
        Option.bind (f_Mo_goes x2 q27) (fun q32 =>
        if x3 = 0 then
          Option.bind (f_Mo_isAlive x1 q32) (fun q41 =>
          if q41 = 0 then
            some (0, q32)
          else
            some (1, q32))
        else
          if x3 = 1 then
            gIn (19 + x1) 40 (
            some (q32.2.1 0 57 (19 + x1).toNatClampNeg, q32))
          else
            gIn (26 + x1) 40 (
            some (q32.2.1 0 57 (26 + x1).toNatClampNeg, q32)))))))
def f_Mo_manIn (x1 : Int32) (x2 : Int32) (x3 : Int32) (S : Mem) : Option (Int32 × Mem) := f_Mo_manIn_b0  x1 x2 x3 S
theorem d_Mo_manIn_0 : decode bc_Mo_manIn 0 = .ok (.aload_n 0, 1) := by decide +kernel
theorem d_Mo_manIn_1 : decode bc_Mo_manIn 1 = .ok (.iload_n 1, 1) := by decide +kernel
theorem d_Mo_manIn_2 : decode bc_Mo_manIn 2 = .ok (.invokevirtual 425, 3) := by decide +kernel
theorem d_Mo_manIn_5 : decode bc_Mo_manIn 5 = .ok (.ifCond .eq 19, 3) := by decide +kernel
theorem d_Mo_manIn_8 : decode bc_Mo_manIn 8 = .ok (.iload_n 2, 1) := by decide +kernel
theorem d_Mo_manIn_9 : decode bc_Mo_manIn 9 = .ok (.invokestatic 441, 3) := by decide +kernel
theorem d_Mo_manIn_12 : decode bc_Mo_manIn 12 = .ok (.ifCond .eq 12, 3) := by decide +kernel
theorem d_Mo_manIn_15 : decode bc_Mo_manIn 15 = .ok (.iload_n 3, 1) := by decide +kernel
theorem d_Mo_manIn_16 : decode bc_Mo_manIn 16 = .ok (.iconst 0, 1) := by decide +kernel
theorem d_Mo_manIn_17 : decode bc_Mo_manIn 17 = .ok (.iconst 2, 1) := by decide +kernel
theorem d_Mo_manIn_18 : decode bc_Mo_manIn 18 = .ok (.invokestatic 332, 3) := by decide +kernel
theorem d_Mo_manIn_21 : decode bc_Mo_manIn 21 = .ok (.ifCond .ne 5, 3) := by decide +kernel
theorem d_Mo_manIn_24 : decode bc_Mo_manIn 24 = .ok (.iconst (-1), 1) := by decide +kernel
theorem d_Mo_manIn_25 : decode bc_Mo_manIn 25 = .ok (.ireturn, 1) := by decide +kernel
theorem d_Mo_manIn_26 : decode bc_Mo_manIn 26 = .ok (.aload_n 0, 1) := by decide +kernel
theorem d_Mo_manIn_27 : decode bc_Mo_manIn 27 = .ok (.invokevirtual 422, 3) := by decide +kernel
theorem d_Mo_manIn_30 : decode bc_Mo_manIn 30 = .ok (.aload_n 0, 1) := by decide +kernel
theorem d_Mo_manIn_31 : decode bc_Mo_manIn 31 = .ok (.iload_n 2, 1) := by decide +kernel
theorem d_Mo_manIn_32 : decode bc_Mo_manIn 32 = .ok (.invokevirtual 431, 3) := by decide +kernel
theorem d_Mo_manIn_35 : decode bc_Mo_manIn 35 = .ok (.iload_n 3, 1) := by decide +kernel
theorem d_Mo_manIn_36 : decode bc_Mo_manIn 36 = .ok (.ifCond .ne 19, 3) := by decide +kernel
theorem d_Mo_manIn_39 : decode bc_Mo_manIn 39 = .ok (.aload_n 0, 1) := by decide +kernel
theorem d_Mo_manIn_40 : decode bc_Mo_manIn 40 = .ok (.iload_n 1, 1) := by decide +kernel
theorem d_Mo_manIn_41 : decode bc_Mo_manIn 41 = .ok (.invokevirtual 367, 3) := by decide +kernel
theorem d_Mo_manIn_44 : decode bc_Mo_manIn 44 = .ok (.ifCond .eq 7, 3) := by decide +kernel
theorem d_Mo_manIn_47 : decode bc_Mo_manIn 47 = .ok (.iconst 1, 1) := by decide +kernel
theorem d_Mo_manIn_48 : decode bc_Mo_manIn 48 = .ok (.goto 33, 3) := by decide +kernel
theorem d_Mo_manIn_51 : decode bc_Mo_manIn 51 = .ok (.iconst 0, 1) := by decide +kernel
theorem d_Mo_manIn_52 : decode bc_Mo_manIn 52 = .ok (.goto 29, 3) := by decide +kernel
theorem d_Mo_manIn_55 : decode bc_Mo_manIn 55 = .ok (.iload_n 3, 1) := by decide +kernel
theorem d_Mo_manIn_56 : decode bc_Mo_manIn 56 = .ok (.iconst 1, 1) := by decide +kernel
theorem d_Mo_manIn_57 : decode bc_Mo_manIn 57 = .ok (.if_icmp .ne 15, 3) := by decide +kernel
theorem d_Mo_manIn_60 : decode bc_Mo_manIn 60 = .ok (.aload_n 0, 1) := by decide +kernel
theorem d_Mo_manIn_61 : decode bc_Mo_manIn 61 = .ok (.getfield 137, 3) := by decide +kernel
theorem d_Mo_manIn_64 : decode bc_Mo_manIn 64 = .ok (.bipush 19, 2) := by decide +kernel
theorem d_Mo_manIn_66 : decode bc_Mo_manIn 66 = .ok (.iload_n 1, 1) := by decide +kernel
theorem d_Mo_manIn_67 : decode bc_Mo_manIn 67 = .ok (.iadd, 1) := by decide +kernel
theorem d_Mo_manIn_68 : decode bc_Mo_manIn 68 = .ok (.iaload, 1) := by decide +kernel
theorem d_Mo_manIn_69 : decode bc_Mo_manIn 69 = .ok (.goto 12, 3) := by decide +kernel
theorem d_Mo_manIn_72 : decode bc_Mo_manIn 72 = .ok (.aload_n 0, 1) := by decide +kernel
theorem d_Mo_manIn_73 : decode bc_Mo_manIn 73 = .ok (.getfield 137, 3) := by decide +kernel
theorem d_Mo_manIn_76 : decode bc_Mo_manIn 76 = .ok (.bipush 26, 2) := by decide +kernel
theorem d_Mo_manIn_78 : decode bc_Mo_manIn 78 = .ok (.iload_n 1, 1) := by decide +kernel
theorem d_Mo_manIn_79 : decode bc_Mo_manIn 79 = .ok (.iadd, 1) := by decide +kernel
theorem d_Mo_manIn_80 : decode bc_Mo_manIn 80 = .ok (.iaload, 1) := by decide +kernel
theorem d_Mo_manIn_81 : decode bc_Mo_manIn 81 = .ok (.ireturn, 1) := by decide +kernel
set_option maxRecDepth 20000 in
theorem w_Mo_manIn_b0 {X : CX} {V : WV} (hV : IsM V) {z : Int32 × Mem} (hC : Ck X V bc_Mo_manIn 4 "SecretWellsModel" (some .int) 11 243) (x1 : Int32) (x2 : Int32) (x3 : Int32) (S : Mem) (h : f_Mo_manIn_b0  x1 x2 x3 S = some z) : G X V 4 (QI X V z.1 z.2) 0 [some (.ref (V.2.2.1 0 0)), some (.int x1), some (.int x2), some (.int x3)] [] S := by
  unfold f_Mo_manIn_b0 at h
  refine g_aload_n (pc := 0) hC (i := 0) (x := (V.2.2.1 0 0)) rfl rfl d_Mo_manIn_0 ?_
  refine g_iload_n (pc := 1) hC (i := 1) (x := x1) rfl rfl d_Mo_manIn_1 ?_
  obtain ⟨q2, hq2, h⟩ := Option.bind_eq_some_iff.mp h
  refine g_vi (pc := 2) hC (As := [.int x1]) (st := []) mt_Mo_isMan lk_Mo_425 rfl (ob_Mo hV) (Nat.le_of_ble_eq_true rfl) ⟨Nat.le_of_ble_eq_true rfl, Nat.le_of_ble_eq_true rfl⟩ rfl d_Mo_manIn_2 (c_Mo_isMan hV hq2) ?_
  refine g_if_eq (pc := 5) hC (tgt := 24) (by decide) d_Mo_manIn_5 h (fun h => ?_) (fun h => ?_)
  · refine g_iconst (pc := 24) hC kc_m1 d_Mo_manIn_24 ?_
    exact g_iW (pc := 25) hC rfl d_Mo_manIn_25 h
  · refine g_iload_n (pc := 8) hC (i := 2) (x := x2) rfl rfl d_Mo_manIn_8 ?_
    obtain ⟨q9, hq9, h⟩ := Option.bind_eq_some_iff.mp h
    refine g_si (pc := 9) hC (As := [.int x2]) (st := []) mt_Mo_isLong lk_Mo_441 (Nat.le_of_ble_eq_true rfl) ⟨Nat.le_of_ble_eq_true rfl, Nat.le_of_ble_eq_true rfl⟩ rfl d_Mo_manIn_9 (c_Mo_isLong (IsM.ok hV) hq9) ?_
    refine g_if_eq (pc := 12) hC (tgt := 24) (by decide) d_Mo_manIn_12 h (fun h => ?_) (fun h => ?_)
    · refine g_iconst (pc := 24) hC kc_m1 d_Mo_manIn_24 ?_
      exact g_iW (pc := 25) hC rfl d_Mo_manIn_25 h
    · refine g_iload_n (pc := 15) hC (i := 3) (x := x3) rfl rfl d_Mo_manIn_15 ?_
      refine g_iconst (pc := 16) hC kc_0 d_Mo_manIn_16 ?_
      refine g_iconst (pc := 17) hC kc_2 d_Mo_manIn_17 ?_
      obtain ⟨q18, hq18, h⟩ := Option.bind_eq_some_iff.mp h
      refine g_si (pc := 18) hC (As := [.int x3, .int 0, .int 2]) (st := []) mt_Mo_in lk_Mo_332 (Nat.le_of_ble_eq_true rfl) ⟨Nat.le_of_ble_eq_true rfl, Nat.le_of_ble_eq_true rfl⟩ rfl d_Mo_manIn_18 (c_Mo_in (IsM.ok hV) hq18) ?_
      refine g_if_ne (pc := 21) hC (tgt := 26) (by decide) d_Mo_manIn_21 h (fun h => ?_) (fun h => ?_)
      · refine g_aload_n (pc := 26) hC (i := 0) (x := (V.2.2.1 0 0)) rfl rfl d_Mo_manIn_26 ?_
        obtain ⟨q27, hq27, h⟩ := Option.bind_eq_some_iff.mp h
        refine g_vv (pc := 27) hC (As := []) (st := []) mt_Mo_copies lk_Mo_422 rfl (ob_Mo hV) (Nat.le_of_ble_eq_true rfl) ⟨Nat.le_of_ble_eq_true rfl, Nat.le_of_ble_eq_true rfl⟩ rfl d_Mo_manIn_27 (c_Mo_copies hV hq27) ?_
        refine g_aload_n (pc := 30) hC (i := 0) (x := (V.2.2.1 0 0)) rfl rfl d_Mo_manIn_30 ?_
        refine g_iload_n (pc := 31) hC (i := 2) (x := x2) rfl rfl d_Mo_manIn_31 ?_
        obtain ⟨q32, hq32, h⟩ := Option.bind_eq_some_iff.mp h
        refine g_vv (pc := 32) hC (As := [.int x2]) (st := []) mt_Mo_goes lk_Mo_431 rfl (ob_Mo hV) (Nat.le_of_ble_eq_true rfl) ⟨Nat.le_of_ble_eq_true rfl, Nat.le_of_ble_eq_true rfl⟩ rfl d_Mo_manIn_32 (c_Mo_goes hV hq32) ?_
        refine g_iload_n (pc := 35) hC (i := 3) (x := x3) rfl rfl d_Mo_manIn_35 ?_
        refine g_if_ne (pc := 36) hC (tgt := 55) (by decide) d_Mo_manIn_36 h (fun h => ?_) (fun h => ?_)
        · refine g_iload_n (pc := 55) hC (i := 3) (x := x3) rfl rfl d_Mo_manIn_55 ?_
          refine g_iconst (pc := 56) hC kc_1 d_Mo_manIn_56 ?_
          refine g_icmp_ne (pc := 57) hC (tgt := 72) (by decide) d_Mo_manIn_57 h (fun h => ?_) (fun h => ?_)
          · refine g_aload_n (pc := 72) hC (i := 0) (x := (V.2.2.1 0 0)) rfl rfl d_Mo_manIn_72 ?_
            refine g_getA (pc := 73) hC fo_Mo_137 (ob_Mo hV) rfl d_Mo_manIn_73 ?_
            refine g_bipush (pc := 76) hC kb_26 d_Mo_manIn_76 ?_
            refine g_iload_n (pc := 78) hC (i := 1) (x := x1) rfl rfl d_Mo_manIn_78 ?_
            refine g_iadd (pc := 79) hC d_Mo_manIn_79 ?_
            refine g_iald (pc := 80) hC (ar_Mo_57 hV) d_Mo_manIn_80 h (fun h => ?_)
            exact g_iW (pc := 81) hC rfl d_Mo_manIn_81 h
          · refine g_aload_n (pc := 60) hC (i := 0) (x := (V.2.2.1 0 0)) rfl rfl d_Mo_manIn_60 ?_
            refine g_getA (pc := 61) hC fo_Mo_137 (ob_Mo hV) rfl d_Mo_manIn_61 ?_
            refine g_bipush (pc := 64) hC kb_19 d_Mo_manIn_64 ?_
            refine g_iload_n (pc := 66) hC (i := 1) (x := x1) rfl rfl d_Mo_manIn_66 ?_
            refine g_iadd (pc := 67) hC d_Mo_manIn_67 ?_
            refine g_iald (pc := 68) hC (ar_Mo_57 hV) d_Mo_manIn_68 h (fun h => ?_)
            refine g_goto (pc := 69) hC (tgt := 81) (by decide) d_Mo_manIn_69 ?_
            exact g_iW (pc := 81) hC rfl d_Mo_manIn_81 h
        · refine g_aload_n (pc := 39) hC (i := 0) (x := (V.2.2.1 0 0)) rfl rfl d_Mo_manIn_39 ?_
          refine g_iload_n (pc := 40) hC (i := 1) (x := x1) rfl rfl d_Mo_manIn_40 ?_
          obtain ⟨q41, hq41, h⟩ := Option.bind_eq_some_iff.mp h
          refine g_vi (pc := 41) hC (As := [.int x1]) (st := []) mt_Mo_isAlive lk_Mo_367 rfl (ob_Mo hV) (Nat.le_of_ble_eq_true rfl) ⟨Nat.le_of_ble_eq_true rfl, Nat.le_of_ble_eq_true rfl⟩ rfl d_Mo_manIn_41 (c_Mo_isAlive hV hq41) ?_
          refine g_if_eq (pc := 44) hC (tgt := 51) (by decide) d_Mo_manIn_44 h (fun h => ?_) (fun h => ?_)
          · refine g_iconst (pc := 51) hC kc_0 d_Mo_manIn_51 ?_
            refine g_goto (pc := 52) hC (tgt := 81) (by decide) d_Mo_manIn_52 ?_
            exact g_iW (pc := 81) hC rfl d_Mo_manIn_81 h
          · refine g_iconst (pc := 47) hC kc_1 d_Mo_manIn_47 ?_
            refine g_goto (pc := 48) hC (tgt := 81) (by decide) d_Mo_manIn_48 ?_
            exact g_iW (pc := 81) hC rfl d_Mo_manIn_81 h
      · refine g_iconst (pc := 24) hC kc_m1 d_Mo_manIn_24 ?_
        exact g_iW (pc := 25) hC rfl d_Mo_manIn_25 h
theorem c_Mo_manIn {V : WV} {l : Launch} (hV : IsM V) {x1 : Int32} {x2 : Int32} {x3 : Int32} {S : Mem} {z : Int32 × Mem} (h : f_Mo_manIn x1 x2 x3 S = some z) : CI V l y_Mo_manIn bc_Mo_manIn 4 (some .int) 11 243 [.ref (V.2.2.1 0 0), .int x1, .int x2, .int x3] S z.1 z.2 :=
  ct_i rfl (IsM.ok hV) (Nat.le_of_ble_eq_true rfl) (fun _ _ hC => w_Mo_manIn_b0 hV hC x1 x2 x3 S h)
def f_Mo_dryBy_b16 (k16 : Int32 → Int32 → Mem → Option (Int32 × Mem)) (x1 : Int32) (x2 : Int32) (S : Mem) : Option (Int32 × Mem) :=
  if 200 < x2 then
    some ((-2), S)
  else
    gIn x1 40 (
    if (S.2.1 0 57 x1.toNatClampNeg) = 0 then
      some (x2, S)
    else
      Option.bind (f_Mo_dayGoes S) (fun q35 =>
      k16 x1 (x2 + 1) q35))
def f_Mo_dryBy_l16 : Nat → Int32 → Int32 → Mem → Option (Int32 × Mem)
  | 0 => fun _ _ _ => none
  | n + 1 => f_Mo_dryBy_b16  (f_Mo_dryBy_l16  n)
def f_Mo_dryBy_b0 (x1 : Int32) (S : Mem) : Option (Int32 × Mem) :=
  Option.bind (f_Mo_isWell x1 S) (fun q2 =>
  if q2 = 0 then
    some ((-1), S)
  else
    Option.bind (f_Mo_copies S) (fun q11 =>
    f_Mo_dryBy_l16 5000 x1 0 q11))
def f_Mo_dryBy (x1 : Int32) (S : Mem) : Option (Int32 × Mem) := f_Mo_dryBy_b0  x1 S
theorem d_Mo_dryBy_0 : decode bc_Mo_dryBy 0 = .ok (.aload_n 0, 1) := by decide +kernel
theorem d_Mo_dryBy_1 : decode bc_Mo_dryBy 1 = .ok (.iload_n 1, 1) := by decide +kernel
theorem d_Mo_dryBy_2 : decode bc_Mo_dryBy 2 = .ok (.invokevirtual 419, 3) := by decide +kernel
theorem d_Mo_dryBy_5 : decode bc_Mo_dryBy 5 = .ok (.ifCond .ne 5, 3) := by decide +kernel
theorem d_Mo_dryBy_8 : decode bc_Mo_dryBy 8 = .ok (.iconst (-1), 1) := by decide +kernel
theorem d_Mo_dryBy_9 : decode bc_Mo_dryBy 9 = .ok (.ireturn, 1) := by decide +kernel
theorem d_Mo_dryBy_10 : decode bc_Mo_dryBy 10 = .ok (.aload_n 0, 1) := by decide +kernel
theorem d_Mo_dryBy_11 : decode bc_Mo_dryBy 11 = .ok (.invokevirtual 422, 3) := by decide +kernel
theorem d_Mo_dryBy_14 : decode bc_Mo_dryBy 14 = .ok (.iconst 0, 1) := by decide +kernel
theorem d_Mo_dryBy_15 : decode bc_Mo_dryBy 15 = .ok (.istore_n 2, 1) := by decide +kernel
theorem d_Mo_dryBy_16 : decode bc_Mo_dryBy 16 = .ok (.iload_n 2, 1) := by decide +kernel
theorem d_Mo_dryBy_17 : decode bc_Mo_dryBy 17 = .ok (.sipush 200, 3) := by decide +kernel
theorem d_Mo_dryBy_20 : decode bc_Mo_dryBy 20 = .ok (.if_icmp .gt 24, 3) := by decide +kernel
theorem d_Mo_dryBy_23 : decode bc_Mo_dryBy 23 = .ok (.aload_n 0, 1) := by decide +kernel
theorem d_Mo_dryBy_24 : decode bc_Mo_dryBy 24 = .ok (.getfield 137, 3) := by decide +kernel
theorem d_Mo_dryBy_27 : decode bc_Mo_dryBy 27 = .ok (.iload_n 1, 1) := by decide +kernel
theorem d_Mo_dryBy_28 : decode bc_Mo_dryBy 28 = .ok (.iaload, 1) := by decide +kernel
theorem d_Mo_dryBy_29 : decode bc_Mo_dryBy 29 = .ok (.ifCond .ne 5, 3) := by decide +kernel
theorem d_Mo_dryBy_32 : decode bc_Mo_dryBy 32 = .ok (.iload_n 2, 1) := by decide +kernel
theorem d_Mo_dryBy_33 : decode bc_Mo_dryBy 33 = .ok (.ireturn, 1) := by decide +kernel
theorem d_Mo_dryBy_34 : decode bc_Mo_dryBy 34 = .ok (.aload_n 0, 1) := by decide +kernel
theorem d_Mo_dryBy_35 : decode bc_Mo_dryBy 35 = .ok (.invokevirtual 416, 3) := by decide +kernel
theorem d_Mo_dryBy_38 : decode bc_Mo_dryBy 38 = .ok (.iinc 2 1, 3) := by decide +kernel
theorem d_Mo_dryBy_41 : decode bc_Mo_dryBy 41 = .ok (.goto (-25), 3) := by decide +kernel
theorem d_Mo_dryBy_44 : decode bc_Mo_dryBy 44 = .ok (.bipush (-2), 2) := by decide +kernel
theorem d_Mo_dryBy_46 : decode bc_Mo_dryBy 46 = .ok (.ireturn, 1) := by decide +kernel
set_option maxRecDepth 20000 in
theorem w_Mo_dryBy_b16 {X : CX} {V : WV} (hV : IsM V) {z : Int32 × Mem} (hC : Ck X V bc_Mo_dryBy 3 "SecretWellsModel" (some .int) 10 221) (k16 : Int32 → Int32 → Mem → Option (Int32 × Mem)) (hk16 : ∀ (x1 : Int32) (x2 : Int32) (S : Mem), k16 x1 x2 S = some z → G X V 3 (QI X V z.1 z.2) 16 [some (.ref (V.2.2.1 0 0)), some (.int x1), some (.int x2)] [] S) (x1 : Int32) (x2 : Int32) (S : Mem) (h : f_Mo_dryBy_b16  k16 x1 x2 S = some z) : G X V 3 (QI X V z.1 z.2) 16 [some (.ref (V.2.2.1 0 0)), some (.int x1), some (.int x2)] [] S := by
  unfold f_Mo_dryBy_b16 at h
  refine g_iload_n (pc := 16) hC (i := 2) (x := x2) rfl rfl d_Mo_dryBy_16 ?_
  refine g_sipush (pc := 17) hC ks_200 d_Mo_dryBy_17 ?_
  refine g_icmp_gt (pc := 20) hC (tgt := 44) (by decide) d_Mo_dryBy_20 h (fun h => ?_) (fun h => ?_)
  · refine g_bipush (pc := 44) hC kb_m2 d_Mo_dryBy_44 ?_
    exact g_iW (pc := 46) hC rfl d_Mo_dryBy_46 h
  · refine g_aload_n (pc := 23) hC (i := 0) (x := (V.2.2.1 0 0)) rfl rfl d_Mo_dryBy_23 ?_
    refine g_getA (pc := 24) hC fo_Mo_137 (ob_Mo hV) rfl d_Mo_dryBy_24 ?_
    refine g_iload_n (pc := 27) hC (i := 1) (x := x1) rfl rfl d_Mo_dryBy_27 ?_
    refine g_iald (pc := 28) hC (ar_Mo_57 hV) d_Mo_dryBy_28 h (fun h => ?_)
    refine g_if_ne (pc := 29) hC (tgt := 34) (by decide) d_Mo_dryBy_29 h (fun h => ?_) (fun h => ?_)
    · refine g_aload_n (pc := 34) hC (i := 0) (x := (V.2.2.1 0 0)) rfl rfl d_Mo_dryBy_34 ?_
      obtain ⟨q35, hq35, h⟩ := Option.bind_eq_some_iff.mp h
      refine g_vv (pc := 35) hC (As := []) (st := []) mt_Mo_dayGoes lk_Mo_416 rfl (ob_Mo hV) (Nat.le_of_ble_eq_true rfl) ⟨Nat.le_of_ble_eq_true rfl, Nat.le_of_ble_eq_true rfl⟩ rfl d_Mo_dryBy_35 (c_Mo_dayGoes hV hq35) ?_
      refine s_iinc (pc := 38) hC (i := 2) (x := x2) (v := x2 + 1) rfl (by rw [kc_1]) (by decide) d_Mo_dryBy_38 (lv2 := [some (.ref (V.2.2.1 0 0)), some (.int x1), some (.int (x2 + 1))]) rfl ?_
      refine g_goto (pc := 41) hC (tgt := 16) (by decide) d_Mo_dryBy_41 ?_
      exact hk16 x1 (x2 + 1) q35 h
    · refine g_iload_n (pc := 32) hC (i := 2) (x := x2) rfl rfl d_Mo_dryBy_32 ?_
      exact g_iW (pc := 33) hC rfl d_Mo_dryBy_33 h
theorem w_Mo_dryBy_l16 {X : CX} {V : WV} (hV : IsM V) {z : Int32 × Mem} (hC : Ck X V bc_Mo_dryBy 3 "SecretWellsModel" (some .int) 10 221) : ∀ (n : Nat) (x1 : Int32) (x2 : Int32) (S : Mem), f_Mo_dryBy_l16  n x1 x2 S = some z → G X V 3 (QI X V z.1 z.2) 16 [some (.ref (V.2.2.1 0 0)), some (.int x1), some (.int x2)] [] S := by
  intro n
  induction n with
  | zero =>
    intro x1 x2 S h
    have h : (none : Option (Int32 × Mem)) = some z := h
    cases h
  | succ n ih =>
    intro x1 x2 S h
    exact w_Mo_dryBy_b16 hV hC (f_Mo_dryBy_l16  n) ih x1 x2 S h
set_option maxRecDepth 20000 in
theorem w_Mo_dryBy_b0 {X : CX} {V : WV} (hV : IsM V) {z : Int32 × Mem} (hC : Ck X V bc_Mo_dryBy 3 "SecretWellsModel" (some .int) 10 221) (x1 : Int32) (S : Mem) (h : f_Mo_dryBy_b0  x1 S = some z) : G X V 3 (QI X V z.1 z.2) 0 [some (.ref (V.2.2.1 0 0)), some (.int x1), none] [] S := by
  unfold f_Mo_dryBy_b0 at h
  refine g_aload_n (pc := 0) hC (i := 0) (x := (V.2.2.1 0 0)) rfl rfl d_Mo_dryBy_0 ?_
  refine g_iload_n (pc := 1) hC (i := 1) (x := x1) rfl rfl d_Mo_dryBy_1 ?_
  obtain ⟨q2, hq2, h⟩ := Option.bind_eq_some_iff.mp h
  refine g_vi (pc := 2) hC (As := [.int x1]) (st := []) mt_Mo_isWell lk_Mo_419 rfl (ob_Mo hV) (Nat.le_of_ble_eq_true rfl) ⟨Nat.le_of_ble_eq_true rfl, Nat.le_of_ble_eq_true rfl⟩ rfl d_Mo_dryBy_2 (c_Mo_isWell hV hq2) ?_
  refine g_if_ne (pc := 5) hC (tgt := 10) (by decide) d_Mo_dryBy_5 h (fun h => ?_) (fun h => ?_)
  · refine g_aload_n (pc := 10) hC (i := 0) (x := (V.2.2.1 0 0)) rfl rfl d_Mo_dryBy_10 ?_
    obtain ⟨q11, hq11, h⟩ := Option.bind_eq_some_iff.mp h
    refine g_vv (pc := 11) hC (As := []) (st := []) mt_Mo_copies lk_Mo_422 rfl (ob_Mo hV) (Nat.le_of_ble_eq_true rfl) ⟨Nat.le_of_ble_eq_true rfl, Nat.le_of_ble_eq_true rfl⟩ rfl d_Mo_dryBy_11 (c_Mo_copies hV hq11) ?_
    refine g_iconst (pc := 14) hC kc_0 d_Mo_dryBy_14 ?_
    refine s_istore_n (pc := 15) hC (i := 2) rfl (by decide) d_Mo_dryBy_15 (lv2 := [some (.ref (V.2.2.1 0 0)), some (.int x1), some (.int 0)]) rfl ?_
    exact w_Mo_dryBy_l16 hV hC 5000 x1 0 q11 h
  · refine g_iconst (pc := 8) hC kc_m1 d_Mo_dryBy_8 ?_
    exact g_iW (pc := 9) hC rfl d_Mo_dryBy_9 h
theorem c_Mo_dryBy {V : WV} {l : Launch} (hV : IsM V) {x1 : Int32} {S : Mem} {z : Int32 × Mem} (h : f_Mo_dryBy x1 S = some z) : CI V l y_Mo_dryBy bc_Mo_dryBy 3 (some .int) 10 221 [.ref (V.2.2.1 0 0), .int x1] S z.1 z.2 :=
  ct_i rfl (IsM.ok hV) (Nat.le_of_ble_eq_true rfl) (fun _ _ hC => w_Mo_dryBy_b0 hV hC x1 S h)
def f_Mo_first_b39 (k17 : Int32 → Int32 → Mem → Option (Int32 × Mem)) (k39 : Int32 → Int32 → Int32 → Int32 → Mem → Option (Int32 × Mem)) (x1 : Int32) (x2 : Int32) (x3 : Int32) (x4 : Int32) (S : Mem) : Option (Int32 × Mem) :=
  gIn (S.1 0 18) 2 (
  if (S.2.1 0 27 (S.1 0 18).toNatClampNeg) ≤ x4 then
    k17 x1 (x2 + 1) S
  else
    if ((x3 >>> (x4 &&& 31)) &&& 1) = 1 then
      Option.bind (f_Mo_isAlive x4 S) (fun q66 =>
      if q66 = 0 then
        if x1 = 0 then
          some (x4, S)
        else
          some (x2, S)
      else
        k39 x1 x2 x3 (x4 + 1) S)
    else
      k39 x1 x2 x3 (x4 + 1) S)
def f_Mo_first_l39 (k17 : Int32 → Int32 → Mem → Option (Int32 × Mem)) : Nat → Int32 → Int32 → Int32 → Int32 → Mem → Option (Int32 × Mem)
  | 0 => fun _ _ _ _ _ => none
  | n + 1 => f_Mo_first_b39  k17 (f_Mo_first_l39  k17 n)
def f_Mo_first_b17 (k17 : Int32 → Int32 → Mem → Option (Int32 × Mem)) (x1 : Int32) (x2 : Int32) (S : Mem) : Option (Int32 × Mem) :=
  if 200 < x2 then
    some ((-2), S)
  else
    gIn 33 40 (
    letS (S.2.1 0 57 (33 : Int32).toNatClampNeg) (fun y31 =>
    Option.bind (f_Mo_dayGoes S) (fun q33 =>
    f_Mo_first_l39 k17 5000 x1 x2 y31 0 q33)))
def f_Mo_first_l17 : Nat → Int32 → Int32 → Mem → Option (Int32 × Mem)
  | 0 => fun _ _ _ => none
  | n + 1 => f_Mo_first_b17  (f_Mo_first_l17  n)
def f_Mo_first_b0 (x1 : Int32) (S : Mem) : Option (Int32 × Mem) :=
  Option.bind (f_Mo_in x1 0 1) (fun q3 =>
  if q3 = 0 then
    some ((-1), S)
  else
    Option.bind (f_Mo_copies S) (fun q12 =>
    f_Mo_first_l17 5000 x1 1 q12))
def f_Mo_first (x1 : Int32) (S : Mem) : Option (Int32 × Mem) := f_Mo_first_b0  x1 S
theorem d_Mo_first_0 : decode bc_Mo_first 0 = .ok (.iload_n 1, 1) := by decide +kernel
theorem d_Mo_first_1 : decode bc_Mo_first 1 = .ok (.iconst 0, 1) := by decide +kernel
theorem d_Mo_first_2 : decode bc_Mo_first 2 = .ok (.iconst 1, 1) := by decide +kernel
theorem d_Mo_first_3 : decode bc_Mo_first 3 = .ok (.invokestatic 332, 3) := by decide +kernel
theorem d_Mo_first_6 : decode bc_Mo_first 6 = .ok (.ifCond .ne 5, 3) := by decide +kernel
theorem d_Mo_first_9 : decode bc_Mo_first 9 = .ok (.iconst (-1), 1) := by decide +kernel
theorem d_Mo_first_10 : decode bc_Mo_first 10 = .ok (.ireturn, 1) := by decide +kernel
theorem d_Mo_first_11 : decode bc_Mo_first 11 = .ok (.aload_n 0, 1) := by decide +kernel
theorem d_Mo_first_12 : decode bc_Mo_first 12 = .ok (.invokevirtual 422, 3) := by decide +kernel
theorem d_Mo_first_15 : decode bc_Mo_first 15 = .ok (.iconst 1, 1) := by decide +kernel
theorem d_Mo_first_16 : decode bc_Mo_first 16 = .ok (.istore_n 2, 1) := by decide +kernel
theorem d_Mo_first_17 : decode bc_Mo_first 17 = .ok (.iload_n 2, 1) := by decide +kernel
theorem d_Mo_first_18 : decode bc_Mo_first 18 = .ok (.sipush 200, 3) := by decide +kernel
theorem d_Mo_first_21 : decode bc_Mo_first 21 = .ok (.if_icmp .gt 74, 3) := by decide +kernel
theorem d_Mo_first_24 : decode bc_Mo_first 24 = .ok (.aload_n 0, 1) := by decide +kernel
theorem d_Mo_first_25 : decode bc_Mo_first 25 = .ok (.getfield 137, 3) := by decide +kernel
theorem d_Mo_first_28 : decode bc_Mo_first 28 = .ok (.bipush 33, 2) := by decide +kernel
theorem d_Mo_first_30 : decode bc_Mo_first 30 = .ok (.iaload, 1) := by decide +kernel
theorem d_Mo_first_31 : decode bc_Mo_first 31 = .ok (.istore_n 3, 1) := by decide +kernel
theorem d_Mo_first_32 : decode bc_Mo_first 32 = .ok (.aload_n 0, 1) := by decide +kernel
theorem d_Mo_first_33 : decode bc_Mo_first 33 = .ok (.invokevirtual 416, 3) := by decide +kernel
theorem d_Mo_first_36 : decode bc_Mo_first 36 = .ok (.iconst 0, 1) := by decide +kernel
theorem d_Mo_first_37 : decode bc_Mo_first 37 = .ok (.istore 4, 2) := by decide +kernel
theorem d_Mo_first_39 : decode bc_Mo_first 39 = .ok (.iload 4, 2) := by decide +kernel
theorem d_Mo_first_41 : decode bc_Mo_first 41 = .ok (.aload_n 0, 1) := by decide +kernel
theorem d_Mo_first_42 : decode bc_Mo_first 42 = .ok (.getfield 58, 3) := by decide +kernel
theorem d_Mo_first_45 : decode bc_Mo_first 45 = .ok (.aload_n 0, 1) := by decide +kernel
theorem d_Mo_first_46 : decode bc_Mo_first 46 = .ok (.getfield 245, 3) := by decide +kernel
theorem d_Mo_first_49 : decode bc_Mo_first 49 = .ok (.iaload, 1) := by decide +kernel
theorem d_Mo_first_50 : decode bc_Mo_first 50 = .ok (.if_icmp .ge 39, 3) := by decide +kernel
theorem d_Mo_first_53 : decode bc_Mo_first 53 = .ok (.iload_n 3, 1) := by decide +kernel
theorem d_Mo_first_54 : decode bc_Mo_first 54 = .ok (.iload 4, 2) := by decide +kernel
theorem d_Mo_first_56 : decode bc_Mo_first 56 = .ok (.ishr, 1) := by decide +kernel
theorem d_Mo_first_57 : decode bc_Mo_first 57 = .ok (.iconst 1, 1) := by decide +kernel
theorem d_Mo_first_58 : decode bc_Mo_first 58 = .ok (.iand, 1) := by decide +kernel
theorem d_Mo_first_59 : decode bc_Mo_first 59 = .ok (.iconst 1, 1) := by decide +kernel
theorem d_Mo_first_60 : decode bc_Mo_first 60 = .ok (.if_icmp .ne 23, 3) := by decide +kernel
theorem d_Mo_first_63 : decode bc_Mo_first 63 = .ok (.aload_n 0, 1) := by decide +kernel
theorem d_Mo_first_64 : decode bc_Mo_first 64 = .ok (.iload 4, 2) := by decide +kernel
theorem d_Mo_first_66 : decode bc_Mo_first 66 = .ok (.invokevirtual 367, 3) := by decide +kernel
theorem d_Mo_first_69 : decode bc_Mo_first 69 = .ok (.ifCond .ne 14, 3) := by decide +kernel
theorem d_Mo_first_72 : decode bc_Mo_first 72 = .ok (.iload_n 1, 1) := by decide +kernel
theorem d_Mo_first_73 : decode bc_Mo_first 73 = .ok (.ifCond .ne 8, 3) := by decide +kernel
theorem d_Mo_first_76 : decode bc_Mo_first 76 = .ok (.iload 4, 2) := by decide +kernel
theorem d_Mo_first_78 : decode bc_Mo_first 78 = .ok (.goto 4, 3) := by decide +kernel
theorem d_Mo_first_81 : decode bc_Mo_first 81 = .ok (.iload_n 2, 1) := by decide +kernel
theorem d_Mo_first_82 : decode bc_Mo_first 82 = .ok (.ireturn, 1) := by decide +kernel
theorem d_Mo_first_83 : decode bc_Mo_first 83 = .ok (.iinc 4 1, 3) := by decide +kernel
theorem d_Mo_first_86 : decode bc_Mo_first 86 = .ok (.goto (-47), 3) := by decide +kernel
theorem d_Mo_first_89 : decode bc_Mo_first 89 = .ok (.iinc 2 1, 3) := by decide +kernel
theorem d_Mo_first_92 : decode bc_Mo_first 92 = .ok (.goto (-75), 3) := by decide +kernel
theorem d_Mo_first_95 : decode bc_Mo_first 95 = .ok (.bipush (-2), 2) := by decide +kernel
theorem d_Mo_first_97 : decode bc_Mo_first 97 = .ok (.ireturn, 1) := by decide +kernel
set_option maxRecDepth 20000 in
theorem w_Mo_first_b39 {X : CX} {V : WV} (hV : IsM V) {z : Int32 × Mem} (hC : Ck X V bc_Mo_first 5 "SecretWellsModel" (some .int) 10 221) (k17 : Int32 → Int32 → Mem → Option (Int32 × Mem)) (hk17 : ∀ (x1 : Int32) (x2 : Int32) (S : Mem), k17 x1 x2 S = some z → G X V 5 (QI X V z.1 z.2) 17 [some (.ref (V.2.2.1 0 0)), some (.int x1), some (.int x2), none, none] [] S) (k39 : Int32 → Int32 → Int32 → Int32 → Mem → Option (Int32 × Mem)) (hk39 : ∀ (x1 : Int32) (x2 : Int32) (x3 : Int32) (x4 : Int32) (S : Mem), k39 x1 x2 x3 x4 S = some z → G X V 5 (QI X V z.1 z.2) 39 [some (.ref (V.2.2.1 0 0)), some (.int x1), some (.int x2), some (.int x3), some (.int x4)] [] S) (x1 : Int32) (x2 : Int32) (x3 : Int32) (x4 : Int32) (S : Mem) (h : f_Mo_first_b39  k17 k39 x1 x2 x3 x4 S = some z) : G X V 5 (QI X V z.1 z.2) 39 [some (.ref (V.2.2.1 0 0)), some (.int x1), some (.int x2), some (.int x3), some (.int x4)] [] S := by
  unfold f_Mo_first_b39 at h
  refine g_iload (pc := 39) hC (i := 4) (x := x4) rfl d_Mo_first_39 ?_
  refine g_aload_n (pc := 41) hC (i := 0) (x := (V.2.2.1 0 0)) rfl rfl d_Mo_first_41 ?_
  refine g_getA (pc := 42) hC fo_Mo_58 (ob_Mo hV) rfl d_Mo_first_42 ?_
  refine g_aload_n (pc := 45) hC (i := 0) (x := (V.2.2.1 0 0)) rfl rfl d_Mo_first_45 ?_
  refine g_getI (pc := 46) hC fo_Mo_245 (ob_Mo hV) rfl d_Mo_first_46 ?_
  refine g_iald (pc := 49) hC (ar_Mo_27 hV) d_Mo_first_49 h (fun h => ?_)
  refine g_icmp_ge (pc := 50) hC (tgt := 89) (by decide) d_Mo_first_50 h (fun h => ?_) (fun h => ?_)
  · refine s_iinc (pc := 89) hC (i := 2) (x := x2) (v := x2 + 1) rfl (by rw [kc_1]) (by decide) d_Mo_first_89 (lv2 := [some (.ref (V.2.2.1 0 0)), some (.int x1), some (.int (x2 + 1)), some (.int x3), some (.int x4)]) rfl ?_
    refine g_goto (pc := 92) hC (tgt := 17) (by decide) d_Mo_first_92 ?_
    refine g_le (lv2 := [some (.ref (V.2.2.1 0 0)), some (.int x1), some (.int (x2 + 1)), none, none]) (⟨rfl, ⟨rfl, ⟨rfl, trivial⟩⟩⟩) ?_
    exact hk17 x1 (x2 + 1) S h
  · refine g_iload_n (pc := 53) hC (i := 3) (x := x3) rfl rfl d_Mo_first_53 ?_
    refine g_iload (pc := 54) hC (i := 4) (x := x4) rfl d_Mo_first_54 ?_
    refine g_ishr (pc := 56) hC d_Mo_first_56 ?_
    refine g_iconst (pc := 57) hC kc_1 d_Mo_first_57 ?_
    refine g_iand (pc := 58) hC d_Mo_first_58 ?_
    refine g_iconst (pc := 59) hC kc_1 d_Mo_first_59 ?_
    refine g_icmp_ne (pc := 60) hC (tgt := 83) (by decide) d_Mo_first_60 h (fun h => ?_) (fun h => ?_)
    · refine s_iinc (pc := 83) hC (i := 4) (x := x4) (v := x4 + 1) rfl (by rw [kc_1]) (by decide) d_Mo_first_83 (lv2 := [some (.ref (V.2.2.1 0 0)), some (.int x1), some (.int x2), some (.int x3), some (.int (x4 + 1))]) rfl ?_
      refine g_goto (pc := 86) hC (tgt := 39) (by decide) d_Mo_first_86 ?_
      exact hk39 x1 x2 x3 (x4 + 1) S h
    · refine g_aload_n (pc := 63) hC (i := 0) (x := (V.2.2.1 0 0)) rfl rfl d_Mo_first_63 ?_
      refine g_iload (pc := 64) hC (i := 4) (x := x4) rfl d_Mo_first_64 ?_
      obtain ⟨q66, hq66, h⟩ := Option.bind_eq_some_iff.mp h
      refine g_vi (pc := 66) hC (As := [.int x4]) (st := []) mt_Mo_isAlive lk_Mo_367 rfl (ob_Mo hV) (Nat.le_of_ble_eq_true rfl) ⟨Nat.le_of_ble_eq_true rfl, Nat.le_of_ble_eq_true rfl⟩ rfl d_Mo_first_66 (c_Mo_isAlive hV hq66) ?_
      refine g_if_ne (pc := 69) hC (tgt := 83) (by decide) d_Mo_first_69 h (fun h => ?_) (fun h => ?_)
      · refine s_iinc (pc := 83) hC (i := 4) (x := x4) (v := x4 + 1) rfl (by rw [kc_1]) (by decide) d_Mo_first_83 (lv2 := [some (.ref (V.2.2.1 0 0)), some (.int x1), some (.int x2), some (.int x3), some (.int (x4 + 1))]) rfl ?_
        refine g_goto (pc := 86) hC (tgt := 39) (by decide) d_Mo_first_86 ?_
        exact hk39 x1 x2 x3 (x4 + 1) S h
      · refine g_iload_n (pc := 72) hC (i := 1) (x := x1) rfl rfl d_Mo_first_72 ?_
        refine g_if_ne (pc := 73) hC (tgt := 81) (by decide) d_Mo_first_73 h (fun h => ?_) (fun h => ?_)
        · refine g_iload_n (pc := 81) hC (i := 2) (x := x2) rfl rfl d_Mo_first_81 ?_
          exact g_iW (pc := 82) hC rfl d_Mo_first_82 h
        · refine g_iload (pc := 76) hC (i := 4) (x := x4) rfl d_Mo_first_76 ?_
          refine g_goto (pc := 78) hC (tgt := 82) (by decide) d_Mo_first_78 ?_
          exact g_iW (pc := 82) hC rfl d_Mo_first_82 h
theorem w_Mo_first_l39 {X : CX} {V : WV} (hV : IsM V) {z : Int32 × Mem} (hC : Ck X V bc_Mo_first 5 "SecretWellsModel" (some .int) 10 221) (k17 : Int32 → Int32 → Mem → Option (Int32 × Mem)) (hk17 : ∀ (x1 : Int32) (x2 : Int32) (S : Mem), k17 x1 x2 S = some z → G X V 5 (QI X V z.1 z.2) 17 [some (.ref (V.2.2.1 0 0)), some (.int x1), some (.int x2), none, none] [] S) : ∀ (n : Nat) (x1 : Int32) (x2 : Int32) (x3 : Int32) (x4 : Int32) (S : Mem), f_Mo_first_l39  k17 n x1 x2 x3 x4 S = some z → G X V 5 (QI X V z.1 z.2) 39 [some (.ref (V.2.2.1 0 0)), some (.int x1), some (.int x2), some (.int x3), some (.int x4)] [] S := by
  intro n
  induction n with
  | zero =>
    intro x1 x2 x3 x4 S h
    have h : (none : Option (Int32 × Mem)) = some z := h
    cases h
  | succ n ih =>
    intro x1 x2 x3 x4 S h
    exact w_Mo_first_b39 hV hC k17 hk17 (f_Mo_first_l39  k17 n) ih x1 x2 x3 x4 S h
set_option maxRecDepth 20000 in
theorem w_Mo_first_b17 {X : CX} {V : WV} (hV : IsM V) {z : Int32 × Mem} (hC : Ck X V bc_Mo_first 5 "SecretWellsModel" (some .int) 10 221) (k17 : Int32 → Int32 → Mem → Option (Int32 × Mem)) (hk17 : ∀ (x1 : Int32) (x2 : Int32) (S : Mem), k17 x1 x2 S = some z → G X V 5 (QI X V z.1 z.2) 17 [some (.ref (V.2.2.1 0 0)), some (.int x1), some (.int x2), none, none] [] S) (x1 : Int32) (x2 : Int32) (S : Mem) (h : f_Mo_first_b17  k17 x1 x2 S = some z) : G X V 5 (QI X V z.1 z.2) 17 [some (.ref (V.2.2.1 0 0)), some (.int x1), some (.int x2), none, none] [] S := by
  unfold f_Mo_first_b17 at h
  refine g_iload_n (pc := 17) hC (i := 2) (x := x2) rfl rfl d_Mo_first_17 ?_
  refine g_sipush (pc := 18) hC ks_200 d_Mo_first_18 ?_
  refine g_icmp_gt (pc := 21) hC (tgt := 95) (by decide) d_Mo_first_21 h (fun h => ?_) (fun h => ?_)
  · refine g_bipush (pc := 95) hC kb_m2 d_Mo_first_95 ?_
    exact g_iW (pc := 97) hC rfl d_Mo_first_97 h
  · refine g_aload_n (pc := 24) hC (i := 0) (x := (V.2.2.1 0 0)) rfl rfl d_Mo_first_24 ?_
    refine g_getA (pc := 25) hC fo_Mo_137 (ob_Mo hV) rfl d_Mo_first_25 ?_
    refine g_bipush (pc := 28) hC kb_33 d_Mo_first_28 ?_
    refine g_iald (pc := 30) hC (ar_Mo_57 hV) d_Mo_first_30 h (fun h => ?_)
    refine g_leti h (fun y31 h => ?_)
    refine s_istore_n (pc := 31) hC (i := 3) rfl (by decide) d_Mo_first_31 (lv2 := [some (.ref (V.2.2.1 0 0)), some (.int x1), some (.int x2), some (.int y31), none]) rfl ?_
    refine g_aload_n (pc := 32) hC (i := 0) (x := (V.2.2.1 0 0)) rfl rfl d_Mo_first_32 ?_
    obtain ⟨q33, hq33, h⟩ := Option.bind_eq_some_iff.mp h
    refine g_vv (pc := 33) hC (As := []) (st := []) mt_Mo_dayGoes lk_Mo_416 rfl (ob_Mo hV) (Nat.le_of_ble_eq_true rfl) ⟨Nat.le_of_ble_eq_true rfl, Nat.le_of_ble_eq_true rfl⟩ rfl d_Mo_first_33 (c_Mo_dayGoes hV hq33) ?_
    refine g_iconst (pc := 36) hC kc_0 d_Mo_first_36 ?_
    refine s_istore (pc := 37) hC (i := 4) (by decide) d_Mo_first_37 (lv2 := [some (.ref (V.2.2.1 0 0)), some (.int x1), some (.int x2), some (.int y31), some (.int 0)]) rfl ?_
    exact w_Mo_first_l39 hV hC k17 hk17 5000 x1 x2 y31 0 q33 h
theorem w_Mo_first_l17 {X : CX} {V : WV} (hV : IsM V) {z : Int32 × Mem} (hC : Ck X V bc_Mo_first 5 "SecretWellsModel" (some .int) 10 221) : ∀ (n : Nat) (x1 : Int32) (x2 : Int32) (S : Mem), f_Mo_first_l17  n x1 x2 S = some z → G X V 5 (QI X V z.1 z.2) 17 [some (.ref (V.2.2.1 0 0)), some (.int x1), some (.int x2), none, none] [] S := by
  intro n
  induction n with
  | zero =>
    intro x1 x2 S h
    have h : (none : Option (Int32 × Mem)) = some z := h
    cases h
  | succ n ih =>
    intro x1 x2 S h
    exact w_Mo_first_b17 hV hC (f_Mo_first_l17  n) ih x1 x2 S h
set_option maxRecDepth 20000 in
theorem w_Mo_first_b0 {X : CX} {V : WV} (hV : IsM V) {z : Int32 × Mem} (hC : Ck X V bc_Mo_first 5 "SecretWellsModel" (some .int) 10 221) (x1 : Int32) (S : Mem) (h : f_Mo_first_b0  x1 S = some z) : G X V 5 (QI X V z.1 z.2) 0 [some (.ref (V.2.2.1 0 0)), some (.int x1), none, none, none] [] S := by
  unfold f_Mo_first_b0 at h
  refine g_iload_n (pc := 0) hC (i := 1) (x := x1) rfl rfl d_Mo_first_0 ?_
  refine g_iconst (pc := 1) hC kc_0 d_Mo_first_1 ?_
  refine g_iconst (pc := 2) hC kc_1 d_Mo_first_2 ?_
  obtain ⟨q3, hq3, h⟩ := Option.bind_eq_some_iff.mp h
  refine g_si (pc := 3) hC (As := [.int x1, .int 0, .int 1]) (st := []) mt_Mo_in lk_Mo_332 (Nat.le_of_ble_eq_true rfl) ⟨Nat.le_of_ble_eq_true rfl, Nat.le_of_ble_eq_true rfl⟩ rfl d_Mo_first_3 (c_Mo_in (IsM.ok hV) hq3) ?_
  refine g_if_ne (pc := 6) hC (tgt := 11) (by decide) d_Mo_first_6 h (fun h => ?_) (fun h => ?_)
  · refine g_aload_n (pc := 11) hC (i := 0) (x := (V.2.2.1 0 0)) rfl rfl d_Mo_first_11 ?_
    obtain ⟨q12, hq12, h⟩ := Option.bind_eq_some_iff.mp h
    refine g_vv (pc := 12) hC (As := []) (st := []) mt_Mo_copies lk_Mo_422 rfl (ob_Mo hV) (Nat.le_of_ble_eq_true rfl) ⟨Nat.le_of_ble_eq_true rfl, Nat.le_of_ble_eq_true rfl⟩ rfl d_Mo_first_12 (c_Mo_copies hV hq12) ?_
    refine g_iconst (pc := 15) hC kc_1 d_Mo_first_15 ?_
    refine s_istore_n (pc := 16) hC (i := 2) rfl (by decide) d_Mo_first_16 (lv2 := [some (.ref (V.2.2.1 0 0)), some (.int x1), some (.int 1), none, none]) rfl ?_
    exact w_Mo_first_l17 hV hC 5000 x1 1 q12 h
  · refine g_iconst (pc := 9) hC kc_m1 d_Mo_first_9 ?_
    exact g_iW (pc := 10) hC rfl d_Mo_first_10 h
theorem c_Mo_first {V : WV} {l : Launch} (hV : IsM V) {x1 : Int32} {S : Mem} {z : Int32 × Mem} (h : f_Mo_first x1 S = some z) : CI V l y_Mo_first bc_Mo_first 5 (some .int) 10 221 [.ref (V.2.2.1 0 0), .int x1] S z.1 z.2 :=
  ct_i rfl (IsM.ok hV) (Nat.le_of_ble_eq_true rfl) (fun _ _ hC => w_Mo_first_b0 hV hC x1 S h)
def f_Mo_rainsBy_b13 (k13 : Int32 → Int32 → Int32 → Int32 → Int32 → Mem → Option (Int32 × Mem)) (x1 : Int32) (x2 : Int32) (x4 : Int32) (x5 : Int32) (x6 : Int32) (S : Mem) : Option (Int32 × Mem) :=
  gIn (S.1 0 18) 2 (
  if (S.2.1 0 30 (S.1 0 18).toNatClampNeg) ≤ x6 then
    some (x5, S)
  else
    if ((x1 >>> (x6 &&& 31)) &&& 1) = 0 then
      k13 x1 x2 x4 x5 (x6 + 1) S
    else
      gIn (S.1 0 18) 2 (
      gNz ((S.2.1 0 24 (S.1 0 18).toNatClampNeg) + 1) (
      letS (x4 / ((S.2.1 0 24 (S.1 0 18).toNatClampNeg) + 1)) (fun y53 =>
      gNz y53 (
      gIn (S.1 0 18) 2 (
      gNz ((S.2.1 0 24 (S.1 0 18).toNatClampNeg) + 1) (
      letS (((x2 / y53) - (x2 / y53) / ((S.2.1 0 24 (S.1 0 18).toNatClampNeg) + 1) * ((S.2.1 0 24 (S.1 0 18).toNatClampNeg) + 1)) - 1) (fun y73 =>
      if y73 < 0 then
        k13 x1 x2 y53 x5 (x6 + 1) S
      else
        Option.bind (f_Mo_knownBy x6 S) (fun q83 =>
        if q83 = 0 then
          k13 x1 x2 y53 x5 (x6 + 1) S
        else
          gIn (4 + x6) 40 (letS (sA S 0 57 (4 + x6) y73) (fun S102 =>
          Option.bind (f_Mo_cutsWater S102) (fun q107 =>
          k13 x1 x2 y53 (x5 + 1) (x6 + 1) q107))))))))))))
def f_Mo_rainsBy_l13 : Nat → Int32 → Int32 → Int32 → Int32 → Int32 → Mem → Option (Int32 × Mem)
  | 0 => fun _ _ _ _ _ _ => none
  | n + 1 => f_Mo_rainsBy_b13  (f_Mo_rainsBy_l13  n)
def f_Mo_rainsBy_b0 (x1 : Int32) (x2 : Int32) (x3 : Int32) (S : Mem) : Option (Int32 × Mem) :=
  Option.bind (f_Mo_copies S) (fun q1 =>
  f_Mo_rainsBy_l13 5000 x1 x2 x3 0 0 q1)
def f_Mo_rainsBy (x1 : Int32) (x2 : Int32) (x3 : Int32) (S : Mem) : Option (Int32 × Mem) := f_Mo_rainsBy_b0  x1 x2 x3 S
theorem d_Mo_rainsBy_0 : decode bc_Mo_rainsBy 0 = .ok (.aload_n 0, 1) := by decide +kernel
theorem d_Mo_rainsBy_1 : decode bc_Mo_rainsBy 1 = .ok (.invokevirtual 422, 3) := by decide +kernel
theorem d_Mo_rainsBy_4 : decode bc_Mo_rainsBy 4 = .ok (.iload_n 3, 1) := by decide +kernel
theorem d_Mo_rainsBy_5 : decode bc_Mo_rainsBy 5 = .ok (.istore 4, 2) := by decide +kernel
theorem d_Mo_rainsBy_7 : decode bc_Mo_rainsBy 7 = .ok (.iconst 0, 1) := by decide +kernel
theorem d_Mo_rainsBy_8 : decode bc_Mo_rainsBy 8 = .ok (.istore 5, 2) := by decide +kernel
theorem d_Mo_rainsBy_10 : decode bc_Mo_rainsBy 10 = .ok (.iconst 0, 1) := by decide +kernel
theorem d_Mo_rainsBy_11 : decode bc_Mo_rainsBy 11 = .ok (.istore 6, 2) := by decide +kernel
theorem d_Mo_rainsBy_13 : decode bc_Mo_rainsBy 13 = .ok (.iload 6, 2) := by decide +kernel
theorem d_Mo_rainsBy_15 : decode bc_Mo_rainsBy 15 = .ok (.aload_n 0, 1) := by decide +kernel
theorem d_Mo_rainsBy_16 : decode bc_Mo_rainsBy 16 = .ok (.getfield 67, 3) := by decide +kernel
theorem d_Mo_rainsBy_19 : decode bc_Mo_rainsBy 19 = .ok (.aload_n 0, 1) := by decide +kernel
theorem d_Mo_rainsBy_20 : decode bc_Mo_rainsBy 20 = .ok (.getfield 245, 3) := by decide +kernel
theorem d_Mo_rainsBy_23 : decode bc_Mo_rainsBy 23 = .ok (.iaload, 1) := by decide +kernel
theorem d_Mo_rainsBy_24 : decode bc_Mo_rainsBy 24 = .ok (.if_icmp .ge 92, 3) := by decide +kernel
theorem d_Mo_rainsBy_27 : decode bc_Mo_rainsBy 27 = .ok (.iload_n 1, 1) := by decide +kernel
theorem d_Mo_rainsBy_28 : decode bc_Mo_rainsBy 28 = .ok (.iload 6, 2) := by decide +kernel
theorem d_Mo_rainsBy_30 : decode bc_Mo_rainsBy 30 = .ok (.ishr, 1) := by decide +kernel
theorem d_Mo_rainsBy_31 : decode bc_Mo_rainsBy 31 = .ok (.iconst 1, 1) := by decide +kernel
theorem d_Mo_rainsBy_32 : decode bc_Mo_rainsBy 32 = .ok (.iand, 1) := by decide +kernel
theorem d_Mo_rainsBy_33 : decode bc_Mo_rainsBy 33 = .ok (.ifCond .ne 6, 3) := by decide +kernel
theorem d_Mo_rainsBy_36 : decode bc_Mo_rainsBy 36 = .ok (.goto 74, 3) := by decide +kernel
theorem d_Mo_rainsBy_39 : decode bc_Mo_rainsBy 39 = .ok (.iload 4, 2) := by decide +kernel
theorem d_Mo_rainsBy_41 : decode bc_Mo_rainsBy 41 = .ok (.aload_n 0, 1) := by decide +kernel
theorem d_Mo_rainsBy_42 : decode bc_Mo_rainsBy 42 = .ok (.getfield 49, 3) := by decide +kernel
theorem d_Mo_rainsBy_45 : decode bc_Mo_rainsBy 45 = .ok (.aload_n 0, 1) := by decide +kernel
theorem d_Mo_rainsBy_46 : decode bc_Mo_rainsBy 46 = .ok (.getfield 245, 3) := by decide +kernel
theorem d_Mo_rainsBy_49 : decode bc_Mo_rainsBy 49 = .ok (.iaload, 1) := by decide +kernel
theorem d_Mo_rainsBy_50 : decode bc_Mo_rainsBy 50 = .ok (.iconst 1, 1) := by decide +kernel
theorem d_Mo_rainsBy_51 : decode bc_Mo_rainsBy 51 = .ok (.iadd, 1) := by decide +kernel
theorem d_Mo_rainsBy_52 : decode bc_Mo_rainsBy 52 = .ok (.idiv, 1) := by decide +kernel
theorem d_Mo_rainsBy_53 : decode bc_Mo_rainsBy 53 = .ok (.istore 4, 2) := by decide +kernel
theorem d_Mo_rainsBy_55 : decode bc_Mo_rainsBy 55 = .ok (.iload_n 2, 1) := by decide +kernel
theorem d_Mo_rainsBy_56 : decode bc_Mo_rainsBy 56 = .ok (.iload 4, 2) := by decide +kernel
theorem d_Mo_rainsBy_58 : decode bc_Mo_rainsBy 58 = .ok (.idiv, 1) := by decide +kernel
theorem d_Mo_rainsBy_59 : decode bc_Mo_rainsBy 59 = .ok (.aload_n 0, 1) := by decide +kernel
theorem d_Mo_rainsBy_60 : decode bc_Mo_rainsBy 60 = .ok (.getfield 49, 3) := by decide +kernel
theorem d_Mo_rainsBy_63 : decode bc_Mo_rainsBy 63 = .ok (.aload_n 0, 1) := by decide +kernel
theorem d_Mo_rainsBy_64 : decode bc_Mo_rainsBy 64 = .ok (.getfield 245, 3) := by decide +kernel
theorem d_Mo_rainsBy_67 : decode bc_Mo_rainsBy 67 = .ok (.iaload, 1) := by decide +kernel
theorem d_Mo_rainsBy_68 : decode bc_Mo_rainsBy 68 = .ok (.iconst 1, 1) := by decide +kernel
theorem d_Mo_rainsBy_69 : decode bc_Mo_rainsBy 69 = .ok (.iadd, 1) := by decide +kernel
theorem d_Mo_rainsBy_70 : decode bc_Mo_rainsBy 70 = .ok (.irem, 1) := by decide +kernel
theorem d_Mo_rainsBy_71 : decode bc_Mo_rainsBy 71 = .ok (.iconst 1, 1) := by decide +kernel
theorem d_Mo_rainsBy_72 : decode bc_Mo_rainsBy 72 = .ok (.isub, 1) := by decide +kernel
theorem d_Mo_rainsBy_73 : decode bc_Mo_rainsBy 73 = .ok (.istore 7, 2) := by decide +kernel
theorem d_Mo_rainsBy_75 : decode bc_Mo_rainsBy 75 = .ok (.iload 7, 2) := by decide +kernel
theorem d_Mo_rainsBy_77 : decode bc_Mo_rainsBy 77 = .ok (.ifCond .lt 33, 3) := by decide +kernel
theorem d_Mo_rainsBy_80 : decode bc_Mo_rainsBy 80 = .ok (.aload_n 0, 1) := by decide +kernel
theorem d_Mo_rainsBy_81 : decode bc_Mo_rainsBy 81 = .ok (.iload 6, 2) := by decide +kernel
theorem d_Mo_rainsBy_83 : decode bc_Mo_rainsBy 83 = .ok (.invokevirtual 352, 3) := by decide +kernel
theorem d_Mo_rainsBy_86 : decode bc_Mo_rainsBy 86 = .ok (.ifCond .ne 6, 3) := by decide +kernel
theorem d_Mo_rainsBy_89 : decode bc_Mo_rainsBy 89 = .ok (.goto 21, 3) := by decide +kernel
theorem d_Mo_rainsBy_92 : decode bc_Mo_rainsBy 92 = .ok (.aload_n 0, 1) := by decide +kernel
theorem d_Mo_rainsBy_93 : decode bc_Mo_rainsBy 93 = .ok (.getfield 137, 3) := by decide +kernel
theorem d_Mo_rainsBy_96 : decode bc_Mo_rainsBy 96 = .ok (.iconst 4, 1) := by decide +kernel
theorem d_Mo_rainsBy_97 : decode bc_Mo_rainsBy 97 = .ok (.iload 6, 2) := by decide +kernel
theorem d_Mo_rainsBy_99 : decode bc_Mo_rainsBy 99 = .ok (.iadd, 1) := by decide +kernel
theorem d_Mo_rainsBy_100 : decode bc_Mo_rainsBy 100 = .ok (.iload 7, 2) := by decide +kernel
theorem d_Mo_rainsBy_102 : decode bc_Mo_rainsBy 102 = .ok (.iastore, 1) := by decide +kernel
theorem d_Mo_rainsBy_103 : decode bc_Mo_rainsBy 103 = .ok (.iinc 5 1, 3) := by decide +kernel
theorem d_Mo_rainsBy_106 : decode bc_Mo_rainsBy 106 = .ok (.aload_n 0, 1) := by decide +kernel
theorem d_Mo_rainsBy_107 : decode bc_Mo_rainsBy 107 = .ok (.invokevirtual 339, 3) := by decide +kernel
theorem d_Mo_rainsBy_110 : decode bc_Mo_rainsBy 110 = .ok (.iinc 6 1, 3) := by decide +kernel
theorem d_Mo_rainsBy_113 : decode bc_Mo_rainsBy 113 = .ok (.goto (-100), 3) := by decide +kernel
theorem d_Mo_rainsBy_116 : decode bc_Mo_rainsBy 116 = .ok (.iload 5, 2) := by decide +kernel
theorem d_Mo_rainsBy_118 : decode bc_Mo_rainsBy 118 = .ok (.ireturn, 1) := by decide +kernel
set_option maxRecDepth 20000 in
theorem w_Mo_rainsBy_b13 {X : CX} {V : WV} (hV : IsM V) {z : Int32 × Mem} (hC : Ck X V bc_Mo_rainsBy 8 "SecretWellsModel" (some .int) 6 132) (k13 : Int32 → Int32 → Int32 → Int32 → Int32 → Mem → Option (Int32 × Mem)) (hk13 : ∀ (x1 : Int32) (x2 : Int32) (x4 : Int32) (x5 : Int32) (x6 : Int32) (S : Mem), k13 x1 x2 x4 x5 x6 S = some z → G X V 8 (QI X V z.1 z.2) 13 [some (.ref (V.2.2.1 0 0)), some (.int x1), some (.int x2), none, some (.int x4), some (.int x5), some (.int x6), none] [] S) (x1 : Int32) (x2 : Int32) (x4 : Int32) (x5 : Int32) (x6 : Int32) (S : Mem) (h : f_Mo_rainsBy_b13  k13 x1 x2 x4 x5 x6 S = some z) : G X V 8 (QI X V z.1 z.2) 13 [some (.ref (V.2.2.1 0 0)), some (.int x1), some (.int x2), none, some (.int x4), some (.int x5), some (.int x6), none] [] S := by
  unfold f_Mo_rainsBy_b13 at h
  refine g_iload (pc := 13) hC (i := 6) (x := x6) rfl d_Mo_rainsBy_13 ?_
  refine g_aload_n (pc := 15) hC (i := 0) (x := (V.2.2.1 0 0)) rfl rfl d_Mo_rainsBy_15 ?_
  refine g_getA (pc := 16) hC fo_Mo_67 (ob_Mo hV) rfl d_Mo_rainsBy_16 ?_
  refine g_aload_n (pc := 19) hC (i := 0) (x := (V.2.2.1 0 0)) rfl rfl d_Mo_rainsBy_19 ?_
  refine g_getI (pc := 20) hC fo_Mo_245 (ob_Mo hV) rfl d_Mo_rainsBy_20 ?_
  refine g_iald (pc := 23) hC (ar_Mo_30 hV) d_Mo_rainsBy_23 h (fun h => ?_)
  refine g_icmp_ge (pc := 24) hC (tgt := 116) (by decide) d_Mo_rainsBy_24 h (fun h => ?_) (fun h => ?_)
  · refine g_iload (pc := 116) hC (i := 5) (x := x5) rfl d_Mo_rainsBy_116 ?_
    exact g_iW (pc := 118) hC rfl d_Mo_rainsBy_118 h
  · refine g_iload_n (pc := 27) hC (i := 1) (x := x1) rfl rfl d_Mo_rainsBy_27 ?_
    refine g_iload (pc := 28) hC (i := 6) (x := x6) rfl d_Mo_rainsBy_28 ?_
    refine g_ishr (pc := 30) hC d_Mo_rainsBy_30 ?_
    refine g_iconst (pc := 31) hC kc_1 d_Mo_rainsBy_31 ?_
    refine g_iand (pc := 32) hC d_Mo_rainsBy_32 ?_
    refine g_if_ne (pc := 33) hC (tgt := 39) (by decide) d_Mo_rainsBy_33 h (fun h => ?_) (fun h => ?_)
    · refine g_iload (pc := 39) hC (i := 4) (x := x4) rfl d_Mo_rainsBy_39 ?_
      refine g_aload_n (pc := 41) hC (i := 0) (x := (V.2.2.1 0 0)) rfl rfl d_Mo_rainsBy_41 ?_
      refine g_getA (pc := 42) hC fo_Mo_49 (ob_Mo hV) rfl d_Mo_rainsBy_42 ?_
      refine g_aload_n (pc := 45) hC (i := 0) (x := (V.2.2.1 0 0)) rfl rfl d_Mo_rainsBy_45 ?_
      refine g_getI (pc := 46) hC fo_Mo_245 (ob_Mo hV) rfl d_Mo_rainsBy_46 ?_
      refine g_iald (pc := 49) hC (ar_Mo_24 hV) d_Mo_rainsBy_49 h (fun h => ?_)
      refine g_iconst (pc := 50) hC kc_1 d_Mo_rainsBy_50 ?_
      refine g_iadd (pc := 51) hC d_Mo_rainsBy_51 ?_
      refine g_idiv (pc := 52) hC d_Mo_rainsBy_52 h (fun h => ?_)
      refine g_leti h (fun y53 h => ?_)
      refine s_istore (pc := 53) hC (i := 4) (by decide) d_Mo_rainsBy_53 (lv2 := [some (.ref (V.2.2.1 0 0)), some (.int x1), some (.int x2), none, some (.int y53), some (.int x5), some (.int x6), none]) rfl ?_
      refine g_iload_n (pc := 55) hC (i := 2) (x := x2) rfl rfl d_Mo_rainsBy_55 ?_
      refine g_iload (pc := 56) hC (i := 4) (x := y53) rfl d_Mo_rainsBy_56 ?_
      refine g_idiv (pc := 58) hC d_Mo_rainsBy_58 h (fun h => ?_)
      refine g_aload_n (pc := 59) hC (i := 0) (x := (V.2.2.1 0 0)) rfl rfl d_Mo_rainsBy_59 ?_
      refine g_getA (pc := 60) hC fo_Mo_49 (ob_Mo hV) rfl d_Mo_rainsBy_60 ?_
      refine g_aload_n (pc := 63) hC (i := 0) (x := (V.2.2.1 0 0)) rfl rfl d_Mo_rainsBy_63 ?_
      refine g_getI (pc := 64) hC fo_Mo_245 (ob_Mo hV) rfl d_Mo_rainsBy_64 ?_
      refine g_iald (pc := 67) hC (ar_Mo_24 hV) d_Mo_rainsBy_67 h (fun h => ?_)
      refine g_iconst (pc := 68) hC kc_1 d_Mo_rainsBy_68 ?_
      refine g_iadd (pc := 69) hC d_Mo_rainsBy_69 ?_
      refine g_irem (pc := 70) hC d_Mo_rainsBy_70 h (fun h => ?_)
      refine g_iconst (pc := 71) hC kc_1 d_Mo_rainsBy_71 ?_
      refine g_isub (pc := 72) hC d_Mo_rainsBy_72 ?_
      refine g_leti h (fun y73 h => ?_)
      refine s_istore (pc := 73) hC (i := 7) (by decide) d_Mo_rainsBy_73 (lv2 := [some (.ref (V.2.2.1 0 0)), some (.int x1), some (.int x2), none, some (.int y53), some (.int x5), some (.int x6), some (.int y73)]) rfl ?_
      refine g_iload (pc := 75) hC (i := 7) (x := y73) rfl d_Mo_rainsBy_75 ?_
      refine g_if_lt (pc := 77) hC (tgt := 110) (by decide) d_Mo_rainsBy_77 h (fun h => ?_) (fun h => ?_)
      · refine s_iinc (pc := 110) hC (i := 6) (x := x6) (v := x6 + 1) rfl (by rw [kc_1]) (by decide) d_Mo_rainsBy_110 (lv2 := [some (.ref (V.2.2.1 0 0)), some (.int x1), some (.int x2), none, some (.int y53), some (.int x5), some (.int (x6 + 1)), some (.int y73)]) rfl ?_
        refine g_goto (pc := 113) hC (tgt := 13) (by decide) d_Mo_rainsBy_113 ?_
        refine g_le (lv2 := [some (.ref (V.2.2.1 0 0)), some (.int x1), some (.int x2), none, some (.int y53), some (.int x5), some (.int (x6 + 1)), none]) (⟨rfl, ⟨rfl, ⟨rfl, ⟨rfl, ⟨rfl, ⟨rfl, trivial⟩⟩⟩⟩⟩⟩) ?_
        exact hk13 x1 x2 y53 x5 (x6 + 1) S h
      · refine g_aload_n (pc := 80) hC (i := 0) (x := (V.2.2.1 0 0)) rfl rfl d_Mo_rainsBy_80 ?_
        refine g_iload (pc := 81) hC (i := 6) (x := x6) rfl d_Mo_rainsBy_81 ?_
        obtain ⟨q83, hq83, h⟩ := Option.bind_eq_some_iff.mp h
        refine g_vi (pc := 83) hC (As := [.int x6]) (st := []) mt_Mo_knownBy lk_Mo_352 rfl (ob_Mo hV) (Nat.le_of_ble_eq_true rfl) ⟨Nat.le_of_ble_eq_true rfl, Nat.le_of_ble_eq_true rfl⟩ rfl d_Mo_rainsBy_83 (c_Mo_knownBy hV hq83) ?_
        refine g_if_ne (pc := 86) hC (tgt := 92) (by decide) d_Mo_rainsBy_86 h (fun h => ?_) (fun h => ?_)
        · refine g_aload_n (pc := 92) hC (i := 0) (x := (V.2.2.1 0 0)) rfl rfl d_Mo_rainsBy_92 ?_
          refine g_getA (pc := 93) hC fo_Mo_137 (ob_Mo hV) rfl d_Mo_rainsBy_93 ?_
          refine g_iconst (pc := 96) hC kc_4 d_Mo_rainsBy_96 ?_
          refine g_iload (pc := 97) hC (i := 6) (x := x6) rfl d_Mo_rainsBy_97 ?_
          refine g_iadd (pc := 99) hC d_Mo_rainsBy_99 ?_
          refine g_iload (pc := 100) hC (i := 7) (x := y73) rfl d_Mo_rainsBy_100 ?_
          refine g_iast (pc := 102) hC (ar_Mo_57 hV) d_Mo_rainsBy_102 h (fun h => ?_)
          refine g_letS h (fun S102 h => ?_)
          refine s_iinc (pc := 103) hC (i := 5) (x := x5) (v := x5 + 1) rfl (by rw [kc_1]) (by decide) d_Mo_rainsBy_103 (lv2 := [some (.ref (V.2.2.1 0 0)), some (.int x1), some (.int x2), none, some (.int y53), some (.int (x5 + 1)), some (.int x6), some (.int y73)]) rfl ?_
          refine g_aload_n (pc := 106) hC (i := 0) (x := (V.2.2.1 0 0)) rfl rfl d_Mo_rainsBy_106 ?_
          obtain ⟨q107, hq107, h⟩ := Option.bind_eq_some_iff.mp h
          refine g_vv (pc := 107) hC (As := []) (st := []) mt_Mo_cutsWater lk_Mo_339 rfl (ob_Mo hV) (Nat.le_of_ble_eq_true rfl) ⟨Nat.le_of_ble_eq_true rfl, Nat.le_of_ble_eq_true rfl⟩ rfl d_Mo_rainsBy_107 (c_Mo_cutsWater hV hq107) ?_
          refine s_iinc (pc := 110) hC (i := 6) (x := x6) (v := x6 + 1) rfl (by rw [kc_1]) (by decide) d_Mo_rainsBy_110 (lv2 := [some (.ref (V.2.2.1 0 0)), some (.int x1), some (.int x2), none, some (.int y53), some (.int (x5 + 1)), some (.int (x6 + 1)), some (.int y73)]) rfl ?_
          refine g_goto (pc := 113) hC (tgt := 13) (by decide) d_Mo_rainsBy_113 ?_
          refine g_le (lv2 := [some (.ref (V.2.2.1 0 0)), some (.int x1), some (.int x2), none, some (.int y53), some (.int (x5 + 1)), some (.int (x6 + 1)), none]) (⟨rfl, ⟨rfl, ⟨rfl, ⟨rfl, ⟨rfl, ⟨rfl, trivial⟩⟩⟩⟩⟩⟩) ?_
          exact hk13 x1 x2 y53 (x5 + 1) (x6 + 1) q107 h
        · refine g_goto (pc := 89) hC (tgt := 110) (by decide) d_Mo_rainsBy_89 ?_
          refine s_iinc (pc := 110) hC (i := 6) (x := x6) (v := x6 + 1) rfl (by rw [kc_1]) (by decide) d_Mo_rainsBy_110 (lv2 := [some (.ref (V.2.2.1 0 0)), some (.int x1), some (.int x2), none, some (.int y53), some (.int x5), some (.int (x6 + 1)), some (.int y73)]) rfl ?_
          refine g_goto (pc := 113) hC (tgt := 13) (by decide) d_Mo_rainsBy_113 ?_
          refine g_le (lv2 := [some (.ref (V.2.2.1 0 0)), some (.int x1), some (.int x2), none, some (.int y53), some (.int x5), some (.int (x6 + 1)), none]) (⟨rfl, ⟨rfl, ⟨rfl, ⟨rfl, ⟨rfl, ⟨rfl, trivial⟩⟩⟩⟩⟩⟩) ?_
          exact hk13 x1 x2 y53 x5 (x6 + 1) S h
    · refine g_goto (pc := 36) hC (tgt := 110) (by decide) d_Mo_rainsBy_36 ?_
      refine s_iinc (pc := 110) hC (i := 6) (x := x6) (v := x6 + 1) rfl (by rw [kc_1]) (by decide) d_Mo_rainsBy_110 (lv2 := [some (.ref (V.2.2.1 0 0)), some (.int x1), some (.int x2), none, some (.int x4), some (.int x5), some (.int (x6 + 1)), none]) rfl ?_
      refine g_goto (pc := 113) hC (tgt := 13) (by decide) d_Mo_rainsBy_113 ?_
      exact hk13 x1 x2 x4 x5 (x6 + 1) S h
theorem w_Mo_rainsBy_l13 {X : CX} {V : WV} (hV : IsM V) {z : Int32 × Mem} (hC : Ck X V bc_Mo_rainsBy 8 "SecretWellsModel" (some .int) 6 132) : ∀ (n : Nat) (x1 : Int32) (x2 : Int32) (x4 : Int32) (x5 : Int32) (x6 : Int32) (S : Mem), f_Mo_rainsBy_l13  n x1 x2 x4 x5 x6 S = some z → G X V 8 (QI X V z.1 z.2) 13 [some (.ref (V.2.2.1 0 0)), some (.int x1), some (.int x2), none, some (.int x4), some (.int x5), some (.int x6), none] [] S := by
  intro n
  induction n with
  | zero =>
    intro x1 x2 x4 x5 x6 S h
    have h : (none : Option (Int32 × Mem)) = some z := h
    cases h
  | succ n ih =>
    intro x1 x2 x4 x5 x6 S h
    exact w_Mo_rainsBy_b13 hV hC (f_Mo_rainsBy_l13  n) ih x1 x2 x4 x5 x6 S h
set_option maxRecDepth 20000 in
theorem w_Mo_rainsBy_b0 {X : CX} {V : WV} (hV : IsM V) {z : Int32 × Mem} (hC : Ck X V bc_Mo_rainsBy 8 "SecretWellsModel" (some .int) 6 132) (x1 : Int32) (x2 : Int32) (x3 : Int32) (S : Mem) (h : f_Mo_rainsBy_b0  x1 x2 x3 S = some z) : G X V 8 (QI X V z.1 z.2) 0 [some (.ref (V.2.2.1 0 0)), some (.int x1), some (.int x2), some (.int x3), none, none, none, none] [] S := by
  unfold f_Mo_rainsBy_b0 at h
  refine g_aload_n (pc := 0) hC (i := 0) (x := (V.2.2.1 0 0)) rfl rfl d_Mo_rainsBy_0 ?_
  obtain ⟨q1, hq1, h⟩ := Option.bind_eq_some_iff.mp h
  refine g_vv (pc := 1) hC (As := []) (st := []) mt_Mo_copies lk_Mo_422 rfl (ob_Mo hV) (Nat.le_of_ble_eq_true rfl) ⟨Nat.le_of_ble_eq_true rfl, Nat.le_of_ble_eq_true rfl⟩ rfl d_Mo_rainsBy_1 (c_Mo_copies hV hq1) ?_
  refine g_iload_n (pc := 4) hC (i := 3) (x := x3) rfl rfl d_Mo_rainsBy_4 ?_
  refine s_istore (pc := 5) hC (i := 4) (by decide) d_Mo_rainsBy_5 (lv2 := [some (.ref (V.2.2.1 0 0)), some (.int x1), some (.int x2), some (.int x3), some (.int x3), none, none, none]) rfl ?_
  refine g_iconst (pc := 7) hC kc_0 d_Mo_rainsBy_7 ?_
  refine s_istore (pc := 8) hC (i := 5) (by decide) d_Mo_rainsBy_8 (lv2 := [some (.ref (V.2.2.1 0 0)), some (.int x1), some (.int x2), some (.int x3), some (.int x3), some (.int 0), none, none]) rfl ?_
  refine g_iconst (pc := 10) hC kc_0 d_Mo_rainsBy_10 ?_
  refine s_istore (pc := 11) hC (i := 6) (by decide) d_Mo_rainsBy_11 (lv2 := [some (.ref (V.2.2.1 0 0)), some (.int x1), some (.int x2), some (.int x3), some (.int x3), some (.int 0), some (.int 0), none]) rfl ?_
  refine g_le (lv2 := [some (.ref (V.2.2.1 0 0)), some (.int x1), some (.int x2), none, some (.int x3), some (.int 0), some (.int 0), none]) (⟨rfl, ⟨rfl, ⟨rfl, ⟨rfl, ⟨rfl, ⟨rfl, trivial⟩⟩⟩⟩⟩⟩) ?_
  exact w_Mo_rainsBy_l13 hV hC 5000 x1 x2 x3 0 0 q1 h
theorem c_Mo_rainsBy {V : WV} {l : Launch} (hV : IsM V) {x1 : Int32} {x2 : Int32} {x3 : Int32} {S : Mem} {z : Int32 × Mem} (h : f_Mo_rainsBy x1 x2 x3 S = some z) : CI V l y_Mo_rainsBy bc_Mo_rainsBy 8 (some .int) 6 132 [.ref (V.2.2.1 0 0), .int x1, .int x2, .int x3] S z.1 z.2 :=
  ct_i rfl (IsM.ok hV) (Nat.le_of_ble_eq_true rfl) (fun _ _ hC => w_Mo_rainsBy_b0 hV hC x1 x2 x3 S h)
def f_Mo_thirstAll_b4 (S : Mem) (k4 : Int32 → Int32 → Option (Int32)) (x1 : Int32) (x2 : Int32) : Option (Int32) :=
  gIn (S.1 0 18) 2 (
  if (S.2.1 0 27 (S.1 0 18).toNatClampNeg) ≤ x2 then
    some x1
  else
    Option.bind (f_Mo_isAlive x2 S) (fun q19 =>
    if q19 = 0 then
      k4 x1 (x2 + 1)
    else
      gIn (19 + x2) 40 (
      letS (x1 + (S.2.1 0 57 (19 + x2).toNatClampNeg)) (fun y36 =>
      k4 y36 (x2 + 1)))))
def f_Mo_thirstAll_l4 (S : Mem) : Nat → Int32 → Int32 → Option (Int32)
  | 0 => fun _ _ => none
  | n + 1 => f_Mo_thirstAll_b4 S (f_Mo_thirstAll_l4 S n)
def f_Mo_thirstAll_b0 (S : Mem) : Option (Int32) :=
  f_Mo_thirstAll_l4 S 5000 0 0
def f_Mo_thirstAll (S : Mem) : Option (Int32) := f_Mo_thirstAll_b0 S
theorem d_Mo_thirstAll_0 : decode bc_Mo_thirstAll 0 = .ok (.iconst 0, 1) := by decide +kernel
theorem d_Mo_thirstAll_1 : decode bc_Mo_thirstAll 1 = .ok (.istore_n 1, 1) := by decide +kernel
theorem d_Mo_thirstAll_2 : decode bc_Mo_thirstAll 2 = .ok (.iconst 0, 1) := by decide +kernel
theorem d_Mo_thirstAll_3 : decode bc_Mo_thirstAll 3 = .ok (.istore_n 2, 1) := by decide +kernel
theorem d_Mo_thirstAll_4 : decode bc_Mo_thirstAll 4 = .ok (.iload_n 2, 1) := by decide +kernel
theorem d_Mo_thirstAll_5 : decode bc_Mo_thirstAll 5 = .ok (.aload_n 0, 1) := by decide +kernel
theorem d_Mo_thirstAll_6 : decode bc_Mo_thirstAll 6 = .ok (.getfield 58, 3) := by decide +kernel
theorem d_Mo_thirstAll_9 : decode bc_Mo_thirstAll 9 = .ok (.aload_n 0, 1) := by decide +kernel
theorem d_Mo_thirstAll_10 : decode bc_Mo_thirstAll 10 = .ok (.getfield 245, 3) := by decide +kernel
theorem d_Mo_thirstAll_13 : decode bc_Mo_thirstAll 13 = .ok (.iaload, 1) := by decide +kernel
theorem d_Mo_thirstAll_14 : decode bc_Mo_thirstAll 14 = .ok (.if_icmp .ge 29, 3) := by decide +kernel
theorem d_Mo_thirstAll_17 : decode bc_Mo_thirstAll 17 = .ok (.aload_n 0, 1) := by decide +kernel
theorem d_Mo_thirstAll_18 : decode bc_Mo_thirstAll 18 = .ok (.iload_n 2, 1) := by decide +kernel
theorem d_Mo_thirstAll_19 : decode bc_Mo_thirstAll 19 = .ok (.invokevirtual 367, 3) := by decide +kernel
theorem d_Mo_thirstAll_22 : decode bc_Mo_thirstAll 22 = .ok (.ifCond .eq 15, 3) := by decide +kernel
theorem d_Mo_thirstAll_25 : decode bc_Mo_thirstAll 25 = .ok (.iload_n 1, 1) := by decide +kernel
theorem d_Mo_thirstAll_26 : decode bc_Mo_thirstAll 26 = .ok (.aload_n 0, 1) := by decide +kernel
theorem d_Mo_thirstAll_27 : decode bc_Mo_thirstAll 27 = .ok (.getfield 137, 3) := by decide +kernel
theorem d_Mo_thirstAll_30 : decode bc_Mo_thirstAll 30 = .ok (.bipush 19, 2) := by decide +kernel
theorem d_Mo_thirstAll_32 : decode bc_Mo_thirstAll 32 = .ok (.iload_n 2, 1) := by decide +kernel
theorem d_Mo_thirstAll_33 : decode bc_Mo_thirstAll 33 = .ok (.iadd, 1) := by decide +kernel
theorem d_Mo_thirstAll_34 : decode bc_Mo_thirstAll 34 = .ok (.iaload, 1) := by decide +kernel
theorem d_Mo_thirstAll_35 : decode bc_Mo_thirstAll 35 = .ok (.iadd, 1) := by decide +kernel
theorem d_Mo_thirstAll_36 : decode bc_Mo_thirstAll 36 = .ok (.istore_n 1, 1) := by decide +kernel
theorem d_Mo_thirstAll_37 : decode bc_Mo_thirstAll 37 = .ok (.iinc 2 1, 3) := by decide +kernel
theorem d_Mo_thirstAll_40 : decode bc_Mo_thirstAll 40 = .ok (.goto (-36), 3) := by decide +kernel
theorem d_Mo_thirstAll_43 : decode bc_Mo_thirstAll 43 = .ok (.iload_n 1, 1) := by decide +kernel
theorem d_Mo_thirstAll_44 : decode bc_Mo_thirstAll 44 = .ok (.ireturn, 1) := by decide +kernel
set_option maxRecDepth 20000 in
theorem w_Mo_thirstAll_b4 {X : CX} {V : WV} (hV : IsM V) {S : Mem} {z : Int32} (hC : Ck X V bc_Mo_thirstAll 3 "SecretWellsModel" (some .int) 1 21) (k4 : Int32 → Int32 → Option (Int32)) (hk4 : ∀ (x1 : Int32) (x2 : Int32), k4 x1 x2 = some z → G X V 3 (QI X V z S) 4 [some (.ref (V.2.2.1 0 0)), some (.int x1), some (.int x2)] [] S) (x1 : Int32) (x2 : Int32) (h : f_Mo_thirstAll_b4 S k4 x1 x2 = some z) : G X V 3 (QI X V z S) 4 [some (.ref (V.2.2.1 0 0)), some (.int x1), some (.int x2)] [] S := by
  unfold f_Mo_thirstAll_b4 at h
  refine g_iload_n (pc := 4) hC (i := 2) (x := x2) rfl rfl d_Mo_thirstAll_4 ?_
  refine g_aload_n (pc := 5) hC (i := 0) (x := (V.2.2.1 0 0)) rfl rfl d_Mo_thirstAll_5 ?_
  refine g_getA (pc := 6) hC fo_Mo_58 (ob_Mo hV) rfl d_Mo_thirstAll_6 ?_
  refine g_aload_n (pc := 9) hC (i := 0) (x := (V.2.2.1 0 0)) rfl rfl d_Mo_thirstAll_9 ?_
  refine g_getI (pc := 10) hC fo_Mo_245 (ob_Mo hV) rfl d_Mo_thirstAll_10 ?_
  refine g_iald (pc := 13) hC (ar_Mo_27 hV) d_Mo_thirstAll_13 h (fun h => ?_)
  refine g_icmp_ge (pc := 14) hC (tgt := 43) (by decide) d_Mo_thirstAll_14 h (fun h => ?_) (fun h => ?_)
  · refine g_iload_n (pc := 43) hC (i := 1) (x := x1) rfl rfl d_Mo_thirstAll_43 ?_
    exact g_iN (pc := 44) hC rfl d_Mo_thirstAll_44 h
  · refine g_aload_n (pc := 17) hC (i := 0) (x := (V.2.2.1 0 0)) rfl rfl d_Mo_thirstAll_17 ?_
    refine g_iload_n (pc := 18) hC (i := 2) (x := x2) rfl rfl d_Mo_thirstAll_18 ?_
    obtain ⟨q19, hq19, h⟩ := Option.bind_eq_some_iff.mp h
    refine g_vi (pc := 19) hC (As := [.int x2]) (st := []) mt_Mo_isAlive lk_Mo_367 rfl (ob_Mo hV) (Nat.le_of_ble_eq_true rfl) ⟨Nat.le_of_ble_eq_true rfl, Nat.le_of_ble_eq_true rfl⟩ rfl d_Mo_thirstAll_19 (c_Mo_isAlive hV hq19) ?_
    refine g_if_eq (pc := 22) hC (tgt := 37) (by decide) d_Mo_thirstAll_22 h (fun h => ?_) (fun h => ?_)
    · refine s_iinc (pc := 37) hC (i := 2) (x := x2) (v := x2 + 1) rfl (by rw [kc_1]) (by decide) d_Mo_thirstAll_37 (lv2 := [some (.ref (V.2.2.1 0 0)), some (.int x1), some (.int (x2 + 1))]) rfl ?_
      refine g_goto (pc := 40) hC (tgt := 4) (by decide) d_Mo_thirstAll_40 ?_
      exact hk4 x1 (x2 + 1) h
    · refine g_iload_n (pc := 25) hC (i := 1) (x := x1) rfl rfl d_Mo_thirstAll_25 ?_
      refine g_aload_n (pc := 26) hC (i := 0) (x := (V.2.2.1 0 0)) rfl rfl d_Mo_thirstAll_26 ?_
      refine g_getA (pc := 27) hC fo_Mo_137 (ob_Mo hV) rfl d_Mo_thirstAll_27 ?_
      refine g_bipush (pc := 30) hC kb_19 d_Mo_thirstAll_30 ?_
      refine g_iload_n (pc := 32) hC (i := 2) (x := x2) rfl rfl d_Mo_thirstAll_32 ?_
      refine g_iadd (pc := 33) hC d_Mo_thirstAll_33 ?_
      refine g_iald (pc := 34) hC (ar_Mo_57 hV) d_Mo_thirstAll_34 h (fun h => ?_)
      refine g_iadd (pc := 35) hC d_Mo_thirstAll_35 ?_
      refine g_leti h (fun y36 h => ?_)
      refine s_istore_n (pc := 36) hC (i := 1) rfl (by decide) d_Mo_thirstAll_36 (lv2 := [some (.ref (V.2.2.1 0 0)), some (.int y36), some (.int x2)]) rfl ?_
      refine s_iinc (pc := 37) hC (i := 2) (x := x2) (v := x2 + 1) rfl (by rw [kc_1]) (by decide) d_Mo_thirstAll_37 (lv2 := [some (.ref (V.2.2.1 0 0)), some (.int y36), some (.int (x2 + 1))]) rfl ?_
      refine g_goto (pc := 40) hC (tgt := 4) (by decide) d_Mo_thirstAll_40 ?_
      exact hk4 y36 (x2 + 1) h
theorem w_Mo_thirstAll_l4 {X : CX} {V : WV} (hV : IsM V) {S : Mem} {z : Int32} (hC : Ck X V bc_Mo_thirstAll 3 "SecretWellsModel" (some .int) 1 21) : ∀ (n : Nat) (x1 : Int32) (x2 : Int32), f_Mo_thirstAll_l4 S n x1 x2 = some z → G X V 3 (QI X V z S) 4 [some (.ref (V.2.2.1 0 0)), some (.int x1), some (.int x2)] [] S := by
  intro n
  induction n with
  | zero =>
    intro x1 x2 h
    have h : (none : Option (Int32)) = some z := h
    cases h
  | succ n ih =>
    intro x1 x2 h
    exact w_Mo_thirstAll_b4 hV hC (f_Mo_thirstAll_l4 S n) ih x1 x2 h
set_option maxRecDepth 20000 in
theorem w_Mo_thirstAll_b0 {X : CX} {V : WV} (hV : IsM V) {S : Mem} {z : Int32} (hC : Ck X V bc_Mo_thirstAll 3 "SecretWellsModel" (some .int) 1 21) (h : f_Mo_thirstAll_b0 S = some z) : G X V 3 (QI X V z S) 0 [some (.ref (V.2.2.1 0 0)), none, none] [] S := by
  unfold f_Mo_thirstAll_b0 at h
  refine g_iconst (pc := 0) hC kc_0 d_Mo_thirstAll_0 ?_
  refine s_istore_n (pc := 1) hC (i := 1) rfl (by decide) d_Mo_thirstAll_1 (lv2 := [some (.ref (V.2.2.1 0 0)), some (.int 0), none]) rfl ?_
  refine g_iconst (pc := 2) hC kc_0 d_Mo_thirstAll_2 ?_
  refine s_istore_n (pc := 3) hC (i := 2) rfl (by decide) d_Mo_thirstAll_3 (lv2 := [some (.ref (V.2.2.1 0 0)), some (.int 0), some (.int 0)]) rfl ?_
  exact w_Mo_thirstAll_l4 hV hC 5000 0 0 h
theorem c_Mo_thirstAll {V : WV} {l : Launch} (hV : IsM V) {S : Mem} {z : Int32} (h : f_Mo_thirstAll S = some z) : CI V l y_Mo_thirstAll bc_Mo_thirstAll 3 (some .int) 1 21 [.ref (V.2.2.1 0 0)] S z S :=
  ct_i rfl (IsM.ok hV) (Nat.le_of_ble_eq_true rfl) (fun _ _ hC => w_Mo_thirstAll_b0 hV hC h)
def f_Mo_rains_b148 (k42 : Int32 → Int32 → Int32 → Int32 → Mem → Option (Mem)) (x1 : Int32) (x2 : Int32) (x3 : Int32) (x4 : Int32) (x5 : Int32) (x6 : Int32) (x7 : Int32) (s0 : Int32) (S : Mem) : Option (Mem) :=
  if s0 < 0 then
    letS (pI S 0 62 x4) (fun S161 =>
    letS (pI S161 0 63 x6) (fun S167 =>
    letS (pI S167 0 64 x7) (fun S173 =>
    letS (pI S173 0 65 x5) (fun S179 =>
    k42 x1 x2 x3 (x4 + 1) S179))))
  else
    k42 x1 x2 x3 (x4 + 1) S
def f_Mo_rains_b42 (k42 : Int32 → Int32 → Int32 → Int32 → Mem → Option (Mem)) (x1 : Int32) (x2 : Int32) (x3 : Int32) (x4 : Int32) (S : Mem) : Option (Mem) :=
  if x3 ≤ x4 then
    some S
  else
    Option.bind (f_Mo_rainsBy x1 x4 x3 S) (fun q53 =>
    letS q53.1 (fun y56 =>
    Option.bind (f_Mo_goes x2 q53.2) (fun q60 =>
    gIn 33 40 (
    Option.bind (f_Mo_bits (q60.2.1 0 56 (33 : Int32).toNatClampNeg)) (fun q70 =>
    gIn 33 40 (
    Option.bind (f_Mo_bits (q60.2.1 0 57 (33 : Int32).toNatClampNeg)) (fun q80 =>
    letS (q70 - q80) (fun y84 =>
    Option.bind (f_Mo_thirstAll q60) (fun q87 =>
    if 0 ≤ (q60.1 0 62) then
      if y84 = (q60.1 0 63) then
        if q87 = (q60.1 0 64) then
          f_Mo_rains_b148 k42 x1 x2 x3 x4 y56 y84 q87 (y56 - (q60.1 0 65)) q60
        else
          f_Mo_rains_b148 k42 x1 x2 x3 x4 y56 y84 q87 (q87 - (q60.1 0 64)) q60
      else
        f_Mo_rains_b148 k42 x1 x2 x3 x4 y56 y84 q87 (y84 - (q60.1 0 63)) q60
    else
      f_Mo_rains_b148 k42 x1 x2 x3 x4 y56 y84 q87 (-1) q60)))))))))
def f_Mo_rains_l42 : Nat → Int32 → Int32 → Int32 → Int32 → Mem → Option (Mem)
  | 0 => fun _ _ _ _ _ => none
  | n + 1 => f_Mo_rains_b42  (f_Mo_rains_l42  n)
def f_Mo_rains_b5 (k5 : Int32 → Int32 → Int32 → Int32 → Mem → Option (Mem)) (x1 : Int32) (x2 : Int32) (x3 : Int32) (x4 : Int32) (S : Mem) : Option (Mem) :=
  Option.bind (f_Mo_bits x1) (fun q8 =>
  if q8 ≤ x4 then
    letS (pI S 0 62 (-1)) (fun S36 =>
    f_Mo_rains_l42 5000 x1 x2 x3 0 S36)
  else
    gIn (S.1 0 18) 2 (
    letS (x3 * ((S.2.1 0 24 (S.1 0 18).toNatClampNeg) + 1)) (fun y27 =>
    k5 x1 x2 y27 (x4 + 1) S)))
def f_Mo_rains_l5 : Nat → Int32 → Int32 → Int32 → Int32 → Mem → Option (Mem)
  | 0 => fun _ _ _ _ _ => none
  | n + 1 => f_Mo_rains_b5  (f_Mo_rains_l5  n)
def f_Mo_rains_b0 (x1 : Int32) (x2 : Int32) (S : Mem) : Option (Mem) :=
  f_Mo_rains_l5 5000 x1 x2 1 0 S
def f_Mo_rains (x1 : Int32) (x2 : Int32) (S : Mem) : Option (Mem) := f_Mo_rains_b0  x1 x2 S
theorem d_Mo_rains_0 : decode bc_Mo_rains 0 = .ok (.iconst 1, 1) := by decide +kernel
theorem d_Mo_rains_1 : decode bc_Mo_rains 1 = .ok (.istore_n 3, 1) := by decide +kernel
theorem d_Mo_rains_2 : decode bc_Mo_rains 2 = .ok (.iconst 0, 1) := by decide +kernel
theorem d_Mo_rains_3 : decode bc_Mo_rains 3 = .ok (.istore 4, 2) := by decide +kernel
theorem d_Mo_rains_5 : decode bc_Mo_rains 5 = .ok (.iload 4, 2) := by decide +kernel
theorem d_Mo_rains_7 : decode bc_Mo_rains 7 = .ok (.iload_n 1, 1) := by decide +kernel
theorem d_Mo_rains_8 : decode bc_Mo_rains 8 = .ok (.invokestatic 349, 3) := by decide +kernel
theorem d_Mo_rains_11 : decode bc_Mo_rains 11 = .ok (.if_icmp .ge 23, 3) := by decide +kernel
theorem d_Mo_rains_14 : decode bc_Mo_rains 14 = .ok (.iload_n 3, 1) := by decide +kernel
theorem d_Mo_rains_15 : decode bc_Mo_rains 15 = .ok (.aload_n 0, 1) := by decide +kernel
theorem d_Mo_rains_16 : decode bc_Mo_rains 16 = .ok (.getfield 49, 3) := by decide +kernel
theorem d_Mo_rains_19 : decode bc_Mo_rains 19 = .ok (.aload_n 0, 1) := by decide +kernel
theorem d_Mo_rains_20 : decode bc_Mo_rains 20 = .ok (.getfield 245, 3) := by decide +kernel
theorem d_Mo_rains_23 : decode bc_Mo_rains 23 = .ok (.iaload, 1) := by decide +kernel
theorem d_Mo_rains_24 : decode bc_Mo_rains 24 = .ok (.iconst 1, 1) := by decide +kernel
theorem d_Mo_rains_25 : decode bc_Mo_rains 25 = .ok (.iadd, 1) := by decide +kernel
theorem d_Mo_rains_26 : decode bc_Mo_rains 26 = .ok (.imul, 1) := by decide +kernel
theorem d_Mo_rains_27 : decode bc_Mo_rains 27 = .ok (.istore_n 3, 1) := by decide +kernel
theorem d_Mo_rains_28 : decode bc_Mo_rains 28 = .ok (.iinc 4 1, 3) := by decide +kernel
theorem d_Mo_rains_31 : decode bc_Mo_rains 31 = .ok (.goto (-26), 3) := by decide +kernel
theorem d_Mo_rains_34 : decode bc_Mo_rains 34 = .ok (.aload_n 0, 1) := by decide +kernel
theorem d_Mo_rains_35 : decode bc_Mo_rains 35 = .ok (.iconst (-1), 1) := by decide +kernel
theorem d_Mo_rains_36 : decode bc_Mo_rains 36 = .ok (.putfield 444, 3) := by decide +kernel
theorem d_Mo_rains_39 : decode bc_Mo_rains 39 = .ok (.iconst 0, 1) := by decide +kernel
theorem d_Mo_rains_40 : decode bc_Mo_rains 40 = .ok (.istore 4, 2) := by decide +kernel
theorem d_Mo_rains_42 : decode bc_Mo_rains 42 = .ok (.iload 4, 2) := by decide +kernel
theorem d_Mo_rains_44 : decode bc_Mo_rains 44 = .ok (.iload_n 3, 1) := by decide +kernel
theorem d_Mo_rains_45 : decode bc_Mo_rains 45 = .ok (.if_icmp .ge 143, 3) := by decide +kernel
theorem d_Mo_rains_48 : decode bc_Mo_rains 48 = .ok (.aload_n 0, 1) := by decide +kernel
theorem d_Mo_rains_49 : decode bc_Mo_rains 49 = .ok (.iload_n 1, 1) := by decide +kernel
theorem d_Mo_rains_50 : decode bc_Mo_rains 50 = .ok (.iload 4, 2) := by decide +kernel
theorem d_Mo_rains_52 : decode bc_Mo_rains 52 = .ok (.iload_n 3, 1) := by decide +kernel
theorem d_Mo_rains_53 : decode bc_Mo_rains 53 = .ok (.invokevirtual 447, 3) := by decide +kernel
theorem d_Mo_rains_56 : decode bc_Mo_rains 56 = .ok (.istore 5, 2) := by decide +kernel
theorem d_Mo_rains_58 : decode bc_Mo_rains 58 = .ok (.aload_n 0, 1) := by decide +kernel
theorem d_Mo_rains_59 : decode bc_Mo_rains 59 = .ok (.iload_n 2, 1) := by decide +kernel
theorem d_Mo_rains_60 : decode bc_Mo_rains 60 = .ok (.invokevirtual 431, 3) := by decide +kernel
theorem d_Mo_rains_63 : decode bc_Mo_rains 63 = .ok (.aload_n 0, 1) := by decide +kernel
theorem d_Mo_rains_64 : decode bc_Mo_rains 64 = .ok (.getfield 134, 3) := by decide +kernel
theorem d_Mo_rains_67 : decode bc_Mo_rains 67 = .ok (.bipush 33, 2) := by decide +kernel
theorem d_Mo_rains_69 : decode bc_Mo_rains 69 = .ok (.iaload, 1) := by decide +kernel
theorem d_Mo_rains_70 : decode bc_Mo_rains 70 = .ok (.invokestatic 349, 3) := by decide +kernel
theorem d_Mo_rains_73 : decode bc_Mo_rains 73 = .ok (.aload_n 0, 1) := by decide +kernel
theorem d_Mo_rains_74 : decode bc_Mo_rains 74 = .ok (.getfield 137, 3) := by decide +kernel
theorem d_Mo_rains_77 : decode bc_Mo_rains 77 = .ok (.bipush 33, 2) := by decide +kernel
theorem d_Mo_rains_79 : decode bc_Mo_rains 79 = .ok (.iaload, 1) := by decide +kernel
theorem d_Mo_rains_80 : decode bc_Mo_rains 80 = .ok (.invokestatic 349, 3) := by decide +kernel
theorem d_Mo_rains_83 : decode bc_Mo_rains 83 = .ok (.isub, 1) := by decide +kernel
theorem d_Mo_rains_84 : decode bc_Mo_rains 84 = .ok (.istore 6, 2) := by decide +kernel
theorem d_Mo_rains_86 : decode bc_Mo_rains 86 = .ok (.aload_n 0, 1) := by decide +kernel
theorem d_Mo_rains_87 : decode bc_Mo_rains 87 = .ok (.invokevirtual 450, 3) := by decide +kernel
theorem d_Mo_rains_90 : decode bc_Mo_rains 90 = .ok (.istore 7, 2) := by decide +kernel
theorem d_Mo_rains_92 : decode bc_Mo_rains 92 = .ok (.aload_n 0, 1) := by decide +kernel
theorem d_Mo_rains_93 : decode bc_Mo_rains 93 = .ok (.getfield 444, 3) := by decide +kernel
theorem d_Mo_rains_96 : decode bc_Mo_rains 96 = .ok (.ifCond .ge 7, 3) := by decide +kernel
theorem d_Mo_rains_99 : decode bc_Mo_rains 99 = .ok (.iconst (-1), 1) := by decide +kernel
theorem d_Mo_rains_100 : decode bc_Mo_rains 100 = .ok (.goto 48, 3) := by decide +kernel
theorem d_Mo_rains_103 : decode bc_Mo_rains 103 = .ok (.iload 6, 2) := by decide +kernel
theorem d_Mo_rains_105 : decode bc_Mo_rains 105 = .ok (.aload_n 0, 1) := by decide +kernel
theorem d_Mo_rains_106 : decode bc_Mo_rains 106 = .ok (.getfield 453, 3) := by decide +kernel
theorem d_Mo_rains_109 : decode bc_Mo_rains 109 = .ok (.if_icmp .eq 13, 3) := by decide +kernel
theorem d_Mo_rains_112 : decode bc_Mo_rains 112 = .ok (.iload 6, 2) := by decide +kernel
theorem d_Mo_rains_114 : decode bc_Mo_rains 114 = .ok (.aload_n 0, 1) := by decide +kernel
theorem d_Mo_rains_115 : decode bc_Mo_rains 115 = .ok (.getfield 453, 3) := by decide +kernel
theorem d_Mo_rains_118 : decode bc_Mo_rains 118 = .ok (.isub, 1) := by decide +kernel
theorem d_Mo_rains_119 : decode bc_Mo_rains 119 = .ok (.goto 29, 3) := by decide +kernel
theorem d_Mo_rains_122 : decode bc_Mo_rains 122 = .ok (.iload 7, 2) := by decide +kernel
theorem d_Mo_rains_124 : decode bc_Mo_rains 124 = .ok (.aload_n 0, 1) := by decide +kernel
theorem d_Mo_rains_125 : decode bc_Mo_rains 125 = .ok (.getfield 456, 3) := by decide +kernel
theorem d_Mo_rains_128 : decode bc_Mo_rains 128 = .ok (.if_icmp .eq 13, 3) := by decide +kernel
theorem d_Mo_rains_131 : decode bc_Mo_rains 131 = .ok (.iload 7, 2) := by decide +kernel
theorem d_Mo_rains_133 : decode bc_Mo_rains 133 = .ok (.aload_n 0, 1) := by decide +kernel
theorem d_Mo_rains_134 : decode bc_Mo_rains 134 = .ok (.getfield 456, 3) := by decide +kernel
theorem d_Mo_rains_137 : decode bc_Mo_rains 137 = .ok (.isub, 1) := by decide +kernel
theorem d_Mo_rains_138 : decode bc_Mo_rains 138 = .ok (.goto 10, 3) := by decide +kernel
theorem d_Mo_rains_141 : decode bc_Mo_rains 141 = .ok (.iload 5, 2) := by decide +kernel
theorem d_Mo_rains_143 : decode bc_Mo_rains 143 = .ok (.aload_n 0, 1) := by decide +kernel
theorem d_Mo_rains_144 : decode bc_Mo_rains 144 = .ok (.getfield 459, 3) := by decide +kernel
theorem d_Mo_rains_147 : decode bc_Mo_rains 147 = .ok (.isub, 1) := by decide +kernel
theorem d_Mo_rains_148 : decode bc_Mo_rains 148 = .ok (.istore 8, 2) := by decide +kernel
theorem d_Mo_rains_150 : decode bc_Mo_rains 150 = .ok (.iload 8, 2) := by decide +kernel
theorem d_Mo_rains_152 : decode bc_Mo_rains 152 = .ok (.ifCond .lt 6, 3) := by decide +kernel
theorem d_Mo_rains_155 : decode bc_Mo_rains 155 = .ok (.goto 27, 3) := by decide +kernel
theorem d_Mo_rains_158 : decode bc_Mo_rains 158 = .ok (.aload_n 0, 1) := by decide +kernel
theorem d_Mo_rains_159 : decode bc_Mo_rains 159 = .ok (.iload 4, 2) := by decide +kernel
theorem d_Mo_rains_161 : decode bc_Mo_rains 161 = .ok (.putfield 444, 3) := by decide +kernel
theorem d_Mo_rains_164 : decode bc_Mo_rains 164 = .ok (.aload_n 0, 1) := by decide +kernel
theorem d_Mo_rains_165 : decode bc_Mo_rains 165 = .ok (.iload 6, 2) := by decide +kernel
theorem d_Mo_rains_167 : decode bc_Mo_rains 167 = .ok (.putfield 453, 3) := by decide +kernel
theorem d_Mo_rains_170 : decode bc_Mo_rains 170 = .ok (.aload_n 0, 1) := by decide +kernel
theorem d_Mo_rains_171 : decode bc_Mo_rains 171 = .ok (.iload 7, 2) := by decide +kernel
theorem d_Mo_rains_173 : decode bc_Mo_rains 173 = .ok (.putfield 456, 3) := by decide +kernel
theorem d_Mo_rains_176 : decode bc_Mo_rains 176 = .ok (.aload_n 0, 1) := by decide +kernel
theorem d_Mo_rains_177 : decode bc_Mo_rains 177 = .ok (.iload 5, 2) := by decide +kernel
theorem d_Mo_rains_179 : decode bc_Mo_rains 179 = .ok (.putfield 459, 3) := by decide +kernel
theorem d_Mo_rains_182 : decode bc_Mo_rains 182 = .ok (.iinc 4 1, 3) := by decide +kernel
theorem d_Mo_rains_185 : decode bc_Mo_rains 185 = .ok (.goto (-143), 3) := by decide +kernel
theorem d_Mo_rains_188 : decode bc_Mo_rains 188 = .ok (.return_, 1) := by decide +kernel
set_option maxRecDepth 20000 in
theorem w_Mo_rains_b148 {X : CX} {V : WV} (hV : IsM V) {z : Mem} (hC : Ck X V bc_Mo_rains 9 "SecretWellsModel" none 11 243) (k42 : Int32 → Int32 → Int32 → Int32 → Mem → Option (Mem)) (hk42 : ∀ (x1 : Int32) (x2 : Int32) (x3 : Int32) (x4 : Int32) (S : Mem), k42 x1 x2 x3 x4 S = some z → G X V 9 (QV X V z) 42 [some (.ref (V.2.2.1 0 0)), some (.int x1), some (.int x2), some (.int x3), some (.int x4), none, none, none, none] [] S) (x1 : Int32) (x2 : Int32) (x3 : Int32) (x4 : Int32) (x5 : Int32) (x6 : Int32) (x7 : Int32) (s0 : Int32) (S : Mem) (h : f_Mo_rains_b148  k42 x1 x2 x3 x4 x5 x6 x7 s0 S = some z) : G X V 9 (QV X V z) 148 [some (.ref (V.2.2.1 0 0)), some (.int x1), some (.int x2), some (.int x3), some (.int x4), some (.int x5), some (.int x6), some (.int x7), none] [.int s0] S := by
  unfold f_Mo_rains_b148 at h
  refine s_istore (pc := 148) hC (i := 8) (by decide) d_Mo_rains_148 (lv2 := [some (.ref (V.2.2.1 0 0)), some (.int x1), some (.int x2), some (.int x3), some (.int x4), some (.int x5), some (.int x6), some (.int x7), some (.int s0)]) rfl ?_
  refine g_iload (pc := 150) hC (i := 8) (x := s0) rfl d_Mo_rains_150 ?_
  refine g_if_lt (pc := 152) hC (tgt := 158) (by decide) d_Mo_rains_152 h (fun h => ?_) (fun h => ?_)
  · refine g_aload_n (pc := 158) hC (i := 0) (x := (V.2.2.1 0 0)) rfl rfl d_Mo_rains_158 ?_
    refine g_iload (pc := 159) hC (i := 4) (x := x4) rfl d_Mo_rains_159 ?_
    refine g_putI (pc := 161) hC po_Mo_444 (ob_Mo hV) rfl rfl rfl d_Mo_rains_161 ?_
    refine g_letS h (fun S161 h => ?_)
    refine g_aload_n (pc := 164) hC (i := 0) (x := (V.2.2.1 0 0)) rfl rfl d_Mo_rains_164 ?_
    refine g_iload (pc := 165) hC (i := 6) (x := x6) rfl d_Mo_rains_165 ?_
    refine g_putI (pc := 167) hC po_Mo_453 (ob_Mo hV) rfl rfl rfl d_Mo_rains_167 ?_
    refine g_letS h (fun S167 h => ?_)
    refine g_aload_n (pc := 170) hC (i := 0) (x := (V.2.2.1 0 0)) rfl rfl d_Mo_rains_170 ?_
    refine g_iload (pc := 171) hC (i := 7) (x := x7) rfl d_Mo_rains_171 ?_
    refine g_putI (pc := 173) hC po_Mo_456 (ob_Mo hV) rfl rfl rfl d_Mo_rains_173 ?_
    refine g_letS h (fun S173 h => ?_)
    refine g_aload_n (pc := 176) hC (i := 0) (x := (V.2.2.1 0 0)) rfl rfl d_Mo_rains_176 ?_
    refine g_iload (pc := 177) hC (i := 5) (x := x5) rfl d_Mo_rains_177 ?_
    refine g_putI (pc := 179) hC po_Mo_459 (ob_Mo hV) rfl rfl rfl d_Mo_rains_179 ?_
    refine g_letS h (fun S179 h => ?_)
    refine s_iinc (pc := 182) hC (i := 4) (x := x4) (v := x4 + 1) rfl (by rw [kc_1]) (by decide) d_Mo_rains_182 (lv2 := [some (.ref (V.2.2.1 0 0)), some (.int x1), some (.int x2), some (.int x3), some (.int (x4 + 1)), some (.int x5), some (.int x6), some (.int x7), some (.int s0)]) rfl ?_
    refine g_goto (pc := 185) hC (tgt := 42) (by decide) d_Mo_rains_185 ?_
    refine g_le (lv2 := [some (.ref (V.2.2.1 0 0)), some (.int x1), some (.int x2), some (.int x3), some (.int (x4 + 1)), none, none, none, none]) (⟨rfl, ⟨rfl, ⟨rfl, ⟨rfl, ⟨rfl, trivial⟩⟩⟩⟩⟩) ?_
    exact hk42 x1 x2 x3 (x4 + 1) S179 h
  · refine g_goto (pc := 155) hC (tgt := 182) (by decide) d_Mo_rains_155 ?_
    refine s_iinc (pc := 182) hC (i := 4) (x := x4) (v := x4 + 1) rfl (by rw [kc_1]) (by decide) d_Mo_rains_182 (lv2 := [some (.ref (V.2.2.1 0 0)), some (.int x1), some (.int x2), some (.int x3), some (.int (x4 + 1)), some (.int x5), some (.int x6), some (.int x7), some (.int s0)]) rfl ?_
    refine g_goto (pc := 185) hC (tgt := 42) (by decide) d_Mo_rains_185 ?_
    refine g_le (lv2 := [some (.ref (V.2.2.1 0 0)), some (.int x1), some (.int x2), some (.int x3), some (.int (x4 + 1)), none, none, none, none]) (⟨rfl, ⟨rfl, ⟨rfl, ⟨rfl, ⟨rfl, trivial⟩⟩⟩⟩⟩) ?_
    exact hk42 x1 x2 x3 (x4 + 1) S h
set_option maxRecDepth 20000 in
theorem w_Mo_rains_b42 {X : CX} {V : WV} (hV : IsM V) {z : Mem} (hC : Ck X V bc_Mo_rains 9 "SecretWellsModel" none 11 243) (k42 : Int32 → Int32 → Int32 → Int32 → Mem → Option (Mem)) (hk42 : ∀ (x1 : Int32) (x2 : Int32) (x3 : Int32) (x4 : Int32) (S : Mem), k42 x1 x2 x3 x4 S = some z → G X V 9 (QV X V z) 42 [some (.ref (V.2.2.1 0 0)), some (.int x1), some (.int x2), some (.int x3), some (.int x4), none, none, none, none] [] S) (x1 : Int32) (x2 : Int32) (x3 : Int32) (x4 : Int32) (S : Mem) (h : f_Mo_rains_b42  k42 x1 x2 x3 x4 S = some z) : G X V 9 (QV X V z) 42 [some (.ref (V.2.2.1 0 0)), some (.int x1), some (.int x2), some (.int x3), some (.int x4), none, none, none, none] [] S := by
  unfold f_Mo_rains_b42 at h
  refine g_iload (pc := 42) hC (i := 4) (x := x4) rfl d_Mo_rains_42 ?_
  refine g_iload_n (pc := 44) hC (i := 3) (x := x3) rfl rfl d_Mo_rains_44 ?_
  refine g_icmp_ge (pc := 45) hC (tgt := 188) (by decide) d_Mo_rains_45 h (fun h => ?_) (fun h => ?_)
  · exact g_vW (pc := 188) hC d_Mo_rains_188 h
  · refine g_aload_n (pc := 48) hC (i := 0) (x := (V.2.2.1 0 0)) rfl rfl d_Mo_rains_48 ?_
    refine g_iload_n (pc := 49) hC (i := 1) (x := x1) rfl rfl d_Mo_rains_49 ?_
    refine g_iload (pc := 50) hC (i := 4) (x := x4) rfl d_Mo_rains_50 ?_
    refine g_iload_n (pc := 52) hC (i := 3) (x := x3) rfl rfl d_Mo_rains_52 ?_
    obtain ⟨q53, hq53, h⟩ := Option.bind_eq_some_iff.mp h
    refine g_vi (pc := 53) hC (As := [.int x1, .int x4, .int x3]) (st := []) mt_Mo_rainsBy lk_Mo_447 rfl (ob_Mo hV) (Nat.le_of_ble_eq_true rfl) ⟨Nat.le_of_ble_eq_true rfl, Nat.le_of_ble_eq_true rfl⟩ rfl d_Mo_rains_53 (c_Mo_rainsBy hV hq53) ?_
    refine g_leti h (fun y56 h => ?_)
    refine s_istore (pc := 56) hC (i := 5) (by decide) d_Mo_rains_56 (lv2 := [some (.ref (V.2.2.1 0 0)), some (.int x1), some (.int x2), some (.int x3), some (.int x4), some (.int y56), none, none, none]) rfl ?_
    refine g_aload_n (pc := 58) hC (i := 0) (x := (V.2.2.1 0 0)) rfl rfl d_Mo_rains_58 ?_
    refine g_iload_n (pc := 59) hC (i := 2) (x := x2) rfl rfl d_Mo_rains_59 ?_
    obtain ⟨q60, hq60, h⟩ := Option.bind_eq_some_iff.mp h
    refine g_vv (pc := 60) hC (As := [.int x2]) (st := []) mt_Mo_goes lk_Mo_431 rfl (ob_Mo hV) (Nat.le_of_ble_eq_true rfl) ⟨Nat.le_of_ble_eq_true rfl, Nat.le_of_ble_eq_true rfl⟩ rfl d_Mo_rains_60 (c_Mo_goes hV hq60) ?_
    refine g_aload_n (pc := 63) hC (i := 0) (x := (V.2.2.1 0 0)) rfl rfl d_Mo_rains_63 ?_
    refine g_getA (pc := 64) hC fo_Mo_134 (ob_Mo hV) rfl d_Mo_rains_64 ?_
    refine g_bipush (pc := 67) hC kb_33 d_Mo_rains_67 ?_
    refine g_iald (pc := 69) hC (ar_Mo_56 hV) d_Mo_rains_69 h (fun h => ?_)
    obtain ⟨q70, hq70, h⟩ := Option.bind_eq_some_iff.mp h
    refine g_si (pc := 70) hC (As := [.int (q60.2.1 0 56 (33 : Int32).toNatClampNeg)]) (st := []) mt_Mo_bits lk_Mo_349 (Nat.le_of_ble_eq_true rfl) ⟨Nat.le_of_ble_eq_true rfl, Nat.le_of_ble_eq_true rfl⟩ rfl d_Mo_rains_70 (c_Mo_bits (IsM.ok hV) hq70) ?_
    refine g_aload_n (pc := 73) hC (i := 0) (x := (V.2.2.1 0 0)) rfl rfl d_Mo_rains_73 ?_
    refine g_getA (pc := 74) hC fo_Mo_137 (ob_Mo hV) rfl d_Mo_rains_74 ?_
    refine g_bipush (pc := 77) hC kb_33 d_Mo_rains_77 ?_
    refine g_iald (pc := 79) hC (ar_Mo_57 hV) d_Mo_rains_79 h (fun h => ?_)
    obtain ⟨q80, hq80, h⟩ := Option.bind_eq_some_iff.mp h
    refine g_si (pc := 80) hC (As := [.int (q60.2.1 0 57 (33 : Int32).toNatClampNeg)]) (st := [.int q70]) mt_Mo_bits lk_Mo_349 (Nat.le_of_ble_eq_true rfl) ⟨Nat.le_of_ble_eq_true rfl, Nat.le_of_ble_eq_true rfl⟩ rfl d_Mo_rains_80 (c_Mo_bits (IsM.ok hV) hq80) ?_
    refine g_isub (pc := 83) hC d_Mo_rains_83 ?_
    refine g_leti h (fun y84 h => ?_)
    refine s_istore (pc := 84) hC (i := 6) (by decide) d_Mo_rains_84 (lv2 := [some (.ref (V.2.2.1 0 0)), some (.int x1), some (.int x2), some (.int x3), some (.int x4), some (.int y56), some (.int y84), none, none]) rfl ?_
    refine g_aload_n (pc := 86) hC (i := 0) (x := (V.2.2.1 0 0)) rfl rfl d_Mo_rains_86 ?_
    obtain ⟨q87, hq87, h⟩ := Option.bind_eq_some_iff.mp h
    refine g_vi (pc := 87) hC (As := []) (st := []) mt_Mo_thirstAll lk_Mo_450 rfl (ob_Mo hV) (Nat.le_of_ble_eq_true rfl) ⟨Nat.le_of_ble_eq_true rfl, Nat.le_of_ble_eq_true rfl⟩ rfl d_Mo_rains_87 (c_Mo_thirstAll hV hq87) ?_
    refine s_istore (pc := 90) hC (i := 7) (by decide) d_Mo_rains_90 (lv2 := [some (.ref (V.2.2.1 0 0)), some (.int x1), some (.int x2), some (.int x3), some (.int x4), some (.int y56), some (.int y84), some (.int q87), none]) rfl ?_
    refine g_aload_n (pc := 92) hC (i := 0) (x := (V.2.2.1 0 0)) rfl rfl d_Mo_rains_92 ?_
    refine g_getI (pc := 93) hC fo_Mo_444 (ob_Mo hV) rfl d_Mo_rains_93 ?_
    refine g_if_ge (pc := 96) hC (tgt := 103) (by decide) d_Mo_rains_96 h (fun h => ?_) (fun h => ?_)
    · refine g_iload (pc := 103) hC (i := 6) (x := y84) rfl d_Mo_rains_103 ?_
      refine g_aload_n (pc := 105) hC (i := 0) (x := (V.2.2.1 0 0)) rfl rfl d_Mo_rains_105 ?_
      refine g_getI (pc := 106) hC fo_Mo_453 (ob_Mo hV) rfl d_Mo_rains_106 ?_
      refine g_icmp_eq (pc := 109) hC (tgt := 122) (by decide) d_Mo_rains_109 h (fun h => ?_) (fun h => ?_)
      · refine g_iload (pc := 122) hC (i := 7) (x := q87) rfl d_Mo_rains_122 ?_
        refine g_aload_n (pc := 124) hC (i := 0) (x := (V.2.2.1 0 0)) rfl rfl d_Mo_rains_124 ?_
        refine g_getI (pc := 125) hC fo_Mo_456 (ob_Mo hV) rfl d_Mo_rains_125 ?_
        refine g_icmp_eq (pc := 128) hC (tgt := 141) (by decide) d_Mo_rains_128 h (fun h => ?_) (fun h => ?_)
        · refine g_iload (pc := 141) hC (i := 5) (x := y56) rfl d_Mo_rains_141 ?_
          refine g_aload_n (pc := 143) hC (i := 0) (x := (V.2.2.1 0 0)) rfl rfl d_Mo_rains_143 ?_
          refine g_getI (pc := 144) hC fo_Mo_459 (ob_Mo hV) rfl d_Mo_rains_144 ?_
          refine g_isub (pc := 147) hC d_Mo_rains_147 ?_
          exact w_Mo_rains_b148 hV hC k42 hk42 x1 x2 x3 x4 y56 y84 q87 (y56 - (q60.1 0 65)) q60 h
        · refine g_iload (pc := 131) hC (i := 7) (x := q87) rfl d_Mo_rains_131 ?_
          refine g_aload_n (pc := 133) hC (i := 0) (x := (V.2.2.1 0 0)) rfl rfl d_Mo_rains_133 ?_
          refine g_getI (pc := 134) hC fo_Mo_456 (ob_Mo hV) rfl d_Mo_rains_134 ?_
          refine g_isub (pc := 137) hC d_Mo_rains_137 ?_
          refine g_goto (pc := 138) hC (tgt := 148) (by decide) d_Mo_rains_138 ?_
          exact w_Mo_rains_b148 hV hC k42 hk42 x1 x2 x3 x4 y56 y84 q87 (q87 - (q60.1 0 64)) q60 h
      · refine g_iload (pc := 112) hC (i := 6) (x := y84) rfl d_Mo_rains_112 ?_
        refine g_aload_n (pc := 114) hC (i := 0) (x := (V.2.2.1 0 0)) rfl rfl d_Mo_rains_114 ?_
        refine g_getI (pc := 115) hC fo_Mo_453 (ob_Mo hV) rfl d_Mo_rains_115 ?_
        refine g_isub (pc := 118) hC d_Mo_rains_118 ?_
        refine g_goto (pc := 119) hC (tgt := 148) (by decide) d_Mo_rains_119 ?_
        exact w_Mo_rains_b148 hV hC k42 hk42 x1 x2 x3 x4 y56 y84 q87 (y84 - (q60.1 0 63)) q60 h
    · refine g_iconst (pc := 99) hC kc_m1 d_Mo_rains_99 ?_
      refine g_goto (pc := 100) hC (tgt := 148) (by decide) d_Mo_rains_100 ?_
      exact w_Mo_rains_b148 hV hC k42 hk42 x1 x2 x3 x4 y56 y84 q87 (-1) q60 h
theorem w_Mo_rains_l42 {X : CX} {V : WV} (hV : IsM V) {z : Mem} (hC : Ck X V bc_Mo_rains 9 "SecretWellsModel" none 11 243) : ∀ (n : Nat) (x1 : Int32) (x2 : Int32) (x3 : Int32) (x4 : Int32) (S : Mem), f_Mo_rains_l42  n x1 x2 x3 x4 S = some z → G X V 9 (QV X V z) 42 [some (.ref (V.2.2.1 0 0)), some (.int x1), some (.int x2), some (.int x3), some (.int x4), none, none, none, none] [] S := by
  intro n
  induction n with
  | zero =>
    intro x1 x2 x3 x4 S h
    have h : (none : Option (Mem)) = some z := h
    cases h
  | succ n ih =>
    intro x1 x2 x3 x4 S h
    exact w_Mo_rains_b42 hV hC (f_Mo_rains_l42  n) ih x1 x2 x3 x4 S h
set_option maxRecDepth 20000 in
theorem w_Mo_rains_b5 {X : CX} {V : WV} (hV : IsM V) {z : Mem} (hC : Ck X V bc_Mo_rains 9 "SecretWellsModel" none 11 243) (k5 : Int32 → Int32 → Int32 → Int32 → Mem → Option (Mem)) (hk5 : ∀ (x1 : Int32) (x2 : Int32) (x3 : Int32) (x4 : Int32) (S : Mem), k5 x1 x2 x3 x4 S = some z → G X V 9 (QV X V z) 5 [some (.ref (V.2.2.1 0 0)), some (.int x1), some (.int x2), some (.int x3), some (.int x4), none, none, none, none] [] S) (x1 : Int32) (x2 : Int32) (x3 : Int32) (x4 : Int32) (S : Mem) (h : f_Mo_rains_b5  k5 x1 x2 x3 x4 S = some z) : G X V 9 (QV X V z) 5 [some (.ref (V.2.2.1 0 0)), some (.int x1), some (.int x2), some (.int x3), some (.int x4), none, none, none, none] [] S := by
  unfold f_Mo_rains_b5 at h
  refine g_iload (pc := 5) hC (i := 4) (x := x4) rfl d_Mo_rains_5 ?_
  refine g_iload_n (pc := 7) hC (i := 1) (x := x1) rfl rfl d_Mo_rains_7 ?_
  obtain ⟨q8, hq8, h⟩ := Option.bind_eq_some_iff.mp h
  refine g_si (pc := 8) hC (As := [.int x1]) (st := [.int x4]) mt_Mo_bits lk_Mo_349 (Nat.le_of_ble_eq_true rfl) ⟨Nat.le_of_ble_eq_true rfl, Nat.le_of_ble_eq_true rfl⟩ rfl d_Mo_rains_8 (c_Mo_bits (IsM.ok hV) hq8) ?_
  refine g_icmp_ge (pc := 11) hC (tgt := 34) (by decide) d_Mo_rains_11 h (fun h => ?_) (fun h => ?_)
  · refine g_aload_n (pc := 34) hC (i := 0) (x := (V.2.2.1 0 0)) rfl rfl d_Mo_rains_34 ?_
    refine g_iconst (pc := 35) hC kc_m1 d_Mo_rains_35 ?_
    refine g_putI (pc := 36) hC po_Mo_444 (ob_Mo hV) rfl rfl rfl d_Mo_rains_36 ?_
    refine g_letS h (fun S36 h => ?_)
    refine g_iconst (pc := 39) hC kc_0 d_Mo_rains_39 ?_
    refine s_istore (pc := 40) hC (i := 4) (by decide) d_Mo_rains_40 (lv2 := [some (.ref (V.2.2.1 0 0)), some (.int x1), some (.int x2), some (.int x3), some (.int 0), none, none, none, none]) rfl ?_
    exact w_Mo_rains_l42 hV hC 5000 x1 x2 x3 0 S36 h
  · refine g_iload_n (pc := 14) hC (i := 3) (x := x3) rfl rfl d_Mo_rains_14 ?_
    refine g_aload_n (pc := 15) hC (i := 0) (x := (V.2.2.1 0 0)) rfl rfl d_Mo_rains_15 ?_
    refine g_getA (pc := 16) hC fo_Mo_49 (ob_Mo hV) rfl d_Mo_rains_16 ?_
    refine g_aload_n (pc := 19) hC (i := 0) (x := (V.2.2.1 0 0)) rfl rfl d_Mo_rains_19 ?_
    refine g_getI (pc := 20) hC fo_Mo_245 (ob_Mo hV) rfl d_Mo_rains_20 ?_
    refine g_iald (pc := 23) hC (ar_Mo_24 hV) d_Mo_rains_23 h (fun h => ?_)
    refine g_iconst (pc := 24) hC kc_1 d_Mo_rains_24 ?_
    refine g_iadd (pc := 25) hC d_Mo_rains_25 ?_
    refine g_imul (pc := 26) hC d_Mo_rains_26 ?_
    refine g_leti h (fun y27 h => ?_)
    refine s_istore_n (pc := 27) hC (i := 3) rfl (by decide) d_Mo_rains_27 (lv2 := [some (.ref (V.2.2.1 0 0)), some (.int x1), some (.int x2), some (.int y27), some (.int x4), none, none, none, none]) rfl ?_
    refine s_iinc (pc := 28) hC (i := 4) (x := x4) (v := x4 + 1) rfl (by rw [kc_1]) (by decide) d_Mo_rains_28 (lv2 := [some (.ref (V.2.2.1 0 0)), some (.int x1), some (.int x2), some (.int y27), some (.int (x4 + 1)), none, none, none, none]) rfl ?_
    refine g_goto (pc := 31) hC (tgt := 5) (by decide) d_Mo_rains_31 ?_
    exact hk5 x1 x2 y27 (x4 + 1) S h
theorem w_Mo_rains_l5 {X : CX} {V : WV} (hV : IsM V) {z : Mem} (hC : Ck X V bc_Mo_rains 9 "SecretWellsModel" none 11 243) : ∀ (n : Nat) (x1 : Int32) (x2 : Int32) (x3 : Int32) (x4 : Int32) (S : Mem), f_Mo_rains_l5  n x1 x2 x3 x4 S = some z → G X V 9 (QV X V z) 5 [some (.ref (V.2.2.1 0 0)), some (.int x1), some (.int x2), some (.int x3), some (.int x4), none, none, none, none] [] S := by
  intro n
  induction n with
  | zero =>
    intro x1 x2 x3 x4 S h
    have h : (none : Option (Mem)) = some z := h
    cases h
  | succ n ih =>
    intro x1 x2 x3 x4 S h
    exact w_Mo_rains_b5 hV hC (f_Mo_rains_l5  n) ih x1 x2 x3 x4 S h
set_option maxRecDepth 20000 in
theorem w_Mo_rains_b0 {X : CX} {V : WV} (hV : IsM V) {z : Mem} (hC : Ck X V bc_Mo_rains 9 "SecretWellsModel" none 11 243) (x1 : Int32) (x2 : Int32) (S : Mem) (h : f_Mo_rains_b0  x1 x2 S = some z) : G X V 9 (QV X V z) 0 [some (.ref (V.2.2.1 0 0)), some (.int x1), some (.int x2), none, none, none, none, none, none] [] S := by
  unfold f_Mo_rains_b0 at h
  refine g_iconst (pc := 0) hC kc_1 d_Mo_rains_0 ?_
  refine s_istore_n (pc := 1) hC (i := 3) rfl (by decide) d_Mo_rains_1 (lv2 := [some (.ref (V.2.2.1 0 0)), some (.int x1), some (.int x2), some (.int 1), none, none, none, none, none]) rfl ?_
  refine g_iconst (pc := 2) hC kc_0 d_Mo_rains_2 ?_
  refine s_istore (pc := 3) hC (i := 4) (by decide) d_Mo_rains_3 (lv2 := [some (.ref (V.2.2.1 0 0)), some (.int x1), some (.int x2), some (.int 1), some (.int 0), none, none, none, none]) rfl ?_
  exact w_Mo_rains_l5 hV hC 5000 x1 x2 1 0 S h
theorem c_Mo_rains {V : WV} {l : Launch} (hV : IsM V) {x1 : Int32} {x2 : Int32} {S : Mem} {z : Mem} (h : f_Mo_rains x1 x2 S = some z) : CV V l y_Mo_rains bc_Mo_rains 9 none 11 243 [.ref (V.2.2.1 0 0), .int x1, .int x2] S z :=
  ct_v rfl (IsM.ok hV) (Nat.le_of_ble_eq_true rfl) (fun _ _ hC => w_Mo_rains_b0 hV hC x1 x2 S h)
def f_Mo_isRain_b0 (S : Mem) (x1 : Int32) (x2 : Int32) : Option (Int32) :=
  gIn (S.1 0 18) 2 (
  Option.bind (f_Mo_in x1 1 (((1 : Int32) <<< ((S.2.1 0 30 (S.1 0 18).toNatClampNeg) &&& 31)) - 1)) (fun q15 =>
  if q15 = 0 then
    some 0
  else
    Option.bind (f_Mo_bits x1) (fun q22 =>
    if 5 ≤ q22 then
      some 0
    else
      Option.bind (f_Mo_in x2 1 60) (fun q33 =>
      if q33 = 0 then
        some 0
      else
        some 1))))
def f_Mo_isRain (x1 : Int32) (x2 : Int32) (S : Mem) : Option (Int32) := f_Mo_isRain_b0 S x1 x2
theorem d_Mo_isRain_0 : decode bc_Mo_isRain 0 = .ok (.iload_n 1, 1) := by decide +kernel
theorem d_Mo_isRain_1 : decode bc_Mo_isRain 1 = .ok (.iconst 1, 1) := by decide +kernel
theorem d_Mo_isRain_2 : decode bc_Mo_isRain 2 = .ok (.iconst 1, 1) := by decide +kernel
theorem d_Mo_isRain_3 : decode bc_Mo_isRain 3 = .ok (.aload_n 0, 1) := by decide +kernel
theorem d_Mo_isRain_4 : decode bc_Mo_isRain 4 = .ok (.getfield 67, 3) := by decide +kernel
theorem d_Mo_isRain_7 : decode bc_Mo_isRain 7 = .ok (.aload_n 0, 1) := by decide +kernel
theorem d_Mo_isRain_8 : decode bc_Mo_isRain 8 = .ok (.getfield 245, 3) := by decide +kernel
theorem d_Mo_isRain_11 : decode bc_Mo_isRain 11 = .ok (.iaload, 1) := by decide +kernel
theorem d_Mo_isRain_12 : decode bc_Mo_isRain 12 = .ok (.ishl, 1) := by decide +kernel
theorem d_Mo_isRain_13 : decode bc_Mo_isRain 13 = .ok (.iconst 1, 1) := by decide +kernel
theorem d_Mo_isRain_14 : decode bc_Mo_isRain 14 = .ok (.isub, 1) := by decide +kernel
theorem d_Mo_isRain_15 : decode bc_Mo_isRain 15 = .ok (.invokestatic 332, 3) := by decide +kernel
theorem d_Mo_isRain_18 : decode bc_Mo_isRain 18 = .ok (.ifCond .eq 25, 3) := by decide +kernel
theorem d_Mo_isRain_21 : decode bc_Mo_isRain 21 = .ok (.iload_n 1, 1) := by decide +kernel
theorem d_Mo_isRain_22 : decode bc_Mo_isRain 22 = .ok (.invokestatic 349, 3) := by decide +kernel
theorem d_Mo_isRain_25 : decode bc_Mo_isRain 25 = .ok (.iconst 5, 1) := by decide +kernel
theorem d_Mo_isRain_26 : decode bc_Mo_isRain 26 = .ok (.if_icmp .ge 17, 3) := by decide +kernel
theorem d_Mo_isRain_29 : decode bc_Mo_isRain 29 = .ok (.iload_n 2, 1) := by decide +kernel
theorem d_Mo_isRain_30 : decode bc_Mo_isRain 30 = .ok (.iconst 1, 1) := by decide +kernel
theorem d_Mo_isRain_31 : decode bc_Mo_isRain 31 = .ok (.bipush 60, 2) := by decide +kernel
theorem d_Mo_isRain_33 : decode bc_Mo_isRain 33 = .ok (.invokestatic 332, 3) := by decide +kernel
theorem d_Mo_isRain_36 : decode bc_Mo_isRain 36 = .ok (.ifCond .eq 7, 3) := by decide +kernel
theorem d_Mo_isRain_39 : decode bc_Mo_isRain 39 = .ok (.iconst 1, 1) := by decide +kernel
theorem d_Mo_isRain_40 : decode bc_Mo_isRain 40 = .ok (.goto 4, 3) := by decide +kernel
theorem d_Mo_isRain_43 : decode bc_Mo_isRain 43 = .ok (.iconst 0, 1) := by decide +kernel
theorem d_Mo_isRain_44 : decode bc_Mo_isRain 44 = .ok (.ireturn, 1) := by decide +kernel
set_option maxRecDepth 20000 in
theorem w_Mo_isRain_b0 {X : CX} {V : WV} (hV : IsM V) {S : Mem} {z : Int32} (hC : Ck X V bc_Mo_isRain 3 "SecretWellsModel" (some .boolean) 1 22) (x1 : Int32) (x2 : Int32) (h : f_Mo_isRain_b0 S x1 x2 = some z) : G X V 3 (QI X V z S) 0 [some (.ref (V.2.2.1 0 0)), some (.int x1), some (.int x2)] [] S := by
  unfold f_Mo_isRain_b0 at h
  refine g_iload_n (pc := 0) hC (i := 1) (x := x1) rfl rfl d_Mo_isRain_0 ?_
  refine g_iconst (pc := 1) hC kc_1 d_Mo_isRain_1 ?_
  refine g_iconst (pc := 2) hC kc_1 d_Mo_isRain_2 ?_
  refine g_aload_n (pc := 3) hC (i := 0) (x := (V.2.2.1 0 0)) rfl rfl d_Mo_isRain_3 ?_
  refine g_getA (pc := 4) hC fo_Mo_67 (ob_Mo hV) rfl d_Mo_isRain_4 ?_
  refine g_aload_n (pc := 7) hC (i := 0) (x := (V.2.2.1 0 0)) rfl rfl d_Mo_isRain_7 ?_
  refine g_getI (pc := 8) hC fo_Mo_245 (ob_Mo hV) rfl d_Mo_isRain_8 ?_
  refine g_iald (pc := 11) hC (ar_Mo_30 hV) d_Mo_isRain_11 h (fun h => ?_)
  refine g_ishl (pc := 12) hC d_Mo_isRain_12 ?_
  refine g_iconst (pc := 13) hC kc_1 d_Mo_isRain_13 ?_
  refine g_isub (pc := 14) hC d_Mo_isRain_14 ?_
  obtain ⟨q15, hq15, h⟩ := Option.bind_eq_some_iff.mp h
  refine g_si (pc := 15) hC (As := [.int x1, .int 1, .int (((1 : Int32) <<< ((S.2.1 0 30 (S.1 0 18).toNatClampNeg) &&& 31)) - 1)]) (st := []) mt_Mo_in lk_Mo_332 (Nat.le_of_ble_eq_true rfl) ⟨Nat.le_of_ble_eq_true rfl, Nat.le_of_ble_eq_true rfl⟩ rfl d_Mo_isRain_15 (c_Mo_in (IsM.ok hV) hq15) ?_
  refine g_if_eq (pc := 18) hC (tgt := 43) (by decide) d_Mo_isRain_18 h (fun h => ?_) (fun h => ?_)
  · refine g_iconst (pc := 43) hC kc_0 d_Mo_isRain_43 ?_
    exact g_iN (pc := 44) hC rfl d_Mo_isRain_44 h
  · refine g_iload_n (pc := 21) hC (i := 1) (x := x1) rfl rfl d_Mo_isRain_21 ?_
    obtain ⟨q22, hq22, h⟩ := Option.bind_eq_some_iff.mp h
    refine g_si (pc := 22) hC (As := [.int x1]) (st := []) mt_Mo_bits lk_Mo_349 (Nat.le_of_ble_eq_true rfl) ⟨Nat.le_of_ble_eq_true rfl, Nat.le_of_ble_eq_true rfl⟩ rfl d_Mo_isRain_22 (c_Mo_bits (IsM.ok hV) hq22) ?_
    refine g_iconst (pc := 25) hC kc_5 d_Mo_isRain_25 ?_
    refine g_icmp_ge (pc := 26) hC (tgt := 43) (by decide) d_Mo_isRain_26 h (fun h => ?_) (fun h => ?_)
    · refine g_iconst (pc := 43) hC kc_0 d_Mo_isRain_43 ?_
      exact g_iN (pc := 44) hC rfl d_Mo_isRain_44 h
    · refine g_iload_n (pc := 29) hC (i := 2) (x := x2) rfl rfl d_Mo_isRain_29 ?_
      refine g_iconst (pc := 30) hC kc_1 d_Mo_isRain_30 ?_
      refine g_bipush (pc := 31) hC kb_60 d_Mo_isRain_31 ?_
      obtain ⟨q33, hq33, h⟩ := Option.bind_eq_some_iff.mp h
      refine g_si (pc := 33) hC (As := [.int x2, .int 1, .int 60]) (st := []) mt_Mo_in lk_Mo_332 (Nat.le_of_ble_eq_true rfl) ⟨Nat.le_of_ble_eq_true rfl, Nat.le_of_ble_eq_true rfl⟩ rfl d_Mo_isRain_33 (c_Mo_in (IsM.ok hV) hq33) ?_
      refine g_if_eq (pc := 36) hC (tgt := 43) (by decide) d_Mo_isRain_36 h (fun h => ?_) (fun h => ?_)
      · refine g_iconst (pc := 43) hC kc_0 d_Mo_isRain_43 ?_
        exact g_iN (pc := 44) hC rfl d_Mo_isRain_44 h
      · refine g_iconst (pc := 39) hC kc_1 d_Mo_isRain_39 ?_
        refine g_goto (pc := 40) hC (tgt := 44) (by decide) d_Mo_isRain_40 ?_
        exact g_iN (pc := 44) hC rfl d_Mo_isRain_44 h
theorem c_Mo_isRain {V : WV} {l : Launch} (hV : IsM V) {x1 : Int32} {x2 : Int32} {S : Mem} {z : Int32} (h : f_Mo_isRain x1 x2 S = some z) : CI V l y_Mo_isRain bc_Mo_isRain 3 (some .boolean) 1 22 [.ref (V.2.2.1 0 0), .int x1, .int x2] S z S :=
  ct_i rfl (IsM.ok hV) (Nat.le_of_ble_eq_true rfl) (fun _ _ hC => w_Mo_isRain_b0 hV hC x1 x2 h)
def f_Mo_rain_b0 (x1 : Int32) (x2 : Int32) (x3 : Int32) (S : Mem) : Option (Int32 × Mem) :=
  Option.bind (f_Mo_isRain x1 x2 S) (fun q3 =>
  if q3 = 0 then
    some ((-1), S)
  else
    Option.bind (f_Mo_in x3 0 2) (fun q12 =>
    if q12 = 0 then
      some ((-1), S)
    else
      gIn (S.1 0 18) 2 (
      if (S.2.1 0 24 (S.1 0 18).toNatClampNeg) = 0 then
        some ((-2), S)
      else
        Option.bind (f_Mo_rains x1 x2 S) (fun q38 =>
        if x3 = 0 then
          some (q38.1 0 63, q38)
        else
          if x3 = 1 then
            some (q38.1 0 64, q38)
          else
            some (q38.1 0 65, q38)))))
def f_Mo_rain (x1 : Int32) (x2 : Int32) (x3 : Int32) (S : Mem) : Option (Int32 × Mem) := f_Mo_rain_b0  x1 x2 x3 S
theorem d_Mo_rain_0 : decode bc_Mo_rain 0 = .ok (.aload_n 0, 1) := by decide +kernel
theorem d_Mo_rain_1 : decode bc_Mo_rain 1 = .ok (.iload_n 1, 1) := by decide +kernel
theorem d_Mo_rain_2 : decode bc_Mo_rain 2 = .ok (.iload_n 2, 1) := by decide +kernel
theorem d_Mo_rain_3 : decode bc_Mo_rain 3 = .ok (.invokevirtual 462, 3) := by decide +kernel
theorem d_Mo_rain_6 : decode bc_Mo_rain 6 = .ok (.ifCond .eq 12, 3) := by decide +kernel
theorem d_Mo_rain_9 : decode bc_Mo_rain 9 = .ok (.iload_n 3, 1) := by decide +kernel
theorem d_Mo_rain_10 : decode bc_Mo_rain 10 = .ok (.iconst 0, 1) := by decide +kernel
theorem d_Mo_rain_11 : decode bc_Mo_rain 11 = .ok (.iconst 2, 1) := by decide +kernel
theorem d_Mo_rain_12 : decode bc_Mo_rain 12 = .ok (.invokestatic 332, 3) := by decide +kernel
theorem d_Mo_rain_15 : decode bc_Mo_rain 15 = .ok (.ifCond .ne 5, 3) := by decide +kernel
theorem d_Mo_rain_18 : decode bc_Mo_rain 18 = .ok (.iconst (-1), 1) := by decide +kernel
theorem d_Mo_rain_19 : decode bc_Mo_rain 19 = .ok (.ireturn, 1) := by decide +kernel
theorem d_Mo_rain_20 : decode bc_Mo_rain 20 = .ok (.aload_n 0, 1) := by decide +kernel
theorem d_Mo_rain_21 : decode bc_Mo_rain 21 = .ok (.getfield 49, 3) := by decide +kernel
theorem d_Mo_rain_24 : decode bc_Mo_rain 24 = .ok (.aload_n 0, 1) := by decide +kernel
theorem d_Mo_rain_25 : decode bc_Mo_rain 25 = .ok (.getfield 245, 3) := by decide +kernel
theorem d_Mo_rain_28 : decode bc_Mo_rain 28 = .ok (.iaload, 1) := by decide +kernel
theorem d_Mo_rain_29 : decode bc_Mo_rain 29 = .ok (.ifCond .ne 6, 3) := by decide +kernel
theorem d_Mo_rain_32 : decode bc_Mo_rain 32 = .ok (.bipush (-2), 2) := by decide +kernel
theorem d_Mo_rain_34 : decode bc_Mo_rain 34 = .ok (.ireturn, 1) := by decide +kernel
theorem d_Mo_rain_35 : decode bc_Mo_rain 35 = .ok (.aload_n 0, 1) := by decide +kernel
theorem d_Mo_rain_36 : decode bc_Mo_rain 36 = .ok (.iload_n 1, 1) := by decide +kernel
theorem d_Mo_rain_37 : decode bc_Mo_rain 37 = .ok (.iload_n 2, 1) := by decide +kernel
theorem d_Mo_rain_38 : decode bc_Mo_rain 38 = .ok (.invokevirtual 465, 3) := by decide +kernel
theorem d_Mo_rain_41 : decode bc_Mo_rain 41 = .ok (.iload_n 3, 1) := by decide +kernel
theorem d_Mo_rain_42 : decode bc_Mo_rain 42 = .ok (.ifCond .ne 10, 3) := by decide +kernel
theorem d_Mo_rain_45 : decode bc_Mo_rain 45 = .ok (.aload_n 0, 1) := by decide +kernel
theorem d_Mo_rain_46 : decode bc_Mo_rain 46 = .ok (.getfield 453, 3) := by decide +kernel
theorem d_Mo_rain_49 : decode bc_Mo_rain 49 = .ok (.goto 19, 3) := by decide +kernel
theorem d_Mo_rain_52 : decode bc_Mo_rain 52 = .ok (.iload_n 3, 1) := by decide +kernel
theorem d_Mo_rain_53 : decode bc_Mo_rain 53 = .ok (.iconst 1, 1) := by decide +kernel
theorem d_Mo_rain_54 : decode bc_Mo_rain 54 = .ok (.if_icmp .ne 10, 3) := by decide +kernel
theorem d_Mo_rain_57 : decode bc_Mo_rain 57 = .ok (.aload_n 0, 1) := by decide +kernel
theorem d_Mo_rain_58 : decode bc_Mo_rain 58 = .ok (.getfield 456, 3) := by decide +kernel
theorem d_Mo_rain_61 : decode bc_Mo_rain 61 = .ok (.goto 7, 3) := by decide +kernel
theorem d_Mo_rain_64 : decode bc_Mo_rain 64 = .ok (.aload_n 0, 1) := by decide +kernel
theorem d_Mo_rain_65 : decode bc_Mo_rain 65 = .ok (.getfield 459, 3) := by decide +kernel
theorem d_Mo_rain_68 : decode bc_Mo_rain 68 = .ok (.ireturn, 1) := by decide +kernel
set_option maxRecDepth 20000 in
theorem w_Mo_rain_b0 {X : CX} {V : WV} (hV : IsM V) {z : Int32 × Mem} (hC : Ck X V bc_Mo_rain 4 "SecretWellsModel" (some .int) 12 271) (x1 : Int32) (x2 : Int32) (x3 : Int32) (S : Mem) (h : f_Mo_rain_b0  x1 x2 x3 S = some z) : G X V 4 (QI X V z.1 z.2) 0 [some (.ref (V.2.2.1 0 0)), some (.int x1), some (.int x2), some (.int x3)] [] S := by
  unfold f_Mo_rain_b0 at h
  refine g_aload_n (pc := 0) hC (i := 0) (x := (V.2.2.1 0 0)) rfl rfl d_Mo_rain_0 ?_
  refine g_iload_n (pc := 1) hC (i := 1) (x := x1) rfl rfl d_Mo_rain_1 ?_
  refine g_iload_n (pc := 2) hC (i := 2) (x := x2) rfl rfl d_Mo_rain_2 ?_
  obtain ⟨q3, hq3, h⟩ := Option.bind_eq_some_iff.mp h
  refine g_vi (pc := 3) hC (As := [.int x1, .int x2]) (st := []) mt_Mo_isRain lk_Mo_462 rfl (ob_Mo hV) (Nat.le_of_ble_eq_true rfl) ⟨Nat.le_of_ble_eq_true rfl, Nat.le_of_ble_eq_true rfl⟩ rfl d_Mo_rain_3 (c_Mo_isRain hV hq3) ?_
  refine g_if_eq (pc := 6) hC (tgt := 18) (by decide) d_Mo_rain_6 h (fun h => ?_) (fun h => ?_)
  · refine g_iconst (pc := 18) hC kc_m1 d_Mo_rain_18 ?_
    exact g_iW (pc := 19) hC rfl d_Mo_rain_19 h
  · refine g_iload_n (pc := 9) hC (i := 3) (x := x3) rfl rfl d_Mo_rain_9 ?_
    refine g_iconst (pc := 10) hC kc_0 d_Mo_rain_10 ?_
    refine g_iconst (pc := 11) hC kc_2 d_Mo_rain_11 ?_
    obtain ⟨q12, hq12, h⟩ := Option.bind_eq_some_iff.mp h
    refine g_si (pc := 12) hC (As := [.int x3, .int 0, .int 2]) (st := []) mt_Mo_in lk_Mo_332 (Nat.le_of_ble_eq_true rfl) ⟨Nat.le_of_ble_eq_true rfl, Nat.le_of_ble_eq_true rfl⟩ rfl d_Mo_rain_12 (c_Mo_in (IsM.ok hV) hq12) ?_
    refine g_if_ne (pc := 15) hC (tgt := 20) (by decide) d_Mo_rain_15 h (fun h => ?_) (fun h => ?_)
    · refine g_aload_n (pc := 20) hC (i := 0) (x := (V.2.2.1 0 0)) rfl rfl d_Mo_rain_20 ?_
      refine g_getA (pc := 21) hC fo_Mo_49 (ob_Mo hV) rfl d_Mo_rain_21 ?_
      refine g_aload_n (pc := 24) hC (i := 0) (x := (V.2.2.1 0 0)) rfl rfl d_Mo_rain_24 ?_
      refine g_getI (pc := 25) hC fo_Mo_245 (ob_Mo hV) rfl d_Mo_rain_25 ?_
      refine g_iald (pc := 28) hC (ar_Mo_24 hV) d_Mo_rain_28 h (fun h => ?_)
      refine g_if_ne (pc := 29) hC (tgt := 35) (by decide) d_Mo_rain_29 h (fun h => ?_) (fun h => ?_)
      · refine g_aload_n (pc := 35) hC (i := 0) (x := (V.2.2.1 0 0)) rfl rfl d_Mo_rain_35 ?_
        refine g_iload_n (pc := 36) hC (i := 1) (x := x1) rfl rfl d_Mo_rain_36 ?_
        refine g_iload_n (pc := 37) hC (i := 2) (x := x2) rfl rfl d_Mo_rain_37 ?_
        obtain ⟨q38, hq38, h⟩ := Option.bind_eq_some_iff.mp h
        refine g_vv (pc := 38) hC (As := [.int x1, .int x2]) (st := []) mt_Mo_rains lk_Mo_465 rfl (ob_Mo hV) (Nat.le_of_ble_eq_true rfl) ⟨Nat.le_of_ble_eq_true rfl, Nat.le_of_ble_eq_true rfl⟩ rfl d_Mo_rain_38 (c_Mo_rains hV hq38) ?_
        refine g_iload_n (pc := 41) hC (i := 3) (x := x3) rfl rfl d_Mo_rain_41 ?_
        refine g_if_ne (pc := 42) hC (tgt := 52) (by decide) d_Mo_rain_42 h (fun h => ?_) (fun h => ?_)
        · refine g_iload_n (pc := 52) hC (i := 3) (x := x3) rfl rfl d_Mo_rain_52 ?_
          refine g_iconst (pc := 53) hC kc_1 d_Mo_rain_53 ?_
          refine g_icmp_ne (pc := 54) hC (tgt := 64) (by decide) d_Mo_rain_54 h (fun h => ?_) (fun h => ?_)
          · refine g_aload_n (pc := 64) hC (i := 0) (x := (V.2.2.1 0 0)) rfl rfl d_Mo_rain_64 ?_
            refine g_getI (pc := 65) hC fo_Mo_459 (ob_Mo hV) rfl d_Mo_rain_65 ?_
            exact g_iW (pc := 68) hC rfl d_Mo_rain_68 h
          · refine g_aload_n (pc := 57) hC (i := 0) (x := (V.2.2.1 0 0)) rfl rfl d_Mo_rain_57 ?_
            refine g_getI (pc := 58) hC fo_Mo_456 (ob_Mo hV) rfl d_Mo_rain_58 ?_
            refine g_goto (pc := 61) hC (tgt := 68) (by decide) d_Mo_rain_61 ?_
            exact g_iW (pc := 68) hC rfl d_Mo_rain_68 h
        · refine g_aload_n (pc := 45) hC (i := 0) (x := (V.2.2.1 0 0)) rfl rfl d_Mo_rain_45 ?_
          refine g_getI (pc := 46) hC fo_Mo_453 (ob_Mo hV) rfl d_Mo_rain_46 ?_
          refine g_goto (pc := 49) hC (tgt := 68) (by decide) d_Mo_rain_49 ?_
          exact g_iW (pc := 68) hC rfl d_Mo_rain_68 h
      · refine g_bipush (pc := 32) hC kb_m2 d_Mo_rain_32 ?_
        exact g_iW (pc := 34) hC rfl d_Mo_rain_34 h
    · refine g_iconst (pc := 18) hC kc_m1 d_Mo_rain_18 ?_
      exact g_iW (pc := 19) hC rfl d_Mo_rain_19 h
theorem c_Mo_rain {V : WV} {l : Launch} (hV : IsM V) {x1 : Int32} {x2 : Int32} {x3 : Int32} {S : Mem} {z : Int32 × Mem} (h : f_Mo_rain x1 x2 x3 S = some z) : CI V l y_Mo_rain bc_Mo_rain 4 (some .int) 12 271 [.ref (V.2.2.1 0 0), .int x1, .int x2, .int x3] S z.1 z.2 :=
  ct_i rfl (IsM.ok hV) (Nat.le_of_ble_eq_true rfl) (fun _ _ hC => w_Mo_rain_b0 hV hC x1 x2 x3 S h)
def f_Mo_rainAt_b60 (k60 : Int32 → Int32 → Int32 → Mem → Option (Int32 × Mem)) (x3 : Int32) (x4 : Int32) (x5 : Int32) (S : Mem) : Option (Int32 × Mem) :=
  if x5 ≤ x3 then
    gIn (S.1 0 18) 2 (
    gNz ((S.2.1 0 24 (S.1 0 18).toNatClampNeg) + 1) (
    letS ((x4 - x4 / ((S.2.1 0 24 (S.1 0 18).toNatClampNeg) + 1) * ((S.2.1 0 24 (S.1 0 18).toNatClampNeg) + 1)) - 1) (fun y104 =>
    if 0 ≤ y104 then
      some (y104, S)
    else
      some ((-3), S))))
  else
    gIn (S.1 0 18) 2 (
    gNz ((S.2.1 0 24 (S.1 0 18).toNatClampNeg) + 1) (
    letS (x4 / ((S.2.1 0 24 (S.1 0 18).toNatClampNeg) + 1)) (fun y80 =>
    k60 x3 y80 (x5 + (-1)) S)))
def f_Mo_rainAt_l60 : Nat → Int32 → Int32 → Int32 → Mem → Option (Int32 × Mem)
  | 0 => fun _ _ _ _ => none
  | n + 1 => f_Mo_rainAt_b60  (f_Mo_rainAt_l60  n)
def f_Mo_rainAt_b0 (x1 : Int32) (x2 : Int32) (x3 : Int32) (S : Mem) : Option (Int32 × Mem) :=
  Option.bind (f_Mo_isRain x1 x2 S) (fun q3 =>
  if q3 = 0 then
    some ((-1), S)
  else
    Option.bind (f_Mo_bits x1) (fun q12 =>
    Option.bind (f_Mo_in x3 0 (q12 - 1)) (fun q17 =>
    if q17 = 0 then
      some ((-1), S)
    else
      gIn (S.1 0 18) 2 (
      if (S.2.1 0 24 (S.1 0 18).toNatClampNeg) = 0 then
        some ((-2), S)
      else
        Option.bind (f_Mo_rains x1 x2 S) (fun q43 =>
        letS (q43.1 0 62) (fun y50 =>
        Option.bind (f_Mo_bits x1) (fun q53 =>
        letS (q53 - 1) (fun y58 =>
        f_Mo_rainAt_l60 5000 x3 y50 y58 q43))))))))
def f_Mo_rainAt (x1 : Int32) (x2 : Int32) (x3 : Int32) (S : Mem) : Option (Int32 × Mem) := f_Mo_rainAt_b0  x1 x2 x3 S
theorem d_Mo_rainAt_0 : decode bc_Mo_rainAt 0 = .ok (.aload_n 0, 1) := by decide +kernel
theorem d_Mo_rainAt_1 : decode bc_Mo_rainAt 1 = .ok (.iload_n 1, 1) := by decide +kernel
theorem d_Mo_rainAt_2 : decode bc_Mo_rainAt 2 = .ok (.iload_n 2, 1) := by decide +kernel
theorem d_Mo_rainAt_3 : decode bc_Mo_rainAt 3 = .ok (.invokevirtual 462, 3) := by decide +kernel
theorem d_Mo_rainAt_6 : decode bc_Mo_rainAt 6 = .ok (.ifCond .eq 17, 3) := by decide +kernel
theorem d_Mo_rainAt_9 : decode bc_Mo_rainAt 9 = .ok (.iload_n 3, 1) := by decide +kernel
theorem d_Mo_rainAt_10 : decode bc_Mo_rainAt 10 = .ok (.iconst 0, 1) := by decide +kernel
theorem d_Mo_rainAt_11 : decode bc_Mo_rainAt 11 = .ok (.iload_n 1, 1) := by decide +kernel
theorem d_Mo_rainAt_12 : decode bc_Mo_rainAt 12 = .ok (.invokestatic 349, 3) := by decide +kernel
theorem d_Mo_rainAt_15 : decode bc_Mo_rainAt 15 = .ok (.iconst 1, 1) := by decide +kernel
theorem d_Mo_rainAt_16 : decode bc_Mo_rainAt 16 = .ok (.isub, 1) := by decide +kernel
theorem d_Mo_rainAt_17 : decode bc_Mo_rainAt 17 = .ok (.invokestatic 332, 3) := by decide +kernel
theorem d_Mo_rainAt_20 : decode bc_Mo_rainAt 20 = .ok (.ifCond .ne 5, 3) := by decide +kernel
theorem d_Mo_rainAt_23 : decode bc_Mo_rainAt 23 = .ok (.iconst (-1), 1) := by decide +kernel
theorem d_Mo_rainAt_24 : decode bc_Mo_rainAt 24 = .ok (.ireturn, 1) := by decide +kernel
theorem d_Mo_rainAt_25 : decode bc_Mo_rainAt 25 = .ok (.aload_n 0, 1) := by decide +kernel
theorem d_Mo_rainAt_26 : decode bc_Mo_rainAt 26 = .ok (.getfield 49, 3) := by decide +kernel
theorem d_Mo_rainAt_29 : decode bc_Mo_rainAt 29 = .ok (.aload_n 0, 1) := by decide +kernel
theorem d_Mo_rainAt_30 : decode bc_Mo_rainAt 30 = .ok (.getfield 245, 3) := by decide +kernel
theorem d_Mo_rainAt_33 : decode bc_Mo_rainAt 33 = .ok (.iaload, 1) := by decide +kernel
theorem d_Mo_rainAt_34 : decode bc_Mo_rainAt 34 = .ok (.ifCond .ne 6, 3) := by decide +kernel
theorem d_Mo_rainAt_37 : decode bc_Mo_rainAt 37 = .ok (.bipush (-2), 2) := by decide +kernel
theorem d_Mo_rainAt_39 : decode bc_Mo_rainAt 39 = .ok (.ireturn, 1) := by decide +kernel
theorem d_Mo_rainAt_40 : decode bc_Mo_rainAt 40 = .ok (.aload_n 0, 1) := by decide +kernel
theorem d_Mo_rainAt_41 : decode bc_Mo_rainAt 41 = .ok (.iload_n 1, 1) := by decide +kernel
theorem d_Mo_rainAt_42 : decode bc_Mo_rainAt 42 = .ok (.iload_n 2, 1) := by decide +kernel
theorem d_Mo_rainAt_43 : decode bc_Mo_rainAt 43 = .ok (.invokevirtual 465, 3) := by decide +kernel
theorem d_Mo_rainAt_46 : decode bc_Mo_rainAt 46 = .ok (.aload_n 0, 1) := by decide +kernel
theorem d_Mo_rainAt_47 : decode bc_Mo_rainAt 47 = .ok (.getfield 444, 3) := by decide +kernel
theorem d_Mo_rainAt_50 : decode bc_Mo_rainAt 50 = .ok (.istore 4, 2) := by decide +kernel
theorem d_Mo_rainAt_52 : decode bc_Mo_rainAt 52 = .ok (.iload_n 1, 1) := by decide +kernel
theorem d_Mo_rainAt_53 : decode bc_Mo_rainAt 53 = .ok (.invokestatic 349, 3) := by decide +kernel
theorem d_Mo_rainAt_56 : decode bc_Mo_rainAt 56 = .ok (.iconst 1, 1) := by decide +kernel
theorem d_Mo_rainAt_57 : decode bc_Mo_rainAt 57 = .ok (.isub, 1) := by decide +kernel
theorem d_Mo_rainAt_58 : decode bc_Mo_rainAt 58 = .ok (.istore 5, 2) := by decide +kernel
theorem d_Mo_rainAt_60 : decode bc_Mo_rainAt 60 = .ok (.iload 5, 2) := by decide +kernel
theorem d_Mo_rainAt_62 : decode bc_Mo_rainAt 62 = .ok (.iload_n 3, 1) := by decide +kernel
theorem d_Mo_rainAt_63 : decode bc_Mo_rainAt 63 = .ok (.if_icmp .le 25, 3) := by decide +kernel
theorem d_Mo_rainAt_66 : decode bc_Mo_rainAt 66 = .ok (.iload 4, 2) := by decide +kernel
theorem d_Mo_rainAt_68 : decode bc_Mo_rainAt 68 = .ok (.aload_n 0, 1) := by decide +kernel
theorem d_Mo_rainAt_69 : decode bc_Mo_rainAt 69 = .ok (.getfield 49, 3) := by decide +kernel
theorem d_Mo_rainAt_72 : decode bc_Mo_rainAt 72 = .ok (.aload_n 0, 1) := by decide +kernel
theorem d_Mo_rainAt_73 : decode bc_Mo_rainAt 73 = .ok (.getfield 245, 3) := by decide +kernel
theorem d_Mo_rainAt_76 : decode bc_Mo_rainAt 76 = .ok (.iaload, 1) := by decide +kernel
theorem d_Mo_rainAt_77 : decode bc_Mo_rainAt 77 = .ok (.iconst 1, 1) := by decide +kernel
theorem d_Mo_rainAt_78 : decode bc_Mo_rainAt 78 = .ok (.iadd, 1) := by decide +kernel
theorem d_Mo_rainAt_79 : decode bc_Mo_rainAt 79 = .ok (.idiv, 1) := by decide +kernel
theorem d_Mo_rainAt_80 : decode bc_Mo_rainAt 80 = .ok (.istore 4, 2) := by decide +kernel
theorem d_Mo_rainAt_82 : decode bc_Mo_rainAt 82 = .ok (.iinc 5 (-1), 3) := by decide +kernel
theorem d_Mo_rainAt_85 : decode bc_Mo_rainAt 85 = .ok (.goto (-25), 3) := by decide +kernel
theorem d_Mo_rainAt_88 : decode bc_Mo_rainAt 88 = .ok (.iload 4, 2) := by decide +kernel
theorem d_Mo_rainAt_90 : decode bc_Mo_rainAt 90 = .ok (.aload_n 0, 1) := by decide +kernel
theorem d_Mo_rainAt_91 : decode bc_Mo_rainAt 91 = .ok (.getfield 49, 3) := by decide +kernel
theorem d_Mo_rainAt_94 : decode bc_Mo_rainAt 94 = .ok (.aload_n 0, 1) := by decide +kernel
theorem d_Mo_rainAt_95 : decode bc_Mo_rainAt 95 = .ok (.getfield 245, 3) := by decide +kernel
theorem d_Mo_rainAt_98 : decode bc_Mo_rainAt 98 = .ok (.iaload, 1) := by decide +kernel
theorem d_Mo_rainAt_99 : decode bc_Mo_rainAt 99 = .ok (.iconst 1, 1) := by decide +kernel
theorem d_Mo_rainAt_100 : decode bc_Mo_rainAt 100 = .ok (.iadd, 1) := by decide +kernel
theorem d_Mo_rainAt_101 : decode bc_Mo_rainAt 101 = .ok (.irem, 1) := by decide +kernel
theorem d_Mo_rainAt_102 : decode bc_Mo_rainAt 102 = .ok (.iconst 1, 1) := by decide +kernel
theorem d_Mo_rainAt_103 : decode bc_Mo_rainAt 103 = .ok (.isub, 1) := by decide +kernel
theorem d_Mo_rainAt_104 : decode bc_Mo_rainAt 104 = .ok (.istore 5, 2) := by decide +kernel
theorem d_Mo_rainAt_106 : decode bc_Mo_rainAt 106 = .ok (.iload 5, 2) := by decide +kernel
theorem d_Mo_rainAt_108 : decode bc_Mo_rainAt 108 = .ok (.ifCond .ge 8, 3) := by decide +kernel
theorem d_Mo_rainAt_111 : decode bc_Mo_rainAt 111 = .ok (.bipush (-3), 2) := by decide +kernel
theorem d_Mo_rainAt_113 : decode bc_Mo_rainAt 113 = .ok (.goto 5, 3) := by decide +kernel
theorem d_Mo_rainAt_116 : decode bc_Mo_rainAt 116 = .ok (.iload 5, 2) := by decide +kernel
theorem d_Mo_rainAt_118 : decode bc_Mo_rainAt 118 = .ok (.ireturn, 1) := by decide +kernel
set_option maxRecDepth 20000 in
theorem w_Mo_rainAt_b60 {X : CX} {V : WV} (hV : IsM V) {z : Int32 × Mem} (hC : Ck X V bc_Mo_rainAt 6 "SecretWellsModel" (some .int) 12 271) (k60 : Int32 → Int32 → Int32 → Mem → Option (Int32 × Mem)) (hk60 : ∀ (x3 : Int32) (x4 : Int32) (x5 : Int32) (S : Mem), k60 x3 x4 x5 S = some z → G X V 6 (QI X V z.1 z.2) 60 [some (.ref (V.2.2.1 0 0)), none, none, some (.int x3), some (.int x4), some (.int x5)] [] S) (x3 : Int32) (x4 : Int32) (x5 : Int32) (S : Mem) (h : f_Mo_rainAt_b60  k60 x3 x4 x5 S = some z) : G X V 6 (QI X V z.1 z.2) 60 [some (.ref (V.2.2.1 0 0)), none, none, some (.int x3), some (.int x4), some (.int x5)] [] S := by
  unfold f_Mo_rainAt_b60 at h
  refine g_iload (pc := 60) hC (i := 5) (x := x5) rfl d_Mo_rainAt_60 ?_
  refine g_iload_n (pc := 62) hC (i := 3) (x := x3) rfl rfl d_Mo_rainAt_62 ?_
  refine g_icmp_le (pc := 63) hC (tgt := 88) (by decide) d_Mo_rainAt_63 h (fun h => ?_) (fun h => ?_)
  · refine g_iload (pc := 88) hC (i := 4) (x := x4) rfl d_Mo_rainAt_88 ?_
    refine g_aload_n (pc := 90) hC (i := 0) (x := (V.2.2.1 0 0)) rfl rfl d_Mo_rainAt_90 ?_
    refine g_getA (pc := 91) hC fo_Mo_49 (ob_Mo hV) rfl d_Mo_rainAt_91 ?_
    refine g_aload_n (pc := 94) hC (i := 0) (x := (V.2.2.1 0 0)) rfl rfl d_Mo_rainAt_94 ?_
    refine g_getI (pc := 95) hC fo_Mo_245 (ob_Mo hV) rfl d_Mo_rainAt_95 ?_
    refine g_iald (pc := 98) hC (ar_Mo_24 hV) d_Mo_rainAt_98 h (fun h => ?_)
    refine g_iconst (pc := 99) hC kc_1 d_Mo_rainAt_99 ?_
    refine g_iadd (pc := 100) hC d_Mo_rainAt_100 ?_
    refine g_irem (pc := 101) hC d_Mo_rainAt_101 h (fun h => ?_)
    refine g_iconst (pc := 102) hC kc_1 d_Mo_rainAt_102 ?_
    refine g_isub (pc := 103) hC d_Mo_rainAt_103 ?_
    refine g_leti h (fun y104 h => ?_)
    refine s_istore (pc := 104) hC (i := 5) (by decide) d_Mo_rainAt_104 (lv2 := [some (.ref (V.2.2.1 0 0)), none, none, some (.int x3), some (.int x4), some (.int y104)]) rfl ?_
    refine g_iload (pc := 106) hC (i := 5) (x := y104) rfl d_Mo_rainAt_106 ?_
    refine g_if_ge (pc := 108) hC (tgt := 116) (by decide) d_Mo_rainAt_108 h (fun h => ?_) (fun h => ?_)
    · refine g_iload (pc := 116) hC (i := 5) (x := y104) rfl d_Mo_rainAt_116 ?_
      exact g_iW (pc := 118) hC rfl d_Mo_rainAt_118 h
    · refine g_bipush (pc := 111) hC kb_m3 d_Mo_rainAt_111 ?_
      refine g_goto (pc := 113) hC (tgt := 118) (by decide) d_Mo_rainAt_113 ?_
      exact g_iW (pc := 118) hC rfl d_Mo_rainAt_118 h
  · refine g_iload (pc := 66) hC (i := 4) (x := x4) rfl d_Mo_rainAt_66 ?_
    refine g_aload_n (pc := 68) hC (i := 0) (x := (V.2.2.1 0 0)) rfl rfl d_Mo_rainAt_68 ?_
    refine g_getA (pc := 69) hC fo_Mo_49 (ob_Mo hV) rfl d_Mo_rainAt_69 ?_
    refine g_aload_n (pc := 72) hC (i := 0) (x := (V.2.2.1 0 0)) rfl rfl d_Mo_rainAt_72 ?_
    refine g_getI (pc := 73) hC fo_Mo_245 (ob_Mo hV) rfl d_Mo_rainAt_73 ?_
    refine g_iald (pc := 76) hC (ar_Mo_24 hV) d_Mo_rainAt_76 h (fun h => ?_)
    refine g_iconst (pc := 77) hC kc_1 d_Mo_rainAt_77 ?_
    refine g_iadd (pc := 78) hC d_Mo_rainAt_78 ?_
    refine g_idiv (pc := 79) hC d_Mo_rainAt_79 h (fun h => ?_)
    refine g_leti h (fun y80 h => ?_)
    refine s_istore (pc := 80) hC (i := 4) (by decide) d_Mo_rainAt_80 (lv2 := [some (.ref (V.2.2.1 0 0)), none, none, some (.int x3), some (.int y80), some (.int x5)]) rfl ?_
    refine s_iinc (pc := 82) hC (i := 5) (x := x5) (v := x5 + (-1)) rfl (by rw [kc_m1]) (by decide) d_Mo_rainAt_82 (lv2 := [some (.ref (V.2.2.1 0 0)), none, none, some (.int x3), some (.int y80), some (.int (x5 + (-1)))]) rfl ?_
    refine g_goto (pc := 85) hC (tgt := 60) (by decide) d_Mo_rainAt_85 ?_
    exact hk60 x3 y80 (x5 + (-1)) S h
theorem w_Mo_rainAt_l60 {X : CX} {V : WV} (hV : IsM V) {z : Int32 × Mem} (hC : Ck X V bc_Mo_rainAt 6 "SecretWellsModel" (some .int) 12 271) : ∀ (n : Nat) (x3 : Int32) (x4 : Int32) (x5 : Int32) (S : Mem), f_Mo_rainAt_l60  n x3 x4 x5 S = some z → G X V 6 (QI X V z.1 z.2) 60 [some (.ref (V.2.2.1 0 0)), none, none, some (.int x3), some (.int x4), some (.int x5)] [] S := by
  intro n
  induction n with
  | zero =>
    intro x3 x4 x5 S h
    have h : (none : Option (Int32 × Mem)) = some z := h
    cases h
  | succ n ih =>
    intro x3 x4 x5 S h
    exact w_Mo_rainAt_b60 hV hC (f_Mo_rainAt_l60  n) ih x3 x4 x5 S h
set_option maxRecDepth 20000 in
theorem w_Mo_rainAt_b0 {X : CX} {V : WV} (hV : IsM V) {z : Int32 × Mem} (hC : Ck X V bc_Mo_rainAt 6 "SecretWellsModel" (some .int) 12 271) (x1 : Int32) (x2 : Int32) (x3 : Int32) (S : Mem) (h : f_Mo_rainAt_b0  x1 x2 x3 S = some z) : G X V 6 (QI X V z.1 z.2) 0 [some (.ref (V.2.2.1 0 0)), some (.int x1), some (.int x2), some (.int x3), none, none] [] S := by
  unfold f_Mo_rainAt_b0 at h
  refine g_aload_n (pc := 0) hC (i := 0) (x := (V.2.2.1 0 0)) rfl rfl d_Mo_rainAt_0 ?_
  refine g_iload_n (pc := 1) hC (i := 1) (x := x1) rfl rfl d_Mo_rainAt_1 ?_
  refine g_iload_n (pc := 2) hC (i := 2) (x := x2) rfl rfl d_Mo_rainAt_2 ?_
  obtain ⟨q3, hq3, h⟩ := Option.bind_eq_some_iff.mp h
  refine g_vi (pc := 3) hC (As := [.int x1, .int x2]) (st := []) mt_Mo_isRain lk_Mo_462 rfl (ob_Mo hV) (Nat.le_of_ble_eq_true rfl) ⟨Nat.le_of_ble_eq_true rfl, Nat.le_of_ble_eq_true rfl⟩ rfl d_Mo_rainAt_3 (c_Mo_isRain hV hq3) ?_
  refine g_if_eq (pc := 6) hC (tgt := 23) (by decide) d_Mo_rainAt_6 h (fun h => ?_) (fun h => ?_)
  · refine g_iconst (pc := 23) hC kc_m1 d_Mo_rainAt_23 ?_
    exact g_iW (pc := 24) hC rfl d_Mo_rainAt_24 h
  · refine g_iload_n (pc := 9) hC (i := 3) (x := x3) rfl rfl d_Mo_rainAt_9 ?_
    refine g_iconst (pc := 10) hC kc_0 d_Mo_rainAt_10 ?_
    refine g_iload_n (pc := 11) hC (i := 1) (x := x1) rfl rfl d_Mo_rainAt_11 ?_
    obtain ⟨q12, hq12, h⟩ := Option.bind_eq_some_iff.mp h
    refine g_si (pc := 12) hC (As := [.int x1]) (st := [.int 0, .int x3]) mt_Mo_bits lk_Mo_349 (Nat.le_of_ble_eq_true rfl) ⟨Nat.le_of_ble_eq_true rfl, Nat.le_of_ble_eq_true rfl⟩ rfl d_Mo_rainAt_12 (c_Mo_bits (IsM.ok hV) hq12) ?_
    refine g_iconst (pc := 15) hC kc_1 d_Mo_rainAt_15 ?_
    refine g_isub (pc := 16) hC d_Mo_rainAt_16 ?_
    obtain ⟨q17, hq17, h⟩ := Option.bind_eq_some_iff.mp h
    refine g_si (pc := 17) hC (As := [.int x3, .int 0, .int (q12 - 1)]) (st := []) mt_Mo_in lk_Mo_332 (Nat.le_of_ble_eq_true rfl) ⟨Nat.le_of_ble_eq_true rfl, Nat.le_of_ble_eq_true rfl⟩ rfl d_Mo_rainAt_17 (c_Mo_in (IsM.ok hV) hq17) ?_
    refine g_if_ne (pc := 20) hC (tgt := 25) (by decide) d_Mo_rainAt_20 h (fun h => ?_) (fun h => ?_)
    · refine g_aload_n (pc := 25) hC (i := 0) (x := (V.2.2.1 0 0)) rfl rfl d_Mo_rainAt_25 ?_
      refine g_getA (pc := 26) hC fo_Mo_49 (ob_Mo hV) rfl d_Mo_rainAt_26 ?_
      refine g_aload_n (pc := 29) hC (i := 0) (x := (V.2.2.1 0 0)) rfl rfl d_Mo_rainAt_29 ?_
      refine g_getI (pc := 30) hC fo_Mo_245 (ob_Mo hV) rfl d_Mo_rainAt_30 ?_
      refine g_iald (pc := 33) hC (ar_Mo_24 hV) d_Mo_rainAt_33 h (fun h => ?_)
      refine g_if_ne (pc := 34) hC (tgt := 40) (by decide) d_Mo_rainAt_34 h (fun h => ?_) (fun h => ?_)
      · refine g_aload_n (pc := 40) hC (i := 0) (x := (V.2.2.1 0 0)) rfl rfl d_Mo_rainAt_40 ?_
        refine g_iload_n (pc := 41) hC (i := 1) (x := x1) rfl rfl d_Mo_rainAt_41 ?_
        refine g_iload_n (pc := 42) hC (i := 2) (x := x2) rfl rfl d_Mo_rainAt_42 ?_
        obtain ⟨q43, hq43, h⟩ := Option.bind_eq_some_iff.mp h
        refine g_vv (pc := 43) hC (As := [.int x1, .int x2]) (st := []) mt_Mo_rains lk_Mo_465 rfl (ob_Mo hV) (Nat.le_of_ble_eq_true rfl) ⟨Nat.le_of_ble_eq_true rfl, Nat.le_of_ble_eq_true rfl⟩ rfl d_Mo_rainAt_43 (c_Mo_rains hV hq43) ?_
        refine g_aload_n (pc := 46) hC (i := 0) (x := (V.2.2.1 0 0)) rfl rfl d_Mo_rainAt_46 ?_
        refine g_getI (pc := 47) hC fo_Mo_444 (ob_Mo hV) rfl d_Mo_rainAt_47 ?_
        refine g_leti h (fun y50 h => ?_)
        refine s_istore (pc := 50) hC (i := 4) (by decide) d_Mo_rainAt_50 (lv2 := [some (.ref (V.2.2.1 0 0)), some (.int x1), some (.int x2), some (.int x3), some (.int y50), none]) rfl ?_
        refine g_iload_n (pc := 52) hC (i := 1) (x := x1) rfl rfl d_Mo_rainAt_52 ?_
        obtain ⟨q53, hq53, h⟩ := Option.bind_eq_some_iff.mp h
        refine g_si (pc := 53) hC (As := [.int x1]) (st := []) mt_Mo_bits lk_Mo_349 (Nat.le_of_ble_eq_true rfl) ⟨Nat.le_of_ble_eq_true rfl, Nat.le_of_ble_eq_true rfl⟩ rfl d_Mo_rainAt_53 (c_Mo_bits (IsM.ok hV) hq53) ?_
        refine g_iconst (pc := 56) hC kc_1 d_Mo_rainAt_56 ?_
        refine g_isub (pc := 57) hC d_Mo_rainAt_57 ?_
        refine g_leti h (fun y58 h => ?_)
        refine s_istore (pc := 58) hC (i := 5) (by decide) d_Mo_rainAt_58 (lv2 := [some (.ref (V.2.2.1 0 0)), some (.int x1), some (.int x2), some (.int x3), some (.int y50), some (.int y58)]) rfl ?_
        refine g_le (lv2 := [some (.ref (V.2.2.1 0 0)), none, none, some (.int x3), some (.int y50), some (.int y58)]) (⟨rfl, ⟨rfl, ⟨rfl, ⟨rfl, trivial⟩⟩⟩⟩) ?_
        exact w_Mo_rainAt_l60 hV hC 5000 x3 y50 y58 q43 h
      · refine g_bipush (pc := 37) hC kb_m2 d_Mo_rainAt_37 ?_
        exact g_iW (pc := 39) hC rfl d_Mo_rainAt_39 h
    · refine g_iconst (pc := 23) hC kc_m1 d_Mo_rainAt_23 ?_
      exact g_iW (pc := 24) hC rfl d_Mo_rainAt_24 h
theorem c_Mo_rainAt {V : WV} {l : Launch} (hV : IsM V) {x1 : Int32} {x2 : Int32} {x3 : Int32} {S : Mem} {z : Int32 × Mem} (h : f_Mo_rainAt x1 x2 x3 S = some z) : CI V l y_Mo_rainAt bc_Mo_rainAt 6 (some .int) 12 271 [.ref (V.2.2.1 0 0), .int x1, .int x2, .int x3] S z.1 z.2 :=
  ct_i rfl (IsM.ok hV) (Nat.le_of_ble_eq_true rfl) (fun _ _ hC => w_Mo_rainAt_b0 hV hC x1 x2 x3 S h)
def f_Mo_reachOf_b28 (S : Mem) (k17 : Int32 → Int32 → Int32 → Option (Int32)) (k28 : Int32 → Int32 → Int32 → Int32 → Option (Int32)) (x2 : Int32) (x3 : Int32) (x4 : Int32) (x5 : Int32) : Option (Int32) :=
  gIn (S.1 0 18) 2 (
  if (S.2.1 0 34 (S.1 0 18).toNatClampNeg) ≤ x5 then
    k17 x2 x3 x4
  else
    gIn ((12 * (S.1 0 18)) + x5) 24 (
    letS (S.2.1 0 36 ((12 * (S.1 0 18)) + x5).toNatClampNeg) (fun y57 =>
    if ((x2 >>> (x5 &&& 31)) &&& 1) = 1 then
      k28 x2 x3 x4 (x5 + 1)
    else
      Option.bind (f_Mo_isOpen x5 S) (fun q72 =>
      if q72 = 0 then
        k28 x2 x3 x4 (x5 + 1)
      else
        gIn ((12 * (S.1 0 18)) + x5) 24 (
        if ((x3 >>> ((S.2.1 0 35 ((12 * (S.1 0 18)) + x5).toNatClampNeg) &&& 31)) &&& 1) = 0 then
          k28 x2 x3 x4 (x5 + 1)
        else
          if ((x3 >>> (y57 &&& 31)) &&& 1) = 1 then
            k28 x2 x3 x4 (x5 + 1)
          else
            letS (x3 ||| ((1 : Int32) <<< (y57 &&& 31))) (fun y119 =>
            k28 x2 y119 1 (x5 + 1)))))))
def f_Mo_reachOf_l28 (S : Mem) (k17 : Int32 → Int32 → Int32 → Option (Int32)) : Nat → Int32 → Int32 → Int32 → Int32 → Option (Int32)
  | 0 => fun _ _ _ _ => none
  | n + 1 => f_Mo_reachOf_b28 S k17 (f_Mo_reachOf_l28 S k17 n)
def f_Mo_reachOf_b17 (S : Mem) (k17 : Int32 → Int32 → Int32 → Option (Int32)) (x2 : Int32) (x3 : Int32) (x4 : Int32) : Option (Int32) :=
  if x4 = 0 then
    some x3
  else
    f_Mo_reachOf_l28 S k17 5000 x2 x3 0 0
def f_Mo_reachOf_l17 (S : Mem) : Nat → Int32 → Int32 → Int32 → Option (Int32)
  | 0 => fun _ _ _ => none
  | n + 1 => f_Mo_reachOf_b17 S (f_Mo_reachOf_l17 S n)
def f_Mo_reachOf_b0 (S : Mem) (x1 : Int32) (x2 : Int32) : Option (Int32) :=
  Option.bind (f_Mo_knowersOf x1 S) (fun q2 =>
  gIn 33 40 (
  letS (q2 &&& (S.2.1 0 57 (33 : Int32).toNatClampNeg)) (fun y13 =>
  f_Mo_reachOf_l17 S 5000 x2 y13 1)))
def f_Mo_reachOf (x1 : Int32) (x2 : Int32) (S : Mem) : Option (Int32) := f_Mo_reachOf_b0 S x1 x2
theorem d_Mo_reachOf_0 : decode bc_Mo_reachOf 0 = .ok (.aload_n 0, 1) := by decide +kernel
theorem d_Mo_reachOf_1 : decode bc_Mo_reachOf 1 = .ok (.iload_n 1, 1) := by decide +kernel
theorem d_Mo_reachOf_2 : decode bc_Mo_reachOf 2 = .ok (.invokevirtual 346, 3) := by decide +kernel
theorem d_Mo_reachOf_5 : decode bc_Mo_reachOf 5 = .ok (.aload_n 0, 1) := by decide +kernel
theorem d_Mo_reachOf_6 : decode bc_Mo_reachOf 6 = .ok (.getfield 137, 3) := by decide +kernel
theorem d_Mo_reachOf_9 : decode bc_Mo_reachOf 9 = .ok (.bipush 33, 2) := by decide +kernel
theorem d_Mo_reachOf_11 : decode bc_Mo_reachOf 11 = .ok (.iaload, 1) := by decide +kernel
theorem d_Mo_reachOf_12 : decode bc_Mo_reachOf 12 = .ok (.iand, 1) := by decide +kernel
theorem d_Mo_reachOf_13 : decode bc_Mo_reachOf 13 = .ok (.istore_n 3, 1) := by decide +kernel
theorem d_Mo_reachOf_14 : decode bc_Mo_reachOf 14 = .ok (.iconst 1, 1) := by decide +kernel
theorem d_Mo_reachOf_15 : decode bc_Mo_reachOf 15 = .ok (.istore 4, 2) := by decide +kernel
theorem d_Mo_reachOf_17 : decode bc_Mo_reachOf 17 = .ok (.iload 4, 2) := by decide +kernel
theorem d_Mo_reachOf_19 : decode bc_Mo_reachOf 19 = .ok (.ifCond .eq 113, 3) := by decide +kernel
theorem d_Mo_reachOf_22 : decode bc_Mo_reachOf 22 = .ok (.iconst 0, 1) := by decide +kernel
theorem d_Mo_reachOf_23 : decode bc_Mo_reachOf 23 = .ok (.istore 4, 2) := by decide +kernel
theorem d_Mo_reachOf_25 : decode bc_Mo_reachOf 25 = .ok (.iconst 0, 1) := by decide +kernel
theorem d_Mo_reachOf_26 : decode bc_Mo_reachOf 26 = .ok (.istore 5, 2) := by decide +kernel
theorem d_Mo_reachOf_28 : decode bc_Mo_reachOf 28 = .ok (.iload 5, 2) := by decide +kernel
theorem d_Mo_reachOf_30 : decode bc_Mo_reachOf 30 = .ok (.aload_n 0, 1) := by decide +kernel
theorem d_Mo_reachOf_31 : decode bc_Mo_reachOf 31 = .ok (.getfield 80, 3) := by decide +kernel
theorem d_Mo_reachOf_34 : decode bc_Mo_reachOf 34 = .ok (.aload_n 0, 1) := by decide +kernel
theorem d_Mo_reachOf_35 : decode bc_Mo_reachOf 35 = .ok (.getfield 245, 3) := by decide +kernel
theorem d_Mo_reachOf_38 : decode bc_Mo_reachOf 38 = .ok (.iaload, 1) := by decide +kernel
theorem d_Mo_reachOf_39 : decode bc_Mo_reachOf 39 = .ok (.if_icmp .ge 90, 3) := by decide +kernel
theorem d_Mo_reachOf_42 : decode bc_Mo_reachOf 42 = .ok (.aload_n 0, 1) := by decide +kernel
theorem d_Mo_reachOf_43 : decode bc_Mo_reachOf 43 = .ok (.getfield 86, 3) := by decide +kernel
theorem d_Mo_reachOf_46 : decode bc_Mo_reachOf 46 = .ok (.bipush 12, 2) := by decide +kernel
theorem d_Mo_reachOf_48 : decode bc_Mo_reachOf 48 = .ok (.aload_n 0, 1) := by decide +kernel
theorem d_Mo_reachOf_49 : decode bc_Mo_reachOf 49 = .ok (.getfield 245, 3) := by decide +kernel
theorem d_Mo_reachOf_52 : decode bc_Mo_reachOf 52 = .ok (.imul, 1) := by decide +kernel
theorem d_Mo_reachOf_53 : decode bc_Mo_reachOf 53 = .ok (.iload 5, 2) := by decide +kernel
theorem d_Mo_reachOf_55 : decode bc_Mo_reachOf 55 = .ok (.iadd, 1) := by decide +kernel
theorem d_Mo_reachOf_56 : decode bc_Mo_reachOf 56 = .ok (.iaload, 1) := by decide +kernel
theorem d_Mo_reachOf_57 : decode bc_Mo_reachOf 57 = .ok (.istore 6, 2) := by decide +kernel
theorem d_Mo_reachOf_59 : decode bc_Mo_reachOf 59 = .ok (.iload_n 2, 1) := by decide +kernel
theorem d_Mo_reachOf_60 : decode bc_Mo_reachOf 60 = .ok (.iload 5, 2) := by decide +kernel
theorem d_Mo_reachOf_62 : decode bc_Mo_reachOf 62 = .ok (.ishr, 1) := by decide +kernel
theorem d_Mo_reachOf_63 : decode bc_Mo_reachOf 63 = .ok (.iconst 1, 1) := by decide +kernel
theorem d_Mo_reachOf_64 : decode bc_Mo_reachOf 64 = .ok (.iand, 1) := by decide +kernel
theorem d_Mo_reachOf_65 : decode bc_Mo_reachOf 65 = .ok (.iconst 1, 1) := by decide +kernel
theorem d_Mo_reachOf_66 : decode bc_Mo_reachOf 66 = .ok (.if_icmp .eq 57, 3) := by decide +kernel
theorem d_Mo_reachOf_69 : decode bc_Mo_reachOf 69 = .ok (.aload_n 0, 1) := by decide +kernel
theorem d_Mo_reachOf_70 : decode bc_Mo_reachOf 70 = .ok (.iload 5, 2) := by decide +kernel
theorem d_Mo_reachOf_72 : decode bc_Mo_reachOf 72 = .ok (.invokevirtual 410, 3) := by decide +kernel
theorem d_Mo_reachOf_75 : decode bc_Mo_reachOf 75 = .ok (.ifCond .eq 48, 3) := by decide +kernel
theorem d_Mo_reachOf_78 : decode bc_Mo_reachOf 78 = .ok (.iload_n 3, 1) := by decide +kernel
theorem d_Mo_reachOf_79 : decode bc_Mo_reachOf 79 = .ok (.aload_n 0, 1) := by decide +kernel
theorem d_Mo_reachOf_80 : decode bc_Mo_reachOf 80 = .ok (.getfield 83, 3) := by decide +kernel
theorem d_Mo_reachOf_83 : decode bc_Mo_reachOf 83 = .ok (.bipush 12, 2) := by decide +kernel
theorem d_Mo_reachOf_85 : decode bc_Mo_reachOf 85 = .ok (.aload_n 0, 1) := by decide +kernel
theorem d_Mo_reachOf_86 : decode bc_Mo_reachOf 86 = .ok (.getfield 245, 3) := by decide +kernel
theorem d_Mo_reachOf_89 : decode bc_Mo_reachOf 89 = .ok (.imul, 1) := by decide +kernel
theorem d_Mo_reachOf_90 : decode bc_Mo_reachOf 90 = .ok (.iload 5, 2) := by decide +kernel
theorem d_Mo_reachOf_92 : decode bc_Mo_reachOf 92 = .ok (.iadd, 1) := by decide +kernel
theorem d_Mo_reachOf_93 : decode bc_Mo_reachOf 93 = .ok (.iaload, 1) := by decide +kernel
theorem d_Mo_reachOf_94 : decode bc_Mo_reachOf 94 = .ok (.ishr, 1) := by decide +kernel
theorem d_Mo_reachOf_95 : decode bc_Mo_reachOf 95 = .ok (.iconst 1, 1) := by decide +kernel
theorem d_Mo_reachOf_96 : decode bc_Mo_reachOf 96 = .ok (.iand, 1) := by decide +kernel
theorem d_Mo_reachOf_97 : decode bc_Mo_reachOf 97 = .ok (.ifCond .eq 26, 3) := by decide +kernel
theorem d_Mo_reachOf_100 : decode bc_Mo_reachOf 100 = .ok (.iload_n 3, 1) := by decide +kernel
theorem d_Mo_reachOf_101 : decode bc_Mo_reachOf 101 = .ok (.iload 6, 2) := by decide +kernel
theorem d_Mo_reachOf_103 : decode bc_Mo_reachOf 103 = .ok (.ishr, 1) := by decide +kernel
theorem d_Mo_reachOf_104 : decode bc_Mo_reachOf 104 = .ok (.iconst 1, 1) := by decide +kernel
theorem d_Mo_reachOf_105 : decode bc_Mo_reachOf 105 = .ok (.iand, 1) := by decide +kernel
theorem d_Mo_reachOf_106 : decode bc_Mo_reachOf 106 = .ok (.iconst 1, 1) := by decide +kernel
theorem d_Mo_reachOf_107 : decode bc_Mo_reachOf 107 = .ok (.if_icmp .ne 6, 3) := by decide +kernel
theorem d_Mo_reachOf_110 : decode bc_Mo_reachOf 110 = .ok (.goto 13, 3) := by decide +kernel
theorem d_Mo_reachOf_113 : decode bc_Mo_reachOf 113 = .ok (.iload_n 3, 1) := by decide +kernel
theorem d_Mo_reachOf_114 : decode bc_Mo_reachOf 114 = .ok (.iconst 1, 1) := by decide +kernel
theorem d_Mo_reachOf_115 : decode bc_Mo_reachOf 115 = .ok (.iload 6, 2) := by decide +kernel
theorem d_Mo_reachOf_117 : decode bc_Mo_reachOf 117 = .ok (.ishl, 1) := by decide +kernel
theorem d_Mo_reachOf_118 : decode bc_Mo_reachOf 118 = .ok (.ior, 1) := by decide +kernel
theorem d_Mo_reachOf_119 : decode bc_Mo_reachOf 119 = .ok (.istore_n 3, 1) := by decide +kernel
theorem d_Mo_reachOf_120 : decode bc_Mo_reachOf 120 = .ok (.iconst 1, 1) := by decide +kernel
theorem d_Mo_reachOf_121 : decode bc_Mo_reachOf 121 = .ok (.istore 4, 2) := by decide +kernel
theorem d_Mo_reachOf_123 : decode bc_Mo_reachOf 123 = .ok (.iinc 5 1, 3) := by decide +kernel
theorem d_Mo_reachOf_126 : decode bc_Mo_reachOf 126 = .ok (.goto (-98), 3) := by decide +kernel
theorem d_Mo_reachOf_129 : decode bc_Mo_reachOf 129 = .ok (.goto (-112), 3) := by decide +kernel
theorem d_Mo_reachOf_132 : decode bc_Mo_reachOf 132 = .ok (.iload_n 3, 1) := by decide +kernel
theorem d_Mo_reachOf_133 : decode bc_Mo_reachOf 133 = .ok (.ireturn, 1) := by decide +kernel
set_option maxRecDepth 20000 in
theorem w_Mo_reachOf_b28 {X : CX} {V : WV} (hV : IsM V) {S : Mem} {z : Int32} (hC : Ck X V bc_Mo_reachOf 7 "SecretWellsModel" (some .int) 2 45) (k17 : Int32 → Int32 → Int32 → Option (Int32)) (hk17 : ∀ (x2 : Int32) (x3 : Int32) (x4 : Int32), k17 x2 x3 x4 = some z → G X V 7 (QI X V z S) 17 [some (.ref (V.2.2.1 0 0)), none, some (.int x2), some (.int x3), some (.int x4), none, none] [] S) (k28 : Int32 → Int32 → Int32 → Int32 → Option (Int32)) (hk28 : ∀ (x2 : Int32) (x3 : Int32) (x4 : Int32) (x5 : Int32), k28 x2 x3 x4 x5 = some z → G X V 7 (QI X V z S) 28 [some (.ref (V.2.2.1 0 0)), none, some (.int x2), some (.int x3), some (.int x4), some (.int x5), none] [] S) (x2 : Int32) (x3 : Int32) (x4 : Int32) (x5 : Int32) (h : f_Mo_reachOf_b28 S k17 k28 x2 x3 x4 x5 = some z) : G X V 7 (QI X V z S) 28 [some (.ref (V.2.2.1 0 0)), none, some (.int x2), some (.int x3), some (.int x4), some (.int x5), none] [] S := by
  unfold f_Mo_reachOf_b28 at h
  refine g_iload (pc := 28) hC (i := 5) (x := x5) rfl d_Mo_reachOf_28 ?_
  refine g_aload_n (pc := 30) hC (i := 0) (x := (V.2.2.1 0 0)) rfl rfl d_Mo_reachOf_30 ?_
  refine g_getA (pc := 31) hC fo_Mo_80 (ob_Mo hV) rfl d_Mo_reachOf_31 ?_
  refine g_aload_n (pc := 34) hC (i := 0) (x := (V.2.2.1 0 0)) rfl rfl d_Mo_reachOf_34 ?_
  refine g_getI (pc := 35) hC fo_Mo_245 (ob_Mo hV) rfl d_Mo_reachOf_35 ?_
  refine g_iald (pc := 38) hC (ar_Mo_34 hV) d_Mo_reachOf_38 h (fun h => ?_)
  refine g_icmp_ge (pc := 39) hC (tgt := 129) (by decide) d_Mo_reachOf_39 h (fun h => ?_) (fun h => ?_)
  · refine g_goto (pc := 129) hC (tgt := 17) (by decide) d_Mo_reachOf_129 ?_
    refine g_le (lv2 := [some (.ref (V.2.2.1 0 0)), none, some (.int x2), some (.int x3), some (.int x4), none, none]) (⟨rfl, ⟨rfl, ⟨rfl, ⟨rfl, trivial⟩⟩⟩⟩) ?_
    exact hk17 x2 x3 x4 h
  · refine g_aload_n (pc := 42) hC (i := 0) (x := (V.2.2.1 0 0)) rfl rfl d_Mo_reachOf_42 ?_
    refine g_getA (pc := 43) hC fo_Mo_86 (ob_Mo hV) rfl d_Mo_reachOf_43 ?_
    refine g_bipush (pc := 46) hC kb_12 d_Mo_reachOf_46 ?_
    refine g_aload_n (pc := 48) hC (i := 0) (x := (V.2.2.1 0 0)) rfl rfl d_Mo_reachOf_48 ?_
    refine g_getI (pc := 49) hC fo_Mo_245 (ob_Mo hV) rfl d_Mo_reachOf_49 ?_
    refine g_imul (pc := 52) hC d_Mo_reachOf_52 ?_
    refine g_iload (pc := 53) hC (i := 5) (x := x5) rfl d_Mo_reachOf_53 ?_
    refine g_iadd (pc := 55) hC d_Mo_reachOf_55 ?_
    refine g_iald (pc := 56) hC (ar_Mo_36 hV) d_Mo_reachOf_56 h (fun h => ?_)
    refine g_leti h (fun y57 h => ?_)
    refine s_istore (pc := 57) hC (i := 6) (by decide) d_Mo_reachOf_57 (lv2 := [some (.ref (V.2.2.1 0 0)), none, some (.int x2), some (.int x3), some (.int x4), some (.int x5), some (.int y57)]) rfl ?_
    refine g_iload_n (pc := 59) hC (i := 2) (x := x2) rfl rfl d_Mo_reachOf_59 ?_
    refine g_iload (pc := 60) hC (i := 5) (x := x5) rfl d_Mo_reachOf_60 ?_
    refine g_ishr (pc := 62) hC d_Mo_reachOf_62 ?_
    refine g_iconst (pc := 63) hC kc_1 d_Mo_reachOf_63 ?_
    refine g_iand (pc := 64) hC d_Mo_reachOf_64 ?_
    refine g_iconst (pc := 65) hC kc_1 d_Mo_reachOf_65 ?_
    refine g_icmp_eq (pc := 66) hC (tgt := 123) (by decide) d_Mo_reachOf_66 h (fun h => ?_) (fun h => ?_)
    · refine s_iinc (pc := 123) hC (i := 5) (x := x5) (v := x5 + 1) rfl (by rw [kc_1]) (by decide) d_Mo_reachOf_123 (lv2 := [some (.ref (V.2.2.1 0 0)), none, some (.int x2), some (.int x3), some (.int x4), some (.int (x5 + 1)), some (.int y57)]) rfl ?_
      refine g_goto (pc := 126) hC (tgt := 28) (by decide) d_Mo_reachOf_126 ?_
      refine g_le (lv2 := [some (.ref (V.2.2.1 0 0)), none, some (.int x2), some (.int x3), some (.int x4), some (.int (x5 + 1)), none]) (⟨rfl, ⟨rfl, ⟨rfl, ⟨rfl, ⟨rfl, trivial⟩⟩⟩⟩⟩) ?_
      exact hk28 x2 x3 x4 (x5 + 1) h
    · refine g_aload_n (pc := 69) hC (i := 0) (x := (V.2.2.1 0 0)) rfl rfl d_Mo_reachOf_69 ?_
      refine g_iload (pc := 70) hC (i := 5) (x := x5) rfl d_Mo_reachOf_70 ?_
      obtain ⟨q72, hq72, h⟩ := Option.bind_eq_some_iff.mp h
      refine g_vi (pc := 72) hC (As := [.int x5]) (st := []) mt_Mo_isOpen lk_Mo_410 rfl (ob_Mo hV) (Nat.le_of_ble_eq_true rfl) ⟨Nat.le_of_ble_eq_true rfl, Nat.le_of_ble_eq_true rfl⟩ rfl d_Mo_reachOf_72 (c_Mo_isOpen hV hq72) ?_
      refine g_if_eq (pc := 75) hC (tgt := 123) (by decide) d_Mo_reachOf_75 h (fun h => ?_) (fun h => ?_)
      · refine s_iinc (pc := 123) hC (i := 5) (x := x5) (v := x5 + 1) rfl (by rw [kc_1]) (by decide) d_Mo_reachOf_123 (lv2 := [some (.ref (V.2.2.1 0 0)), none, some (.int x2), some (.int x3), some (.int x4), some (.int (x5 + 1)), some (.int y57)]) rfl ?_
        refine g_goto (pc := 126) hC (tgt := 28) (by decide) d_Mo_reachOf_126 ?_
        refine g_le (lv2 := [some (.ref (V.2.2.1 0 0)), none, some (.int x2), some (.int x3), some (.int x4), some (.int (x5 + 1)), none]) (⟨rfl, ⟨rfl, ⟨rfl, ⟨rfl, ⟨rfl, trivial⟩⟩⟩⟩⟩) ?_
        exact hk28 x2 x3 x4 (x5 + 1) h
      · refine g_iload_n (pc := 78) hC (i := 3) (x := x3) rfl rfl d_Mo_reachOf_78 ?_
        refine g_aload_n (pc := 79) hC (i := 0) (x := (V.2.2.1 0 0)) rfl rfl d_Mo_reachOf_79 ?_
        refine g_getA (pc := 80) hC fo_Mo_83 (ob_Mo hV) rfl d_Mo_reachOf_80 ?_
        refine g_bipush (pc := 83) hC kb_12 d_Mo_reachOf_83 ?_
        refine g_aload_n (pc := 85) hC (i := 0) (x := (V.2.2.1 0 0)) rfl rfl d_Mo_reachOf_85 ?_
        refine g_getI (pc := 86) hC fo_Mo_245 (ob_Mo hV) rfl d_Mo_reachOf_86 ?_
        refine g_imul (pc := 89) hC d_Mo_reachOf_89 ?_
        refine g_iload (pc := 90) hC (i := 5) (x := x5) rfl d_Mo_reachOf_90 ?_
        refine g_iadd (pc := 92) hC d_Mo_reachOf_92 ?_
        refine g_iald (pc := 93) hC (ar_Mo_35 hV) d_Mo_reachOf_93 h (fun h => ?_)
        refine g_ishr (pc := 94) hC d_Mo_reachOf_94 ?_
        refine g_iconst (pc := 95) hC kc_1 d_Mo_reachOf_95 ?_
        refine g_iand (pc := 96) hC d_Mo_reachOf_96 ?_
        refine g_if_eq (pc := 97) hC (tgt := 123) (by decide) d_Mo_reachOf_97 h (fun h => ?_) (fun h => ?_)
        · refine s_iinc (pc := 123) hC (i := 5) (x := x5) (v := x5 + 1) rfl (by rw [kc_1]) (by decide) d_Mo_reachOf_123 (lv2 := [some (.ref (V.2.2.1 0 0)), none, some (.int x2), some (.int x3), some (.int x4), some (.int (x5 + 1)), some (.int y57)]) rfl ?_
          refine g_goto (pc := 126) hC (tgt := 28) (by decide) d_Mo_reachOf_126 ?_
          refine g_le (lv2 := [some (.ref (V.2.2.1 0 0)), none, some (.int x2), some (.int x3), some (.int x4), some (.int (x5 + 1)), none]) (⟨rfl, ⟨rfl, ⟨rfl, ⟨rfl, ⟨rfl, trivial⟩⟩⟩⟩⟩) ?_
          exact hk28 x2 x3 x4 (x5 + 1) h
        · refine g_iload_n (pc := 100) hC (i := 3) (x := x3) rfl rfl d_Mo_reachOf_100 ?_
          refine g_iload (pc := 101) hC (i := 6) (x := y57) rfl d_Mo_reachOf_101 ?_
          refine g_ishr (pc := 103) hC d_Mo_reachOf_103 ?_
          refine g_iconst (pc := 104) hC kc_1 d_Mo_reachOf_104 ?_
          refine g_iand (pc := 105) hC d_Mo_reachOf_105 ?_
          refine g_iconst (pc := 106) hC kc_1 d_Mo_reachOf_106 ?_
          refine g_icmp_ne (pc := 107) hC (tgt := 113) (by decide) d_Mo_reachOf_107 h (fun h => ?_) (fun h => ?_)
          · refine g_iload_n (pc := 113) hC (i := 3) (x := x3) rfl rfl d_Mo_reachOf_113 ?_
            refine g_iconst (pc := 114) hC kc_1 d_Mo_reachOf_114 ?_
            refine g_iload (pc := 115) hC (i := 6) (x := y57) rfl d_Mo_reachOf_115 ?_
            refine g_ishl (pc := 117) hC d_Mo_reachOf_117 ?_
            refine g_ior (pc := 118) hC d_Mo_reachOf_118 ?_
            refine g_leti h (fun y119 h => ?_)
            refine s_istore_n (pc := 119) hC (i := 3) rfl (by decide) d_Mo_reachOf_119 (lv2 := [some (.ref (V.2.2.1 0 0)), none, some (.int x2), some (.int y119), some (.int x4), some (.int x5), some (.int y57)]) rfl ?_
            refine g_iconst (pc := 120) hC kc_1 d_Mo_reachOf_120 ?_
            refine s_istore (pc := 121) hC (i := 4) (by decide) d_Mo_reachOf_121 (lv2 := [some (.ref (V.2.2.1 0 0)), none, some (.int x2), some (.int y119), some (.int 1), some (.int x5), some (.int y57)]) rfl ?_
            refine s_iinc (pc := 123) hC (i := 5) (x := x5) (v := x5 + 1) rfl (by rw [kc_1]) (by decide) d_Mo_reachOf_123 (lv2 := [some (.ref (V.2.2.1 0 0)), none, some (.int x2), some (.int y119), some (.int 1), some (.int (x5 + 1)), some (.int y57)]) rfl ?_
            refine g_goto (pc := 126) hC (tgt := 28) (by decide) d_Mo_reachOf_126 ?_
            refine g_le (lv2 := [some (.ref (V.2.2.1 0 0)), none, some (.int x2), some (.int y119), some (.int 1), some (.int (x5 + 1)), none]) (⟨rfl, ⟨rfl, ⟨rfl, ⟨rfl, ⟨rfl, trivial⟩⟩⟩⟩⟩) ?_
            exact hk28 x2 y119 1 (x5 + 1) h
          · refine g_goto (pc := 110) hC (tgt := 123) (by decide) d_Mo_reachOf_110 ?_
            refine s_iinc (pc := 123) hC (i := 5) (x := x5) (v := x5 + 1) rfl (by rw [kc_1]) (by decide) d_Mo_reachOf_123 (lv2 := [some (.ref (V.2.2.1 0 0)), none, some (.int x2), some (.int x3), some (.int x4), some (.int (x5 + 1)), some (.int y57)]) rfl ?_
            refine g_goto (pc := 126) hC (tgt := 28) (by decide) d_Mo_reachOf_126 ?_
            refine g_le (lv2 := [some (.ref (V.2.2.1 0 0)), none, some (.int x2), some (.int x3), some (.int x4), some (.int (x5 + 1)), none]) (⟨rfl, ⟨rfl, ⟨rfl, ⟨rfl, ⟨rfl, trivial⟩⟩⟩⟩⟩) ?_
            exact hk28 x2 x3 x4 (x5 + 1) h
theorem w_Mo_reachOf_l28 {X : CX} {V : WV} (hV : IsM V) {S : Mem} {z : Int32} (hC : Ck X V bc_Mo_reachOf 7 "SecretWellsModel" (some .int) 2 45) (k17 : Int32 → Int32 → Int32 → Option (Int32)) (hk17 : ∀ (x2 : Int32) (x3 : Int32) (x4 : Int32), k17 x2 x3 x4 = some z → G X V 7 (QI X V z S) 17 [some (.ref (V.2.2.1 0 0)), none, some (.int x2), some (.int x3), some (.int x4), none, none] [] S) : ∀ (n : Nat) (x2 : Int32) (x3 : Int32) (x4 : Int32) (x5 : Int32), f_Mo_reachOf_l28 S k17 n x2 x3 x4 x5 = some z → G X V 7 (QI X V z S) 28 [some (.ref (V.2.2.1 0 0)), none, some (.int x2), some (.int x3), some (.int x4), some (.int x5), none] [] S := by
  intro n
  induction n with
  | zero =>
    intro x2 x3 x4 x5 h
    have h : (none : Option (Int32)) = some z := h
    cases h
  | succ n ih =>
    intro x2 x3 x4 x5 h
    exact w_Mo_reachOf_b28 hV hC k17 hk17 (f_Mo_reachOf_l28 S k17 n) ih x2 x3 x4 x5 h
set_option maxRecDepth 20000 in
theorem w_Mo_reachOf_b17 {X : CX} {V : WV} (hV : IsM V) {S : Mem} {z : Int32} (hC : Ck X V bc_Mo_reachOf 7 "SecretWellsModel" (some .int) 2 45) (k17 : Int32 → Int32 → Int32 → Option (Int32)) (hk17 : ∀ (x2 : Int32) (x3 : Int32) (x4 : Int32), k17 x2 x3 x4 = some z → G X V 7 (QI X V z S) 17 [some (.ref (V.2.2.1 0 0)), none, some (.int x2), some (.int x3), some (.int x4), none, none] [] S) (x2 : Int32) (x3 : Int32) (x4 : Int32) (h : f_Mo_reachOf_b17 S k17 x2 x3 x4 = some z) : G X V 7 (QI X V z S) 17 [some (.ref (V.2.2.1 0 0)), none, some (.int x2), some (.int x3), some (.int x4), none, none] [] S := by
  unfold f_Mo_reachOf_b17 at h
  refine g_iload (pc := 17) hC (i := 4) (x := x4) rfl d_Mo_reachOf_17 ?_
  refine g_if_eq (pc := 19) hC (tgt := 132) (by decide) d_Mo_reachOf_19 h (fun h => ?_) (fun h => ?_)
  · refine g_iload_n (pc := 132) hC (i := 3) (x := x3) rfl rfl d_Mo_reachOf_132 ?_
    exact g_iN (pc := 133) hC rfl d_Mo_reachOf_133 h
  · refine g_iconst (pc := 22) hC kc_0 d_Mo_reachOf_22 ?_
    refine s_istore (pc := 23) hC (i := 4) (by decide) d_Mo_reachOf_23 (lv2 := [some (.ref (V.2.2.1 0 0)), none, some (.int x2), some (.int x3), some (.int 0), none, none]) rfl ?_
    refine g_iconst (pc := 25) hC kc_0 d_Mo_reachOf_25 ?_
    refine s_istore (pc := 26) hC (i := 5) (by decide) d_Mo_reachOf_26 (lv2 := [some (.ref (V.2.2.1 0 0)), none, some (.int x2), some (.int x3), some (.int 0), some (.int 0), none]) rfl ?_
    exact w_Mo_reachOf_l28 hV hC k17 hk17 5000 x2 x3 0 0 h
theorem w_Mo_reachOf_l17 {X : CX} {V : WV} (hV : IsM V) {S : Mem} {z : Int32} (hC : Ck X V bc_Mo_reachOf 7 "SecretWellsModel" (some .int) 2 45) : ∀ (n : Nat) (x2 : Int32) (x3 : Int32) (x4 : Int32), f_Mo_reachOf_l17 S n x2 x3 x4 = some z → G X V 7 (QI X V z S) 17 [some (.ref (V.2.2.1 0 0)), none, some (.int x2), some (.int x3), some (.int x4), none, none] [] S := by
  intro n
  induction n with
  | zero =>
    intro x2 x3 x4 h
    have h : (none : Option (Int32)) = some z := h
    cases h
  | succ n ih =>
    intro x2 x3 x4 h
    exact w_Mo_reachOf_b17 hV hC (f_Mo_reachOf_l17 S n) ih x2 x3 x4 h
set_option maxRecDepth 20000 in
theorem w_Mo_reachOf_b0 {X : CX} {V : WV} (hV : IsM V) {S : Mem} {z : Int32} (hC : Ck X V bc_Mo_reachOf 7 "SecretWellsModel" (some .int) 2 45) (x1 : Int32) (x2 : Int32) (h : f_Mo_reachOf_b0 S x1 x2 = some z) : G X V 7 (QI X V z S) 0 [some (.ref (V.2.2.1 0 0)), some (.int x1), some (.int x2), none, none, none, none] [] S := by
  unfold f_Mo_reachOf_b0 at h
  refine g_aload_n (pc := 0) hC (i := 0) (x := (V.2.2.1 0 0)) rfl rfl d_Mo_reachOf_0 ?_
  refine g_iload_n (pc := 1) hC (i := 1) (x := x1) rfl rfl d_Mo_reachOf_1 ?_
  obtain ⟨q2, hq2, h⟩ := Option.bind_eq_some_iff.mp h
  refine g_vi (pc := 2) hC (As := [.int x1]) (st := []) mt_Mo_knowersOf lk_Mo_346 rfl (ob_Mo hV) (Nat.le_of_ble_eq_true rfl) ⟨Nat.le_of_ble_eq_true rfl, Nat.le_of_ble_eq_true rfl⟩ rfl d_Mo_reachOf_2 (c_Mo_knowersOf hV hq2) ?_
  refine g_aload_n (pc := 5) hC (i := 0) (x := (V.2.2.1 0 0)) rfl rfl d_Mo_reachOf_5 ?_
  refine g_getA (pc := 6) hC fo_Mo_137 (ob_Mo hV) rfl d_Mo_reachOf_6 ?_
  refine g_bipush (pc := 9) hC kb_33 d_Mo_reachOf_9 ?_
  refine g_iald (pc := 11) hC (ar_Mo_57 hV) d_Mo_reachOf_11 h (fun h => ?_)
  refine g_iand (pc := 12) hC d_Mo_reachOf_12 ?_
  refine g_leti h (fun y13 h => ?_)
  refine s_istore_n (pc := 13) hC (i := 3) rfl (by decide) d_Mo_reachOf_13 (lv2 := [some (.ref (V.2.2.1 0 0)), some (.int x1), some (.int x2), some (.int y13), none, none, none]) rfl ?_
  refine g_iconst (pc := 14) hC kc_1 d_Mo_reachOf_14 ?_
  refine s_istore (pc := 15) hC (i := 4) (by decide) d_Mo_reachOf_15 (lv2 := [some (.ref (V.2.2.1 0 0)), some (.int x1), some (.int x2), some (.int y13), some (.int 1), none, none]) rfl ?_
  refine g_le (lv2 := [some (.ref (V.2.2.1 0 0)), none, some (.int x2), some (.int y13), some (.int 1), none, none]) (⟨rfl, ⟨rfl, ⟨rfl, ⟨rfl, trivial⟩⟩⟩⟩) ?_
  exact w_Mo_reachOf_l17 hV hC 5000 x2 y13 1 h
theorem c_Mo_reachOf {V : WV} {l : Launch} (hV : IsM V) {x1 : Int32} {x2 : Int32} {S : Mem} {z : Int32} (h : f_Mo_reachOf x1 x2 S = some z) : CI V l y_Mo_reachOf bc_Mo_reachOf 7 (some .int) 2 45 [.ref (V.2.2.1 0 0), .int x1, .int x2] S z S :=
  ct_i rfl (IsM.ok hV) (Nat.le_of_ble_eq_true rfl) (fun _ _ hC => w_Mo_reachOf_b0 hV hC x1 x2 h)
def f_Mo_reach_b0 (x1 : Int32) (S : Mem) : Option (Int32 × Mem) :=
  Option.bind (f_Mo_isSecret x1 S) (fun q2 =>
  if q2 = 0 then
    some ((-1), S)
  else
    Option.bind (f_Mo_copies S) (fun q11 =>
    Option.bind (f_Mo_reachOf x1 0 q11) (fun q17 =>
    some (q17, q11))))
def f_Mo_reach (x1 : Int32) (S : Mem) : Option (Int32 × Mem) := f_Mo_reach_b0  x1 S
theorem d_Mo_reach_0 : decode bc_Mo_reach 0 = .ok (.aload_n 0, 1) := by decide +kernel
theorem d_Mo_reach_1 : decode bc_Mo_reach 1 = .ok (.iload_n 1, 1) := by decide +kernel
theorem d_Mo_reach_2 : decode bc_Mo_reach 2 = .ok (.invokevirtual 428, 3) := by decide +kernel
theorem d_Mo_reach_5 : decode bc_Mo_reach 5 = .ok (.ifCond .ne 5, 3) := by decide +kernel
theorem d_Mo_reach_8 : decode bc_Mo_reach 8 = .ok (.iconst (-1), 1) := by decide +kernel
theorem d_Mo_reach_9 : decode bc_Mo_reach 9 = .ok (.ireturn, 1) := by decide +kernel
theorem d_Mo_reach_10 : decode bc_Mo_reach 10 = .ok (.aload_n 0, 1) := by decide +kernel
theorem d_Mo_reach_11 : decode bc_Mo_reach 11 = .ok (.invokevirtual 422, 3) := by decide +kernel
theorem d_Mo_reach_14 : decode bc_Mo_reach 14 = .ok (.aload_n 0, 1) := by decide +kernel
theorem d_Mo_reach_15 : decode bc_Mo_reach 15 = .ok (.iload_n 1, 1) := by decide +kernel
theorem d_Mo_reach_16 : decode bc_Mo_reach 16 = .ok (.iconst 0, 1) := by decide +kernel
theorem d_Mo_reach_17 : decode bc_Mo_reach 17 = .ok (.invokevirtual 468, 3) := by decide +kernel
theorem d_Mo_reach_20 : decode bc_Mo_reach 20 = .ok (.ireturn, 1) := by decide +kernel
set_option maxRecDepth 20000 in
theorem w_Mo_reach_b0 {X : CX} {V : WV} (hV : IsM V) {z : Int32 × Mem} (hC : Ck X V bc_Mo_reach 2 "SecretWellsModel" (some .int) 3 71) (x1 : Int32) (S : Mem) (h : f_Mo_reach_b0  x1 S = some z) : G X V 2 (QI X V z.1 z.2) 0 [some (.ref (V.2.2.1 0 0)), some (.int x1)] [] S := by
  unfold f_Mo_reach_b0 at h
  refine g_aload_n (pc := 0) hC (i := 0) (x := (V.2.2.1 0 0)) rfl rfl d_Mo_reach_0 ?_
  refine g_iload_n (pc := 1) hC (i := 1) (x := x1) rfl rfl d_Mo_reach_1 ?_
  obtain ⟨q2, hq2, h⟩ := Option.bind_eq_some_iff.mp h
  refine g_vi (pc := 2) hC (As := [.int x1]) (st := []) mt_Mo_isSecret lk_Mo_428 rfl (ob_Mo hV) (Nat.le_of_ble_eq_true rfl) ⟨Nat.le_of_ble_eq_true rfl, Nat.le_of_ble_eq_true rfl⟩ rfl d_Mo_reach_2 (c_Mo_isSecret hV hq2) ?_
  refine g_if_ne (pc := 5) hC (tgt := 10) (by decide) d_Mo_reach_5 h (fun h => ?_) (fun h => ?_)
  · refine g_aload_n (pc := 10) hC (i := 0) (x := (V.2.2.1 0 0)) rfl rfl d_Mo_reach_10 ?_
    obtain ⟨q11, hq11, h⟩ := Option.bind_eq_some_iff.mp h
    refine g_vv (pc := 11) hC (As := []) (st := []) mt_Mo_copies lk_Mo_422 rfl (ob_Mo hV) (Nat.le_of_ble_eq_true rfl) ⟨Nat.le_of_ble_eq_true rfl, Nat.le_of_ble_eq_true rfl⟩ rfl d_Mo_reach_11 (c_Mo_copies hV hq11) ?_
    refine g_aload_n (pc := 14) hC (i := 0) (x := (V.2.2.1 0 0)) rfl rfl d_Mo_reach_14 ?_
    refine g_iload_n (pc := 15) hC (i := 1) (x := x1) rfl rfl d_Mo_reach_15 ?_
    refine g_iconst (pc := 16) hC kc_0 d_Mo_reach_16 ?_
    obtain ⟨q17, hq17, h⟩ := Option.bind_eq_some_iff.mp h
    refine g_vi (pc := 17) hC (As := [.int x1, .int 0]) (st := []) mt_Mo_reachOf lk_Mo_468 rfl (ob_Mo hV) (Nat.le_of_ble_eq_true rfl) ⟨Nat.le_of_ble_eq_true rfl, Nat.le_of_ble_eq_true rfl⟩ rfl d_Mo_reach_17 (c_Mo_reachOf hV hq17) ?_
    exact g_iW (pc := 20) hC rfl d_Mo_reach_20 h
  · refine g_iconst (pc := 8) hC kc_m1 d_Mo_reach_8 ?_
    exact g_iW (pc := 9) hC rfl d_Mo_reach_9 h
theorem c_Mo_reach {V : WV} {l : Launch} (hV : IsM V) {x1 : Int32} {S : Mem} {z : Int32 × Mem} (h : f_Mo_reach x1 S = some z) : CI V l y_Mo_reach bc_Mo_reach 2 (some .int) 3 71 [.ref (V.2.2.1 0 0), .int x1] S z.1 z.2 :=
  ct_i rfl (IsM.ok hV) (Nat.le_of_ble_eq_true rfl) (fun _ _ hC => w_Mo_reach_b0 hV hC x1 S h)
def f_Mo_silence_b91 (k57 : Int32 → Int32 → Int32 → Int32 → Int32 → Mem → Option (Int32 × Mem)) (x1 : Int32) (x2 : Int32) (x3 : Int32) (x4 : Int32) (x5 : Int32) (S : Mem) : Option (Int32 × Mem) :=
  Option.bind (f_Mo_reachOf x1 x5 S) (fun q95 =>
  if ((q95 >>> (x2 &&& 31)) &&& 1) = 0 then
    k57 x1 x2 x3 x5 (x5 + 1) S
  else
    k57 x1 x2 x3 x4 (x5 + 1) S)
def f_Mo_silence_b57 (k57 : Int32 → Int32 → Int32 → Int32 → Int32 → Mem → Option (Int32 × Mem)) (x1 : Int32) (x2 : Int32) (x3 : Int32) (x4 : Int32) (x5 : Int32) (S : Mem) : Option (Int32 × Mem) :=
  gIn (S.1 0 18) 2 (
  if ((1 : Int32) <<< ((S.2.1 0 34 (S.1 0 18).toNatClampNeg) &&& 31)) ≤ x5 then
    if x3 = 0 then
      Option.bind (f_Mo_bits x4) (fun q121 =>
      some (q121, S))
    else
      some (x4, S)
  else
    if x4 < 0 then
      f_Mo_silence_b91 k57 x1 x2 x3 x4 x5 S
    else
      Option.bind (f_Mo_bits x5) (fun q80 =>
      Option.bind (f_Mo_bits x4) (fun q85 =>
      if q85 ≤ q80 then
        k57 x1 x2 x3 x4 (x5 + 1) S
      else
        f_Mo_silence_b91 k57 x1 x2 x3 x4 x5 S)))
def f_Mo_silence_l57 : Nat → Int32 → Int32 → Int32 → Int32 → Int32 → Mem → Option (Int32 × Mem)
  | 0 => fun _ _ _ _ _ _ => none
  | n + 1 => f_Mo_silence_b57  (f_Mo_silence_l57  n)
def f_Mo_silence_b0 (x1 : Int32) (x2 : Int32) (x3 : Int32) (S : Mem) : Option (Int32 × Mem) :=
  Option.bind (f_Mo_isSecret x1 S) (fun q2 =>
  if q2 = 0 then
    some ((-1), S)
  else
    Option.bind (f_Mo_isMan x2 S) (fun q10 =>
    if q10 = 0 then
      some ((-1), S)
    else
      Option.bind (f_Mo_in x3 0 1) (fun q19 =>
      if q19 = 0 then
        some ((-1), S)
      else
        Option.bind (f_Mo_copies S) (fun q28 =>
        Option.bind (f_Mo_isAlive x2 q28) (fun q33 =>
        if q33 = 0 then
          some ((-2), q28)
        else
          Option.bind (f_Mo_knows x2 x1 q28) (fun q42 =>
          if q42 = 0 then
            f_Mo_silence_l57 5000 x1 x2 x3 (-1) 0 q28
          else
            some ((-2), q28)))))))
def f_Mo_silence (x1 : Int32) (x2 : Int32) (x3 : Int32) (S : Mem) : Option (Int32 × Mem) := f_Mo_silence_b0  x1 x2 x3 S
theorem d_Mo_silence_0 : decode bc_Mo_silence 0 = .ok (.aload_n 0, 1) := by decide +kernel
theorem d_Mo_silence_1 : decode bc_Mo_silence 1 = .ok (.iload_n 1, 1) := by decide +kernel
theorem d_Mo_silence_2 : decode bc_Mo_silence 2 = .ok (.invokevirtual 428, 3) := by decide +kernel
theorem d_Mo_silence_5 : decode bc_Mo_silence 5 = .ok (.ifCond .eq 20, 3) := by decide +kernel
theorem d_Mo_silence_8 : decode bc_Mo_silence 8 = .ok (.aload_n 0, 1) := by decide +kernel
theorem d_Mo_silence_9 : decode bc_Mo_silence 9 = .ok (.iload_n 2, 1) := by decide +kernel
theorem d_Mo_silence_10 : decode bc_Mo_silence 10 = .ok (.invokevirtual 425, 3) := by decide +kernel
theorem d_Mo_silence_13 : decode bc_Mo_silence 13 = .ok (.ifCond .eq 12, 3) := by decide +kernel
theorem d_Mo_silence_16 : decode bc_Mo_silence 16 = .ok (.iload_n 3, 1) := by decide +kernel
theorem d_Mo_silence_17 : decode bc_Mo_silence 17 = .ok (.iconst 0, 1) := by decide +kernel
theorem d_Mo_silence_18 : decode bc_Mo_silence 18 = .ok (.iconst 1, 1) := by decide +kernel
theorem d_Mo_silence_19 : decode bc_Mo_silence 19 = .ok (.invokestatic 332, 3) := by decide +kernel
theorem d_Mo_silence_22 : decode bc_Mo_silence 22 = .ok (.ifCond .ne 5, 3) := by decide +kernel
theorem d_Mo_silence_25 : decode bc_Mo_silence 25 = .ok (.iconst (-1), 1) := by decide +kernel
theorem d_Mo_silence_26 : decode bc_Mo_silence 26 = .ok (.ireturn, 1) := by decide +kernel
theorem d_Mo_silence_27 : decode bc_Mo_silence 27 = .ok (.aload_n 0, 1) := by decide +kernel
theorem d_Mo_silence_28 : decode bc_Mo_silence 28 = .ok (.invokevirtual 422, 3) := by decide +kernel
theorem d_Mo_silence_31 : decode bc_Mo_silence 31 = .ok (.aload_n 0, 1) := by decide +kernel
theorem d_Mo_silence_32 : decode bc_Mo_silence 32 = .ok (.iload_n 2, 1) := by decide +kernel
theorem d_Mo_silence_33 : decode bc_Mo_silence 33 = .ok (.invokevirtual 367, 3) := by decide +kernel
theorem d_Mo_silence_36 : decode bc_Mo_silence 36 = .ok (.ifCond .eq 12, 3) := by decide +kernel
theorem d_Mo_silence_39 : decode bc_Mo_silence 39 = .ok (.aload_n 0, 1) := by decide +kernel
theorem d_Mo_silence_40 : decode bc_Mo_silence 40 = .ok (.iload_n 2, 1) := by decide +kernel
theorem d_Mo_silence_41 : decode bc_Mo_silence 41 = .ok (.iload_n 1, 1) := by decide +kernel
theorem d_Mo_silence_42 : decode bc_Mo_silence 42 = .ok (.invokevirtual 342, 3) := by decide +kernel
theorem d_Mo_silence_45 : decode bc_Mo_silence 45 = .ok (.ifCond .eq 6, 3) := by decide +kernel
theorem d_Mo_silence_48 : decode bc_Mo_silence 48 = .ok (.bipush (-2), 2) := by decide +kernel
theorem d_Mo_silence_50 : decode bc_Mo_silence 50 = .ok (.ireturn, 1) := by decide +kernel
theorem d_Mo_silence_51 : decode bc_Mo_silence 51 = .ok (.iconst (-1), 1) := by decide +kernel
theorem d_Mo_silence_52 : decode bc_Mo_silence 52 = .ok (.istore 4, 2) := by decide +kernel
theorem d_Mo_silence_54 : decode bc_Mo_silence 54 = .ok (.iconst 0, 1) := by decide +kernel
theorem d_Mo_silence_55 : decode bc_Mo_silence 55 = .ok (.istore 5, 2) := by decide +kernel
theorem d_Mo_silence_57 : decode bc_Mo_silence 57 = .ok (.iload 5, 2) := by decide +kernel
theorem d_Mo_silence_59 : decode bc_Mo_silence 59 = .ok (.iconst 1, 1) := by decide +kernel
theorem d_Mo_silence_60 : decode bc_Mo_silence 60 = .ok (.aload_n 0, 1) := by decide +kernel
theorem d_Mo_silence_61 : decode bc_Mo_silence 61 = .ok (.getfield 80, 3) := by decide +kernel
theorem d_Mo_silence_64 : decode bc_Mo_silence 64 = .ok (.aload_n 0, 1) := by decide +kernel
theorem d_Mo_silence_65 : decode bc_Mo_silence 65 = .ok (.getfield 245, 3) := by decide +kernel
theorem d_Mo_silence_68 : decode bc_Mo_silence 68 = .ok (.iaload, 1) := by decide +kernel
theorem d_Mo_silence_69 : decode bc_Mo_silence 69 = .ok (.ishl, 1) := by decide +kernel
theorem d_Mo_silence_70 : decode bc_Mo_silence 70 = .ok (.if_icmp .ge 45, 3) := by decide +kernel
theorem d_Mo_silence_73 : decode bc_Mo_silence 73 = .ok (.iload 4, 2) := by decide +kernel
theorem d_Mo_silence_75 : decode bc_Mo_silence 75 = .ok (.ifCond .lt 16, 3) := by decide +kernel
theorem d_Mo_silence_78 : decode bc_Mo_silence 78 = .ok (.iload 5, 2) := by decide +kernel
theorem d_Mo_silence_80 : decode bc_Mo_silence 80 = .ok (.invokestatic 349, 3) := by decide +kernel
theorem d_Mo_silence_83 : decode bc_Mo_silence 83 = .ok (.iload 4, 2) := by decide +kernel
theorem d_Mo_silence_85 : decode bc_Mo_silence 85 = .ok (.invokestatic 349, 3) := by decide +kernel
theorem d_Mo_silence_88 : decode bc_Mo_silence 88 = .ok (.if_icmp .ge 21, 3) := by decide +kernel
theorem d_Mo_silence_91 : decode bc_Mo_silence 91 = .ok (.aload_n 0, 1) := by decide +kernel
theorem d_Mo_silence_92 : decode bc_Mo_silence 92 = .ok (.iload_n 1, 1) := by decide +kernel
theorem d_Mo_silence_93 : decode bc_Mo_silence 93 = .ok (.iload 5, 2) := by decide +kernel
theorem d_Mo_silence_95 : decode bc_Mo_silence 95 = .ok (.invokevirtual 468, 3) := by decide +kernel
theorem d_Mo_silence_98 : decode bc_Mo_silence 98 = .ok (.iload_n 2, 1) := by decide +kernel
theorem d_Mo_silence_99 : decode bc_Mo_silence 99 = .ok (.ishr, 1) := by decide +kernel
theorem d_Mo_silence_100 : decode bc_Mo_silence 100 = .ok (.iconst 1, 1) := by decide +kernel
theorem d_Mo_silence_101 : decode bc_Mo_silence 101 = .ok (.iand, 1) := by decide +kernel
theorem d_Mo_silence_102 : decode bc_Mo_silence 102 = .ok (.ifCond .ne 7, 3) := by decide +kernel
theorem d_Mo_silence_105 : decode bc_Mo_silence 105 = .ok (.iload 5, 2) := by decide +kernel
theorem d_Mo_silence_107 : decode bc_Mo_silence 107 = .ok (.istore 4, 2) := by decide +kernel
theorem d_Mo_silence_109 : decode bc_Mo_silence 109 = .ok (.iinc 5 1, 3) := by decide +kernel
theorem d_Mo_silence_112 : decode bc_Mo_silence 112 = .ok (.goto (-55), 3) := by decide +kernel
theorem d_Mo_silence_115 : decode bc_Mo_silence 115 = .ok (.iload_n 3, 1) := by decide +kernel
theorem d_Mo_silence_116 : decode bc_Mo_silence 116 = .ok (.ifCond .ne 11, 3) := by decide +kernel
theorem d_Mo_silence_119 : decode bc_Mo_silence 119 = .ok (.iload 4, 2) := by decide +kernel
theorem d_Mo_silence_121 : decode bc_Mo_silence 121 = .ok (.invokestatic 349, 3) := by decide +kernel
theorem d_Mo_silence_124 : decode bc_Mo_silence 124 = .ok (.goto 5, 3) := by decide +kernel
theorem d_Mo_silence_127 : decode bc_Mo_silence 127 = .ok (.iload 4, 2) := by decide +kernel
theorem d_Mo_silence_129 : decode bc_Mo_silence 129 = .ok (.ireturn, 1) := by decide +kernel
set_option maxRecDepth 20000 in
theorem w_Mo_silence_b91 {X : CX} {V : WV} (hV : IsM V) {z : Int32 × Mem} (hC : Ck X V bc_Mo_silence 6 "SecretWellsModel" (some .int) 3 71) (k57 : Int32 → Int32 → Int32 → Int32 → Int32 → Mem → Option (Int32 × Mem)) (hk57 : ∀ (x1 : Int32) (x2 : Int32) (x3 : Int32) (x4 : Int32) (x5 : Int32) (S : Mem), k57 x1 x2 x3 x4 x5 S = some z → G X V 6 (QI X V z.1 z.2) 57 [some (.ref (V.2.2.1 0 0)), some (.int x1), some (.int x2), some (.int x3), some (.int x4), some (.int x5)] [] S) (x1 : Int32) (x2 : Int32) (x3 : Int32) (x4 : Int32) (x5 : Int32) (S : Mem) (h : f_Mo_silence_b91  k57 x1 x2 x3 x4 x5 S = some z) : G X V 6 (QI X V z.1 z.2) 91 [some (.ref (V.2.2.1 0 0)), some (.int x1), some (.int x2), some (.int x3), some (.int x4), some (.int x5)] [] S := by
  unfold f_Mo_silence_b91 at h
  refine g_aload_n (pc := 91) hC (i := 0) (x := (V.2.2.1 0 0)) rfl rfl d_Mo_silence_91 ?_
  refine g_iload_n (pc := 92) hC (i := 1) (x := x1) rfl rfl d_Mo_silence_92 ?_
  refine g_iload (pc := 93) hC (i := 5) (x := x5) rfl d_Mo_silence_93 ?_
  obtain ⟨q95, hq95, h⟩ := Option.bind_eq_some_iff.mp h
  refine g_vi (pc := 95) hC (As := [.int x1, .int x5]) (st := []) mt_Mo_reachOf lk_Mo_468 rfl (ob_Mo hV) (Nat.le_of_ble_eq_true rfl) ⟨Nat.le_of_ble_eq_true rfl, Nat.le_of_ble_eq_true rfl⟩ rfl d_Mo_silence_95 (c_Mo_reachOf hV hq95) ?_
  refine g_iload_n (pc := 98) hC (i := 2) (x := x2) rfl rfl d_Mo_silence_98 ?_
  refine g_ishr (pc := 99) hC d_Mo_silence_99 ?_
  refine g_iconst (pc := 100) hC kc_1 d_Mo_silence_100 ?_
  refine g_iand (pc := 101) hC d_Mo_silence_101 ?_
  refine g_if_ne (pc := 102) hC (tgt := 109) (by decide) d_Mo_silence_102 h (fun h => ?_) (fun h => ?_)
  · refine s_iinc (pc := 109) hC (i := 5) (x := x5) (v := x5 + 1) rfl (by rw [kc_1]) (by decide) d_Mo_silence_109 (lv2 := [some (.ref (V.2.2.1 0 0)), some (.int x1), some (.int x2), some (.int x3), some (.int x4), some (.int (x5 + 1))]) rfl ?_
    refine g_goto (pc := 112) hC (tgt := 57) (by decide) d_Mo_silence_112 ?_
    exact hk57 x1 x2 x3 x4 (x5 + 1) S h
  · refine g_iload (pc := 105) hC (i := 5) (x := x5) rfl d_Mo_silence_105 ?_
    refine s_istore (pc := 107) hC (i := 4) (by decide) d_Mo_silence_107 (lv2 := [some (.ref (V.2.2.1 0 0)), some (.int x1), some (.int x2), some (.int x3), some (.int x5), some (.int x5)]) rfl ?_
    refine s_iinc (pc := 109) hC (i := 5) (x := x5) (v := x5 + 1) rfl (by rw [kc_1]) (by decide) d_Mo_silence_109 (lv2 := [some (.ref (V.2.2.1 0 0)), some (.int x1), some (.int x2), some (.int x3), some (.int x5), some (.int (x5 + 1))]) rfl ?_
    refine g_goto (pc := 112) hC (tgt := 57) (by decide) d_Mo_silence_112 ?_
    exact hk57 x1 x2 x3 x5 (x5 + 1) S h
set_option maxRecDepth 20000 in
theorem w_Mo_silence_b57 {X : CX} {V : WV} (hV : IsM V) {z : Int32 × Mem} (hC : Ck X V bc_Mo_silence 6 "SecretWellsModel" (some .int) 3 71) (k57 : Int32 → Int32 → Int32 → Int32 → Int32 → Mem → Option (Int32 × Mem)) (hk57 : ∀ (x1 : Int32) (x2 : Int32) (x3 : Int32) (x4 : Int32) (x5 : Int32) (S : Mem), k57 x1 x2 x3 x4 x5 S = some z → G X V 6 (QI X V z.1 z.2) 57 [some (.ref (V.2.2.1 0 0)), some (.int x1), some (.int x2), some (.int x3), some (.int x4), some (.int x5)] [] S) (x1 : Int32) (x2 : Int32) (x3 : Int32) (x4 : Int32) (x5 : Int32) (S : Mem) (h : f_Mo_silence_b57  k57 x1 x2 x3 x4 x5 S = some z) : G X V 6 (QI X V z.1 z.2) 57 [some (.ref (V.2.2.1 0 0)), some (.int x1), some (.int x2), some (.int x3), some (.int x4), some (.int x5)] [] S := by
  unfold f_Mo_silence_b57 at h
  refine g_iload (pc := 57) hC (i := 5) (x := x5) rfl d_Mo_silence_57 ?_
  refine g_iconst (pc := 59) hC kc_1 d_Mo_silence_59 ?_
  refine g_aload_n (pc := 60) hC (i := 0) (x := (V.2.2.1 0 0)) rfl rfl d_Mo_silence_60 ?_
  refine g_getA (pc := 61) hC fo_Mo_80 (ob_Mo hV) rfl d_Mo_silence_61 ?_
  refine g_aload_n (pc := 64) hC (i := 0) (x := (V.2.2.1 0 0)) rfl rfl d_Mo_silence_64 ?_
  refine g_getI (pc := 65) hC fo_Mo_245 (ob_Mo hV) rfl d_Mo_silence_65 ?_
  refine g_iald (pc := 68) hC (ar_Mo_34 hV) d_Mo_silence_68 h (fun h => ?_)
  refine g_ishl (pc := 69) hC d_Mo_silence_69 ?_
  refine g_icmp_ge (pc := 70) hC (tgt := 115) (by decide) d_Mo_silence_70 h (fun h => ?_) (fun h => ?_)
  · refine g_iload_n (pc := 115) hC (i := 3) (x := x3) rfl rfl d_Mo_silence_115 ?_
    refine g_if_ne (pc := 116) hC (tgt := 127) (by decide) d_Mo_silence_116 h (fun h => ?_) (fun h => ?_)
    · refine g_iload (pc := 127) hC (i := 4) (x := x4) rfl d_Mo_silence_127 ?_
      exact g_iW (pc := 129) hC rfl d_Mo_silence_129 h
    · refine g_iload (pc := 119) hC (i := 4) (x := x4) rfl d_Mo_silence_119 ?_
      obtain ⟨q121, hq121, h⟩ := Option.bind_eq_some_iff.mp h
      refine g_si (pc := 121) hC (As := [.int x4]) (st := []) mt_Mo_bits lk_Mo_349 (Nat.le_of_ble_eq_true rfl) ⟨Nat.le_of_ble_eq_true rfl, Nat.le_of_ble_eq_true rfl⟩ rfl d_Mo_silence_121 (c_Mo_bits (IsM.ok hV) hq121) ?_
      refine g_goto (pc := 124) hC (tgt := 129) (by decide) d_Mo_silence_124 ?_
      exact g_iW (pc := 129) hC rfl d_Mo_silence_129 h
  · refine g_iload (pc := 73) hC (i := 4) (x := x4) rfl d_Mo_silence_73 ?_
    refine g_if_lt (pc := 75) hC (tgt := 91) (by decide) d_Mo_silence_75 h (fun h => ?_) (fun h => ?_)
    · exact w_Mo_silence_b91 hV hC k57 hk57 x1 x2 x3 x4 x5 S h
    · refine g_iload (pc := 78) hC (i := 5) (x := x5) rfl d_Mo_silence_78 ?_
      obtain ⟨q80, hq80, h⟩ := Option.bind_eq_some_iff.mp h
      refine g_si (pc := 80) hC (As := [.int x5]) (st := []) mt_Mo_bits lk_Mo_349 (Nat.le_of_ble_eq_true rfl) ⟨Nat.le_of_ble_eq_true rfl, Nat.le_of_ble_eq_true rfl⟩ rfl d_Mo_silence_80 (c_Mo_bits (IsM.ok hV) hq80) ?_
      refine g_iload (pc := 83) hC (i := 4) (x := x4) rfl d_Mo_silence_83 ?_
      obtain ⟨q85, hq85, h⟩ := Option.bind_eq_some_iff.mp h
      refine g_si (pc := 85) hC (As := [.int x4]) (st := [.int q80]) mt_Mo_bits lk_Mo_349 (Nat.le_of_ble_eq_true rfl) ⟨Nat.le_of_ble_eq_true rfl, Nat.le_of_ble_eq_true rfl⟩ rfl d_Mo_silence_85 (c_Mo_bits (IsM.ok hV) hq85) ?_
      refine g_icmp_ge (pc := 88) hC (tgt := 109) (by decide) d_Mo_silence_88 h (fun h => ?_) (fun h => ?_)
      · refine s_iinc (pc := 109) hC (i := 5) (x := x5) (v := x5 + 1) rfl (by rw [kc_1]) (by decide) d_Mo_silence_109 (lv2 := [some (.ref (V.2.2.1 0 0)), some (.int x1), some (.int x2), some (.int x3), some (.int x4), some (.int (x5 + 1))]) rfl ?_
        refine g_goto (pc := 112) hC (tgt := 57) (by decide) d_Mo_silence_112 ?_
        exact hk57 x1 x2 x3 x4 (x5 + 1) S h
      · exact w_Mo_silence_b91 hV hC k57 hk57 x1 x2 x3 x4 x5 S h
theorem w_Mo_silence_l57 {X : CX} {V : WV} (hV : IsM V) {z : Int32 × Mem} (hC : Ck X V bc_Mo_silence 6 "SecretWellsModel" (some .int) 3 71) : ∀ (n : Nat) (x1 : Int32) (x2 : Int32) (x3 : Int32) (x4 : Int32) (x5 : Int32) (S : Mem), f_Mo_silence_l57  n x1 x2 x3 x4 x5 S = some z → G X V 6 (QI X V z.1 z.2) 57 [some (.ref (V.2.2.1 0 0)), some (.int x1), some (.int x2), some (.int x3), some (.int x4), some (.int x5)] [] S := by
  intro n
  induction n with
  | zero =>
    intro x1 x2 x3 x4 x5 S h
    have h : (none : Option (Int32 × Mem)) = some z := h
    cases h
  | succ n ih =>
    intro x1 x2 x3 x4 x5 S h
    exact w_Mo_silence_b57 hV hC (f_Mo_silence_l57  n) ih x1 x2 x3 x4 x5 S h
set_option maxRecDepth 20000 in
theorem w_Mo_silence_b0 {X : CX} {V : WV} (hV : IsM V) {z : Int32 × Mem} (hC : Ck X V bc_Mo_silence 6 "SecretWellsModel" (some .int) 3 71) (x1 : Int32) (x2 : Int32) (x3 : Int32) (S : Mem) (h : f_Mo_silence_b0  x1 x2 x3 S = some z) : G X V 6 (QI X V z.1 z.2) 0 [some (.ref (V.2.2.1 0 0)), some (.int x1), some (.int x2), some (.int x3), none, none] [] S := by
  unfold f_Mo_silence_b0 at h
  refine g_aload_n (pc := 0) hC (i := 0) (x := (V.2.2.1 0 0)) rfl rfl d_Mo_silence_0 ?_
  refine g_iload_n (pc := 1) hC (i := 1) (x := x1) rfl rfl d_Mo_silence_1 ?_
  obtain ⟨q2, hq2, h⟩ := Option.bind_eq_some_iff.mp h
  refine g_vi (pc := 2) hC (As := [.int x1]) (st := []) mt_Mo_isSecret lk_Mo_428 rfl (ob_Mo hV) (Nat.le_of_ble_eq_true rfl) ⟨Nat.le_of_ble_eq_true rfl, Nat.le_of_ble_eq_true rfl⟩ rfl d_Mo_silence_2 (c_Mo_isSecret hV hq2) ?_
  refine g_if_eq (pc := 5) hC (tgt := 25) (by decide) d_Mo_silence_5 h (fun h => ?_) (fun h => ?_)
  · refine g_iconst (pc := 25) hC kc_m1 d_Mo_silence_25 ?_
    exact g_iW (pc := 26) hC rfl d_Mo_silence_26 h
  · refine g_aload_n (pc := 8) hC (i := 0) (x := (V.2.2.1 0 0)) rfl rfl d_Mo_silence_8 ?_
    refine g_iload_n (pc := 9) hC (i := 2) (x := x2) rfl rfl d_Mo_silence_9 ?_
    obtain ⟨q10, hq10, h⟩ := Option.bind_eq_some_iff.mp h
    refine g_vi (pc := 10) hC (As := [.int x2]) (st := []) mt_Mo_isMan lk_Mo_425 rfl (ob_Mo hV) (Nat.le_of_ble_eq_true rfl) ⟨Nat.le_of_ble_eq_true rfl, Nat.le_of_ble_eq_true rfl⟩ rfl d_Mo_silence_10 (c_Mo_isMan hV hq10) ?_
    refine g_if_eq (pc := 13) hC (tgt := 25) (by decide) d_Mo_silence_13 h (fun h => ?_) (fun h => ?_)
    · refine g_iconst (pc := 25) hC kc_m1 d_Mo_silence_25 ?_
      exact g_iW (pc := 26) hC rfl d_Mo_silence_26 h
    · refine g_iload_n (pc := 16) hC (i := 3) (x := x3) rfl rfl d_Mo_silence_16 ?_
      refine g_iconst (pc := 17) hC kc_0 d_Mo_silence_17 ?_
      refine g_iconst (pc := 18) hC kc_1 d_Mo_silence_18 ?_
      obtain ⟨q19, hq19, h⟩ := Option.bind_eq_some_iff.mp h
      refine g_si (pc := 19) hC (As := [.int x3, .int 0, .int 1]) (st := []) mt_Mo_in lk_Mo_332 (Nat.le_of_ble_eq_true rfl) ⟨Nat.le_of_ble_eq_true rfl, Nat.le_of_ble_eq_true rfl⟩ rfl d_Mo_silence_19 (c_Mo_in (IsM.ok hV) hq19) ?_
      refine g_if_ne (pc := 22) hC (tgt := 27) (by decide) d_Mo_silence_22 h (fun h => ?_) (fun h => ?_)
      · refine g_aload_n (pc := 27) hC (i := 0) (x := (V.2.2.1 0 0)) rfl rfl d_Mo_silence_27 ?_
        obtain ⟨q28, hq28, h⟩ := Option.bind_eq_some_iff.mp h
        refine g_vv (pc := 28) hC (As := []) (st := []) mt_Mo_copies lk_Mo_422 rfl (ob_Mo hV) (Nat.le_of_ble_eq_true rfl) ⟨Nat.le_of_ble_eq_true rfl, Nat.le_of_ble_eq_true rfl⟩ rfl d_Mo_silence_28 (c_Mo_copies hV hq28) ?_
        refine g_aload_n (pc := 31) hC (i := 0) (x := (V.2.2.1 0 0)) rfl rfl d_Mo_silence_31 ?_
        refine g_iload_n (pc := 32) hC (i := 2) (x := x2) rfl rfl d_Mo_silence_32 ?_
        obtain ⟨q33, hq33, h⟩ := Option.bind_eq_some_iff.mp h
        refine g_vi (pc := 33) hC (As := [.int x2]) (st := []) mt_Mo_isAlive lk_Mo_367 rfl (ob_Mo hV) (Nat.le_of_ble_eq_true rfl) ⟨Nat.le_of_ble_eq_true rfl, Nat.le_of_ble_eq_true rfl⟩ rfl d_Mo_silence_33 (c_Mo_isAlive hV hq33) ?_
        refine g_if_eq (pc := 36) hC (tgt := 48) (by decide) d_Mo_silence_36 h (fun h => ?_) (fun h => ?_)
        · refine g_bipush (pc := 48) hC kb_m2 d_Mo_silence_48 ?_
          exact g_iW (pc := 50) hC rfl d_Mo_silence_50 h
        · refine g_aload_n (pc := 39) hC (i := 0) (x := (V.2.2.1 0 0)) rfl rfl d_Mo_silence_39 ?_
          refine g_iload_n (pc := 40) hC (i := 2) (x := x2) rfl rfl d_Mo_silence_40 ?_
          refine g_iload_n (pc := 41) hC (i := 1) (x := x1) rfl rfl d_Mo_silence_41 ?_
          obtain ⟨q42, hq42, h⟩ := Option.bind_eq_some_iff.mp h
          refine g_vi (pc := 42) hC (As := [.int x2, .int x1]) (st := []) mt_Mo_knows lk_Mo_342 rfl (ob_Mo hV) (Nat.le_of_ble_eq_true rfl) ⟨Nat.le_of_ble_eq_true rfl, Nat.le_of_ble_eq_true rfl⟩ rfl d_Mo_silence_42 (c_Mo_knows hV hq42) ?_
          refine g_if_eq (pc := 45) hC (tgt := 51) (by decide) d_Mo_silence_45 h (fun h => ?_) (fun h => ?_)
          · refine g_iconst (pc := 51) hC kc_m1 d_Mo_silence_51 ?_
            refine s_istore (pc := 52) hC (i := 4) (by decide) d_Mo_silence_52 (lv2 := [some (.ref (V.2.2.1 0 0)), some (.int x1), some (.int x2), some (.int x3), some (.int (-1)), none]) rfl ?_
            refine g_iconst (pc := 54) hC kc_0 d_Mo_silence_54 ?_
            refine s_istore (pc := 55) hC (i := 5) (by decide) d_Mo_silence_55 (lv2 := [some (.ref (V.2.2.1 0 0)), some (.int x1), some (.int x2), some (.int x3), some (.int (-1)), some (.int 0)]) rfl ?_
            exact w_Mo_silence_l57 hV hC 5000 x1 x2 x3 (-1) 0 q28 h
          · refine g_bipush (pc := 48) hC kb_m2 d_Mo_silence_48 ?_
            exact g_iW (pc := 50) hC rfl d_Mo_silence_50 h
      · refine g_iconst (pc := 25) hC kc_m1 d_Mo_silence_25 ?_
        exact g_iW (pc := 26) hC rfl d_Mo_silence_26 h
theorem c_Mo_silence {V : WV} {l : Launch} (hV : IsM V) {x1 : Int32} {x2 : Int32} {x3 : Int32} {S : Mem} {z : Int32 × Mem} (h : f_Mo_silence x1 x2 x3 S = some z) : CI V l y_Mo_silence bc_Mo_silence 6 (some .int) 3 71 [.ref (V.2.2.1 0 0), .int x1, .int x2, .int x3] S z.1 z.2 :=
  ct_i rfl (IsM.ok hV) (Nat.le_of_ble_eq_true rfl) (fun _ _ hC => w_Mo_silence_b0 hV hC x1 x2 x3 S h)
def f_Mo_shared_b23 (S : Mem) (k23 : Int32 → Int32 → Int32 → Int32 → Option (Int32)) (x1 : Int32) (x2 : Int32) (x3 : Int32) (x4 : Int32) : Option (Int32) :=
  gIn (S.1 0 18) 2 (
  if (S.2.1 0 30 (S.1 0 18).toNatClampNeg) ≤ x4 then
    some x3
  else
    Option.bind (f_Mo_knows x1 x4 S) (fun q41 =>
    if q41 = 0 then
      k23 x1 x2 x3 (x4 + 1)
    else
      Option.bind (f_Mo_knows x2 x4 S) (fun q51 =>
      if q51 = 0 then
        k23 x1 x2 x3 (x4 + 1)
      else
        Option.bind (f_Mo_knownBy x4 S) (fun q60 =>
        if q60 = 2 then
          k23 x1 x2 (x3 + 1) (x4 + 1)
        else
          k23 x1 x2 x3 (x4 + 1)))))
def f_Mo_shared_l23 (S : Mem) : Nat → Int32 → Int32 → Int32 → Int32 → Option (Int32)
  | 0 => fun _ _ _ _ => none
  | n + 1 => f_Mo_shared_b23 S (f_Mo_shared_l23 S n)
def f_Mo_shared_b0 (S : Mem) (x1 : Int32) (x2 : Int32) : Option (Int32) :=
  Option.bind (f_Mo_isAlive x1 S) (fun q4 =>
  if q4 = 0 then
    some 0
  else
    Option.bind (f_Mo_isAlive x2 S) (fun q12 =>
    if q12 = 0 then
      some 0
    else
      f_Mo_shared_l23 S 5000 x1 x2 0 0))
def f_Mo_shared (x1 : Int32) (x2 : Int32) (S : Mem) : Option (Int32) := f_Mo_shared_b0 S x1 x2
theorem d_Mo_shared_0 : decode bc_Mo_shared 0 = .ok (.iconst 0, 1) := by decide +kernel
theorem d_Mo_shared_1 : decode bc_Mo_shared 1 = .ok (.istore_n 3, 1) := by decide +kernel
theorem d_Mo_shared_2 : decode bc_Mo_shared 2 = .ok (.aload_n 0, 1) := by decide +kernel
theorem d_Mo_shared_3 : decode bc_Mo_shared 3 = .ok (.iload_n 1, 1) := by decide +kernel
theorem d_Mo_shared_4 : decode bc_Mo_shared 4 = .ok (.invokevirtual 367, 3) := by decide +kernel
theorem d_Mo_shared_7 : decode bc_Mo_shared 7 = .ok (.ifCond .eq 11, 3) := by decide +kernel
theorem d_Mo_shared_10 : decode bc_Mo_shared 10 = .ok (.aload_n 0, 1) := by decide +kernel
theorem d_Mo_shared_11 : decode bc_Mo_shared 11 = .ok (.iload_n 2, 1) := by decide +kernel
theorem d_Mo_shared_12 : decode bc_Mo_shared 12 = .ok (.invokevirtual 367, 3) := by decide +kernel
theorem d_Mo_shared_15 : decode bc_Mo_shared 15 = .ok (.ifCond .ne 5, 3) := by decide +kernel
theorem d_Mo_shared_18 : decode bc_Mo_shared 18 = .ok (.iconst 0, 1) := by decide +kernel
theorem d_Mo_shared_19 : decode bc_Mo_shared 19 = .ok (.ireturn, 1) := by decide +kernel
theorem d_Mo_shared_20 : decode bc_Mo_shared 20 = .ok (.iconst 0, 1) := by decide +kernel
theorem d_Mo_shared_21 : decode bc_Mo_shared 21 = .ok (.istore 4, 2) := by decide +kernel
theorem d_Mo_shared_23 : decode bc_Mo_shared 23 = .ok (.iload 4, 2) := by decide +kernel
theorem d_Mo_shared_25 : decode bc_Mo_shared 25 = .ok (.aload_n 0, 1) := by decide +kernel
theorem d_Mo_shared_26 : decode bc_Mo_shared 26 = .ok (.getfield 67, 3) := by decide +kernel
theorem d_Mo_shared_29 : decode bc_Mo_shared 29 = .ok (.aload_n 0, 1) := by decide +kernel
theorem d_Mo_shared_30 : decode bc_Mo_shared 30 = .ok (.getfield 245, 3) := by decide +kernel
theorem d_Mo_shared_33 : decode bc_Mo_shared 33 = .ok (.iaload, 1) := by decide +kernel
theorem d_Mo_shared_34 : decode bc_Mo_shared 34 = .ok (.if_icmp .ge 42, 3) := by decide +kernel
theorem d_Mo_shared_37 : decode bc_Mo_shared 37 = .ok (.aload_n 0, 1) := by decide +kernel
theorem d_Mo_shared_38 : decode bc_Mo_shared 38 = .ok (.iload_n 1, 1) := by decide +kernel
theorem d_Mo_shared_39 : decode bc_Mo_shared 39 = .ok (.iload 4, 2) := by decide +kernel
theorem d_Mo_shared_41 : decode bc_Mo_shared 41 = .ok (.invokevirtual 342, 3) := by decide +kernel
theorem d_Mo_shared_44 : decode bc_Mo_shared 44 = .ok (.ifCond .eq 26, 3) := by decide +kernel
theorem d_Mo_shared_47 : decode bc_Mo_shared 47 = .ok (.aload_n 0, 1) := by decide +kernel
theorem d_Mo_shared_48 : decode bc_Mo_shared 48 = .ok (.iload_n 2, 1) := by decide +kernel
theorem d_Mo_shared_49 : decode bc_Mo_shared 49 = .ok (.iload 4, 2) := by decide +kernel
theorem d_Mo_shared_51 : decode bc_Mo_shared 51 = .ok (.invokevirtual 342, 3) := by decide +kernel
theorem d_Mo_shared_54 : decode bc_Mo_shared 54 = .ok (.ifCond .eq 16, 3) := by decide +kernel
theorem d_Mo_shared_57 : decode bc_Mo_shared 57 = .ok (.aload_n 0, 1) := by decide +kernel
theorem d_Mo_shared_58 : decode bc_Mo_shared 58 = .ok (.iload 4, 2) := by decide +kernel
theorem d_Mo_shared_60 : decode bc_Mo_shared 60 = .ok (.invokevirtual 352, 3) := by decide +kernel
theorem d_Mo_shared_63 : decode bc_Mo_shared 63 = .ok (.iconst 2, 1) := by decide +kernel
theorem d_Mo_shared_64 : decode bc_Mo_shared 64 = .ok (.if_icmp .ne 6, 3) := by decide +kernel
theorem d_Mo_shared_67 : decode bc_Mo_shared 67 = .ok (.iinc 3 1, 3) := by decide +kernel
theorem d_Mo_shared_70 : decode bc_Mo_shared 70 = .ok (.iinc 4 1, 3) := by decide +kernel
theorem d_Mo_shared_73 : decode bc_Mo_shared 73 = .ok (.goto (-50), 3) := by decide +kernel
theorem d_Mo_shared_76 : decode bc_Mo_shared 76 = .ok (.iload_n 3, 1) := by decide +kernel
theorem d_Mo_shared_77 : decode bc_Mo_shared 77 = .ok (.ireturn, 1) := by decide +kernel
set_option maxRecDepth 20000 in
theorem w_Mo_shared_b23 {X : CX} {V : WV} (hV : IsM V) {S : Mem} {z : Int32} (hC : Ck X V bc_Mo_shared 5 "SecretWellsModel" (some .int) 3 66) (k23 : Int32 → Int32 → Int32 → Int32 → Option (Int32)) (hk23 : ∀ (x1 : Int32) (x2 : Int32) (x3 : Int32) (x4 : Int32), k23 x1 x2 x3 x4 = some z → G X V 5 (QI X V z S) 23 [some (.ref (V.2.2.1 0 0)), some (.int x1), some (.int x2), some (.int x3), some (.int x4)] [] S) (x1 : Int32) (x2 : Int32) (x3 : Int32) (x4 : Int32) (h : f_Mo_shared_b23 S k23 x1 x2 x3 x4 = some z) : G X V 5 (QI X V z S) 23 [some (.ref (V.2.2.1 0 0)), some (.int x1), some (.int x2), some (.int x3), some (.int x4)] [] S := by
  unfold f_Mo_shared_b23 at h
  refine g_iload (pc := 23) hC (i := 4) (x := x4) rfl d_Mo_shared_23 ?_
  refine g_aload_n (pc := 25) hC (i := 0) (x := (V.2.2.1 0 0)) rfl rfl d_Mo_shared_25 ?_
  refine g_getA (pc := 26) hC fo_Mo_67 (ob_Mo hV) rfl d_Mo_shared_26 ?_
  refine g_aload_n (pc := 29) hC (i := 0) (x := (V.2.2.1 0 0)) rfl rfl d_Mo_shared_29 ?_
  refine g_getI (pc := 30) hC fo_Mo_245 (ob_Mo hV) rfl d_Mo_shared_30 ?_
  refine g_iald (pc := 33) hC (ar_Mo_30 hV) d_Mo_shared_33 h (fun h => ?_)
  refine g_icmp_ge (pc := 34) hC (tgt := 76) (by decide) d_Mo_shared_34 h (fun h => ?_) (fun h => ?_)
  · refine g_iload_n (pc := 76) hC (i := 3) (x := x3) rfl rfl d_Mo_shared_76 ?_
    exact g_iN (pc := 77) hC rfl d_Mo_shared_77 h
  · refine g_aload_n (pc := 37) hC (i := 0) (x := (V.2.2.1 0 0)) rfl rfl d_Mo_shared_37 ?_
    refine g_iload_n (pc := 38) hC (i := 1) (x := x1) rfl rfl d_Mo_shared_38 ?_
    refine g_iload (pc := 39) hC (i := 4) (x := x4) rfl d_Mo_shared_39 ?_
    obtain ⟨q41, hq41, h⟩ := Option.bind_eq_some_iff.mp h
    refine g_vi (pc := 41) hC (As := [.int x1, .int x4]) (st := []) mt_Mo_knows lk_Mo_342 rfl (ob_Mo hV) (Nat.le_of_ble_eq_true rfl) ⟨Nat.le_of_ble_eq_true rfl, Nat.le_of_ble_eq_true rfl⟩ rfl d_Mo_shared_41 (c_Mo_knows hV hq41) ?_
    refine g_if_eq (pc := 44) hC (tgt := 70) (by decide) d_Mo_shared_44 h (fun h => ?_) (fun h => ?_)
    · refine s_iinc (pc := 70) hC (i := 4) (x := x4) (v := x4 + 1) rfl (by rw [kc_1]) (by decide) d_Mo_shared_70 (lv2 := [some (.ref (V.2.2.1 0 0)), some (.int x1), some (.int x2), some (.int x3), some (.int (x4 + 1))]) rfl ?_
      refine g_goto (pc := 73) hC (tgt := 23) (by decide) d_Mo_shared_73 ?_
      exact hk23 x1 x2 x3 (x4 + 1) h
    · refine g_aload_n (pc := 47) hC (i := 0) (x := (V.2.2.1 0 0)) rfl rfl d_Mo_shared_47 ?_
      refine g_iload_n (pc := 48) hC (i := 2) (x := x2) rfl rfl d_Mo_shared_48 ?_
      refine g_iload (pc := 49) hC (i := 4) (x := x4) rfl d_Mo_shared_49 ?_
      obtain ⟨q51, hq51, h⟩ := Option.bind_eq_some_iff.mp h
      refine g_vi (pc := 51) hC (As := [.int x2, .int x4]) (st := []) mt_Mo_knows lk_Mo_342 rfl (ob_Mo hV) (Nat.le_of_ble_eq_true rfl) ⟨Nat.le_of_ble_eq_true rfl, Nat.le_of_ble_eq_true rfl⟩ rfl d_Mo_shared_51 (c_Mo_knows hV hq51) ?_
      refine g_if_eq (pc := 54) hC (tgt := 70) (by decide) d_Mo_shared_54 h (fun h => ?_) (fun h => ?_)
      · refine s_iinc (pc := 70) hC (i := 4) (x := x4) (v := x4 + 1) rfl (by rw [kc_1]) (by decide) d_Mo_shared_70 (lv2 := [some (.ref (V.2.2.1 0 0)), some (.int x1), some (.int x2), some (.int x3), some (.int (x4 + 1))]) rfl ?_
        refine g_goto (pc := 73) hC (tgt := 23) (by decide) d_Mo_shared_73 ?_
        exact hk23 x1 x2 x3 (x4 + 1) h
      · refine g_aload_n (pc := 57) hC (i := 0) (x := (V.2.2.1 0 0)) rfl rfl d_Mo_shared_57 ?_
        refine g_iload (pc := 58) hC (i := 4) (x := x4) rfl d_Mo_shared_58 ?_
        obtain ⟨q60, hq60, h⟩ := Option.bind_eq_some_iff.mp h
        refine g_vi (pc := 60) hC (As := [.int x4]) (st := []) mt_Mo_knownBy lk_Mo_352 rfl (ob_Mo hV) (Nat.le_of_ble_eq_true rfl) ⟨Nat.le_of_ble_eq_true rfl, Nat.le_of_ble_eq_true rfl⟩ rfl d_Mo_shared_60 (c_Mo_knownBy hV hq60) ?_
        refine g_iconst (pc := 63) hC kc_2 d_Mo_shared_63 ?_
        refine g_icmp_ne (pc := 64) hC (tgt := 70) (by decide) d_Mo_shared_64 h (fun h => ?_) (fun h => ?_)
        · refine s_iinc (pc := 70) hC (i := 4) (x := x4) (v := x4 + 1) rfl (by rw [kc_1]) (by decide) d_Mo_shared_70 (lv2 := [some (.ref (V.2.2.1 0 0)), some (.int x1), some (.int x2), some (.int x3), some (.int (x4 + 1))]) rfl ?_
          refine g_goto (pc := 73) hC (tgt := 23) (by decide) d_Mo_shared_73 ?_
          exact hk23 x1 x2 x3 (x4 + 1) h
        · refine s_iinc (pc := 67) hC (i := 3) (x := x3) (v := x3 + 1) rfl (by rw [kc_1]) (by decide) d_Mo_shared_67 (lv2 := [some (.ref (V.2.2.1 0 0)), some (.int x1), some (.int x2), some (.int (x3 + 1)), some (.int x4)]) rfl ?_
          refine s_iinc (pc := 70) hC (i := 4) (x := x4) (v := x4 + 1) rfl (by rw [kc_1]) (by decide) d_Mo_shared_70 (lv2 := [some (.ref (V.2.2.1 0 0)), some (.int x1), some (.int x2), some (.int (x3 + 1)), some (.int (x4 + 1))]) rfl ?_
          refine g_goto (pc := 73) hC (tgt := 23) (by decide) d_Mo_shared_73 ?_
          exact hk23 x1 x2 (x3 + 1) (x4 + 1) h
theorem w_Mo_shared_l23 {X : CX} {V : WV} (hV : IsM V) {S : Mem} {z : Int32} (hC : Ck X V bc_Mo_shared 5 "SecretWellsModel" (some .int) 3 66) : ∀ (n : Nat) (x1 : Int32) (x2 : Int32) (x3 : Int32) (x4 : Int32), f_Mo_shared_l23 S n x1 x2 x3 x4 = some z → G X V 5 (QI X V z S) 23 [some (.ref (V.2.2.1 0 0)), some (.int x1), some (.int x2), some (.int x3), some (.int x4)] [] S := by
  intro n
  induction n with
  | zero =>
    intro x1 x2 x3 x4 h
    have h : (none : Option (Int32)) = some z := h
    cases h
  | succ n ih =>
    intro x1 x2 x3 x4 h
    exact w_Mo_shared_b23 hV hC (f_Mo_shared_l23 S n) ih x1 x2 x3 x4 h
set_option maxRecDepth 20000 in
theorem w_Mo_shared_b0 {X : CX} {V : WV} (hV : IsM V) {S : Mem} {z : Int32} (hC : Ck X V bc_Mo_shared 5 "SecretWellsModel" (some .int) 3 66) (x1 : Int32) (x2 : Int32) (h : f_Mo_shared_b0 S x1 x2 = some z) : G X V 5 (QI X V z S) 0 [some (.ref (V.2.2.1 0 0)), some (.int x1), some (.int x2), none, none] [] S := by
  unfold f_Mo_shared_b0 at h
  refine g_iconst (pc := 0) hC kc_0 d_Mo_shared_0 ?_
  refine s_istore_n (pc := 1) hC (i := 3) rfl (by decide) d_Mo_shared_1 (lv2 := [some (.ref (V.2.2.1 0 0)), some (.int x1), some (.int x2), some (.int 0), none]) rfl ?_
  refine g_aload_n (pc := 2) hC (i := 0) (x := (V.2.2.1 0 0)) rfl rfl d_Mo_shared_2 ?_
  refine g_iload_n (pc := 3) hC (i := 1) (x := x1) rfl rfl d_Mo_shared_3 ?_
  obtain ⟨q4, hq4, h⟩ := Option.bind_eq_some_iff.mp h
  refine g_vi (pc := 4) hC (As := [.int x1]) (st := []) mt_Mo_isAlive lk_Mo_367 rfl (ob_Mo hV) (Nat.le_of_ble_eq_true rfl) ⟨Nat.le_of_ble_eq_true rfl, Nat.le_of_ble_eq_true rfl⟩ rfl d_Mo_shared_4 (c_Mo_isAlive hV hq4) ?_
  refine g_if_eq (pc := 7) hC (tgt := 18) (by decide) d_Mo_shared_7 h (fun h => ?_) (fun h => ?_)
  · refine g_iconst (pc := 18) hC kc_0 d_Mo_shared_18 ?_
    exact g_iN (pc := 19) hC rfl d_Mo_shared_19 h
  · refine g_aload_n (pc := 10) hC (i := 0) (x := (V.2.2.1 0 0)) rfl rfl d_Mo_shared_10 ?_
    refine g_iload_n (pc := 11) hC (i := 2) (x := x2) rfl rfl d_Mo_shared_11 ?_
    obtain ⟨q12, hq12, h⟩ := Option.bind_eq_some_iff.mp h
    refine g_vi (pc := 12) hC (As := [.int x2]) (st := []) mt_Mo_isAlive lk_Mo_367 rfl (ob_Mo hV) (Nat.le_of_ble_eq_true rfl) ⟨Nat.le_of_ble_eq_true rfl, Nat.le_of_ble_eq_true rfl⟩ rfl d_Mo_shared_12 (c_Mo_isAlive hV hq12) ?_
    refine g_if_ne (pc := 15) hC (tgt := 20) (by decide) d_Mo_shared_15 h (fun h => ?_) (fun h => ?_)
    · refine g_iconst (pc := 20) hC kc_0 d_Mo_shared_20 ?_
      refine s_istore (pc := 21) hC (i := 4) (by decide) d_Mo_shared_21 (lv2 := [some (.ref (V.2.2.1 0 0)), some (.int x1), some (.int x2), some (.int 0), some (.int 0)]) rfl ?_
      exact w_Mo_shared_l23 hV hC 5000 x1 x2 0 0 h
    · refine g_iconst (pc := 18) hC kc_0 d_Mo_shared_18 ?_
      exact g_iN (pc := 19) hC rfl d_Mo_shared_19 h
theorem c_Mo_shared {V : WV} {l : Launch} (hV : IsM V) {x1 : Int32} {x2 : Int32} {S : Mem} {z : Int32} (h : f_Mo_shared x1 x2 S = some z) : CI V l y_Mo_shared bc_Mo_shared 5 (some .int) 3 66 [.ref (V.2.2.1 0 0), .int x1, .int x2] S z S :=
  ct_i rfl (IsM.ok hV) (Nat.le_of_ble_eq_true rfl) (fun _ _ hC => w_Mo_shared_b0 hV hC x1 x2 h)
def f_Mo_holds_b0 (x1 : Int32) (x2 : Int32) (S : Mem) : Option (Int32 × Mem) :=
  Option.bind (f_Mo_isMan x1 S) (fun q2 =>
  if q2 = 0 then
    some ((-1), S)
  else
    Option.bind (f_Mo_isMan x2 S) (fun q10 =>
    if q10 = 0 then
      some ((-1), S)
    else
      if x1 = x2 then
        some ((-1), S)
      else
        Option.bind (f_Mo_copies S) (fun q24 =>
        Option.bind (f_Mo_shared x1 x2 q24) (fun q30 =>
        some (q30, q24)))))
def f_Mo_holds (x1 : Int32) (x2 : Int32) (S : Mem) : Option (Int32 × Mem) := f_Mo_holds_b0  x1 x2 S
theorem d_Mo_holds_0 : decode bc_Mo_holds 0 = .ok (.aload_n 0, 1) := by decide +kernel
theorem d_Mo_holds_1 : decode bc_Mo_holds 1 = .ok (.iload_n 1, 1) := by decide +kernel
theorem d_Mo_holds_2 : decode bc_Mo_holds 2 = .ok (.invokevirtual 425, 3) := by decide +kernel
theorem d_Mo_holds_5 : decode bc_Mo_holds 5 = .ok (.ifCond .eq 16, 3) := by decide +kernel
theorem d_Mo_holds_8 : decode bc_Mo_holds 8 = .ok (.aload_n 0, 1) := by decide +kernel
theorem d_Mo_holds_9 : decode bc_Mo_holds 9 = .ok (.iload_n 2, 1) := by decide +kernel
theorem d_Mo_holds_10 : decode bc_Mo_holds 10 = .ok (.invokevirtual 425, 3) := by decide +kernel
theorem d_Mo_holds_13 : decode bc_Mo_holds 13 = .ok (.ifCond .eq 8, 3) := by decide +kernel
theorem d_Mo_holds_16 : decode bc_Mo_holds 16 = .ok (.iload_n 1, 1) := by decide +kernel
theorem d_Mo_holds_17 : decode bc_Mo_holds 17 = .ok (.iload_n 2, 1) := by decide +kernel
theorem d_Mo_holds_18 : decode bc_Mo_holds 18 = .ok (.if_icmp .ne 5, 3) := by decide +kernel
theorem d_Mo_holds_21 : decode bc_Mo_holds 21 = .ok (.iconst (-1), 1) := by decide +kernel
theorem d_Mo_holds_22 : decode bc_Mo_holds 22 = .ok (.ireturn, 1) := by decide +kernel
theorem d_Mo_holds_23 : decode bc_Mo_holds 23 = .ok (.aload_n 0, 1) := by decide +kernel
theorem d_Mo_holds_24 : decode bc_Mo_holds 24 = .ok (.invokevirtual 422, 3) := by decide +kernel
theorem d_Mo_holds_27 : decode bc_Mo_holds 27 = .ok (.aload_n 0, 1) := by decide +kernel
theorem d_Mo_holds_28 : decode bc_Mo_holds 28 = .ok (.iload_n 1, 1) := by decide +kernel
theorem d_Mo_holds_29 : decode bc_Mo_holds 29 = .ok (.iload_n 2, 1) := by decide +kernel
theorem d_Mo_holds_30 : decode bc_Mo_holds 30 = .ok (.invokevirtual 471, 3) := by decide +kernel
theorem d_Mo_holds_33 : decode bc_Mo_holds 33 = .ok (.ireturn, 1) := by decide +kernel
set_option maxRecDepth 20000 in
theorem w_Mo_holds_b0 {X : CX} {V : WV} (hV : IsM V) {z : Int32 × Mem} (hC : Ck X V bc_Mo_holds 3 "SecretWellsModel" (some .int) 4 90) (x1 : Int32) (x2 : Int32) (S : Mem) (h : f_Mo_holds_b0  x1 x2 S = some z) : G X V 3 (QI X V z.1 z.2) 0 [some (.ref (V.2.2.1 0 0)), some (.int x1), some (.int x2)] [] S := by
  unfold f_Mo_holds_b0 at h
  refine g_aload_n (pc := 0) hC (i := 0) (x := (V.2.2.1 0 0)) rfl rfl d_Mo_holds_0 ?_
  refine g_iload_n (pc := 1) hC (i := 1) (x := x1) rfl rfl d_Mo_holds_1 ?_
  obtain ⟨q2, hq2, h⟩ := Option.bind_eq_some_iff.mp h
  refine g_vi (pc := 2) hC (As := [.int x1]) (st := []) mt_Mo_isMan lk_Mo_425 rfl (ob_Mo hV) (Nat.le_of_ble_eq_true rfl) ⟨Nat.le_of_ble_eq_true rfl, Nat.le_of_ble_eq_true rfl⟩ rfl d_Mo_holds_2 (c_Mo_isMan hV hq2) ?_
  refine g_if_eq (pc := 5) hC (tgt := 21) (by decide) d_Mo_holds_5 h (fun h => ?_) (fun h => ?_)
  · refine g_iconst (pc := 21) hC kc_m1 d_Mo_holds_21 ?_
    exact g_iW (pc := 22) hC rfl d_Mo_holds_22 h
  · refine g_aload_n (pc := 8) hC (i := 0) (x := (V.2.2.1 0 0)) rfl rfl d_Mo_holds_8 ?_
    refine g_iload_n (pc := 9) hC (i := 2) (x := x2) rfl rfl d_Mo_holds_9 ?_
    obtain ⟨q10, hq10, h⟩ := Option.bind_eq_some_iff.mp h
    refine g_vi (pc := 10) hC (As := [.int x2]) (st := []) mt_Mo_isMan lk_Mo_425 rfl (ob_Mo hV) (Nat.le_of_ble_eq_true rfl) ⟨Nat.le_of_ble_eq_true rfl, Nat.le_of_ble_eq_true rfl⟩ rfl d_Mo_holds_10 (c_Mo_isMan hV hq10) ?_
    refine g_if_eq (pc := 13) hC (tgt := 21) (by decide) d_Mo_holds_13 h (fun h => ?_) (fun h => ?_)
    · refine g_iconst (pc := 21) hC kc_m1 d_Mo_holds_21 ?_
      exact g_iW (pc := 22) hC rfl d_Mo_holds_22 h
    · refine g_iload_n (pc := 16) hC (i := 1) (x := x1) rfl rfl d_Mo_holds_16 ?_
      refine g_iload_n (pc := 17) hC (i := 2) (x := x2) rfl rfl d_Mo_holds_17 ?_
      refine g_icmp_ne (pc := 18) hC (tgt := 23) (by decide) d_Mo_holds_18 h (fun h => ?_) (fun h => ?_)
      · refine g_aload_n (pc := 23) hC (i := 0) (x := (V.2.2.1 0 0)) rfl rfl d_Mo_holds_23 ?_
        obtain ⟨q24, hq24, h⟩ := Option.bind_eq_some_iff.mp h
        refine g_vv (pc := 24) hC (As := []) (st := []) mt_Mo_copies lk_Mo_422 rfl (ob_Mo hV) (Nat.le_of_ble_eq_true rfl) ⟨Nat.le_of_ble_eq_true rfl, Nat.le_of_ble_eq_true rfl⟩ rfl d_Mo_holds_24 (c_Mo_copies hV hq24) ?_
        refine g_aload_n (pc := 27) hC (i := 0) (x := (V.2.2.1 0 0)) rfl rfl d_Mo_holds_27 ?_
        refine g_iload_n (pc := 28) hC (i := 1) (x := x1) rfl rfl d_Mo_holds_28 ?_
        refine g_iload_n (pc := 29) hC (i := 2) (x := x2) rfl rfl d_Mo_holds_29 ?_
        obtain ⟨q30, hq30, h⟩ := Option.bind_eq_some_iff.mp h
        refine g_vi (pc := 30) hC (As := [.int x1, .int x2]) (st := []) mt_Mo_shared lk_Mo_471 rfl (ob_Mo hV) (Nat.le_of_ble_eq_true rfl) ⟨Nat.le_of_ble_eq_true rfl, Nat.le_of_ble_eq_true rfl⟩ rfl d_Mo_holds_30 (c_Mo_shared hV hq30) ?_
        exact g_iW (pc := 33) hC rfl d_Mo_holds_33 h
      · refine g_iconst (pc := 21) hC kc_m1 d_Mo_holds_21 ?_
        exact g_iW (pc := 22) hC rfl d_Mo_holds_22 h
theorem c_Mo_holds {V : WV} {l : Launch} (hV : IsM V) {x1 : Int32} {x2 : Int32} {S : Mem} {z : Int32 × Mem} (h : f_Mo_holds x1 x2 S = some z) : CI V l y_Mo_holds bc_Mo_holds 3 (some .int) 4 90 [.ref (V.2.2.1 0 0), .int x1, .int x2] S z.1 z.2 :=
  ct_i rfl (IsM.ok hV) (Nat.le_of_ble_eq_true rfl) (fun _ _ hC => w_Mo_holds_b0 hV hC x1 x2 S h)
def f_Mo_rings_b25 (k8 : Int32 → Int32 → Mem → Option (Int32 × Mem)) (k25 : Int32 → Int32 → Int32 → Mem → Option (Int32 × Mem)) (x1 : Int32) (x2 : Int32) (x3 : Int32) (S : Mem) : Option (Int32 × Mem) :=
  gIn (S.1 0 18) 2 (
  if (S.2.1 0 27 (S.1 0 18).toNatClampNeg) ≤ x3 then
    k8 x1 (x2 + 1) S
  else
    Option.bind (f_Mo_shared x2 x3 S) (fun q41 =>
    if q41 ≤ 0 then
      k25 x1 x2 (x3 + 1) S
    else
      k25 (x1 + 1) x2 (x3 + 1) S))
def f_Mo_rings_l25 (k8 : Int32 → Int32 → Mem → Option (Int32 × Mem)) : Nat → Int32 → Int32 → Int32 → Mem → Option (Int32 × Mem)
  | 0 => fun _ _ _ _ => none
  | n + 1 => f_Mo_rings_b25  k8 (f_Mo_rings_l25  k8 n)
def f_Mo_rings_b8 (k8 : Int32 → Int32 → Mem → Option (Int32 × Mem)) (x1 : Int32) (x2 : Int32) (S : Mem) : Option (Int32 × Mem) :=
  gIn (S.1 0 18) 2 (
  if (S.2.1 0 27 (S.1 0 18).toNatClampNeg) ≤ x2 then
    some (x1, S)
  else
    letS (x2 + 1) (fun y24 =>
    f_Mo_rings_l25 k8 5000 x1 x2 y24 S))
def f_Mo_rings_l8 : Nat → Int32 → Int32 → Mem → Option (Int32 × Mem)
  | 0 => fun _ _ _ => none
  | n + 1 => f_Mo_rings_b8  (f_Mo_rings_l8  n)
def f_Mo_rings_b0 (S : Mem) : Option (Int32 × Mem) :=
  Option.bind (f_Mo_copies S) (fun q1 =>
  f_Mo_rings_l8 5000 0 0 q1)
def f_Mo_rings (S : Mem) : Option (Int32 × Mem) := f_Mo_rings_b0  S
theorem d_Mo_rings_0 : decode bc_Mo_rings 0 = .ok (.aload_n 0, 1) := by decide +kernel
theorem d_Mo_rings_1 : decode bc_Mo_rings 1 = .ok (.invokevirtual 422, 3) := by decide +kernel
theorem d_Mo_rings_4 : decode bc_Mo_rings 4 = .ok (.iconst 0, 1) := by decide +kernel
theorem d_Mo_rings_5 : decode bc_Mo_rings 5 = .ok (.istore_n 1, 1) := by decide +kernel
theorem d_Mo_rings_6 : decode bc_Mo_rings 6 = .ok (.iconst 0, 1) := by decide +kernel
theorem d_Mo_rings_7 : decode bc_Mo_rings 7 = .ok (.istore_n 2, 1) := by decide +kernel
theorem d_Mo_rings_8 : decode bc_Mo_rings 8 = .ok (.iload_n 2, 1) := by decide +kernel
theorem d_Mo_rings_9 : decode bc_Mo_rings 9 = .ok (.aload_n 0, 1) := by decide +kernel
theorem d_Mo_rings_10 : decode bc_Mo_rings 10 = .ok (.getfield 58, 3) := by decide +kernel
theorem d_Mo_rings_13 : decode bc_Mo_rings 13 = .ok (.aload_n 0, 1) := by decide +kernel
theorem d_Mo_rings_14 : decode bc_Mo_rings 14 = .ok (.getfield 245, 3) := by decide +kernel
theorem d_Mo_rings_17 : decode bc_Mo_rings 17 = .ok (.iaload, 1) := by decide +kernel
theorem d_Mo_rings_18 : decode bc_Mo_rings 18 = .ok (.if_icmp .ge 44, 3) := by decide +kernel
theorem d_Mo_rings_21 : decode bc_Mo_rings 21 = .ok (.iload_n 2, 1) := by decide +kernel
theorem d_Mo_rings_22 : decode bc_Mo_rings 22 = .ok (.iconst 1, 1) := by decide +kernel
theorem d_Mo_rings_23 : decode bc_Mo_rings 23 = .ok (.iadd, 1) := by decide +kernel
theorem d_Mo_rings_24 : decode bc_Mo_rings 24 = .ok (.istore_n 3, 1) := by decide +kernel
theorem d_Mo_rings_25 : decode bc_Mo_rings 25 = .ok (.iload_n 3, 1) := by decide +kernel
theorem d_Mo_rings_26 : decode bc_Mo_rings 26 = .ok (.aload_n 0, 1) := by decide +kernel
theorem d_Mo_rings_27 : decode bc_Mo_rings 27 = .ok (.getfield 58, 3) := by decide +kernel
theorem d_Mo_rings_30 : decode bc_Mo_rings 30 = .ok (.aload_n 0, 1) := by decide +kernel
theorem d_Mo_rings_31 : decode bc_Mo_rings 31 = .ok (.getfield 245, 3) := by decide +kernel
theorem d_Mo_rings_34 : decode bc_Mo_rings 34 = .ok (.iaload, 1) := by decide +kernel
theorem d_Mo_rings_35 : decode bc_Mo_rings 35 = .ok (.if_icmp .ge 21, 3) := by decide +kernel
theorem d_Mo_rings_38 : decode bc_Mo_rings 38 = .ok (.aload_n 0, 1) := by decide +kernel
theorem d_Mo_rings_39 : decode bc_Mo_rings 39 = .ok (.iload_n 2, 1) := by decide +kernel
theorem d_Mo_rings_40 : decode bc_Mo_rings 40 = .ok (.iload_n 3, 1) := by decide +kernel
theorem d_Mo_rings_41 : decode bc_Mo_rings 41 = .ok (.invokevirtual 471, 3) := by decide +kernel
theorem d_Mo_rings_44 : decode bc_Mo_rings 44 = .ok (.ifCond .le 6, 3) := by decide +kernel
theorem d_Mo_rings_47 : decode bc_Mo_rings 47 = .ok (.iinc 1 1, 3) := by decide +kernel
theorem d_Mo_rings_50 : decode bc_Mo_rings 50 = .ok (.iinc 3 1, 3) := by decide +kernel
theorem d_Mo_rings_53 : decode bc_Mo_rings 53 = .ok (.goto (-28), 3) := by decide +kernel
theorem d_Mo_rings_56 : decode bc_Mo_rings 56 = .ok (.iinc 2 1, 3) := by decide +kernel
theorem d_Mo_rings_59 : decode bc_Mo_rings 59 = .ok (.goto (-51), 3) := by decide +kernel
theorem d_Mo_rings_62 : decode bc_Mo_rings 62 = .ok (.iload_n 1, 1) := by decide +kernel
theorem d_Mo_rings_63 : decode bc_Mo_rings 63 = .ok (.ireturn, 1) := by decide +kernel
set_option maxRecDepth 20000 in
theorem w_Mo_rings_b25 {X : CX} {V : WV} (hV : IsM V) {z : Int32 × Mem} (hC : Ck X V bc_Mo_rings 4 "SecretWellsModel" (some .int) 4 90) (k8 : Int32 → Int32 → Mem → Option (Int32 × Mem)) (hk8 : ∀ (x1 : Int32) (x2 : Int32) (S : Mem), k8 x1 x2 S = some z → G X V 4 (QI X V z.1 z.2) 8 [some (.ref (V.2.2.1 0 0)), some (.int x1), some (.int x2), none] [] S) (k25 : Int32 → Int32 → Int32 → Mem → Option (Int32 × Mem)) (hk25 : ∀ (x1 : Int32) (x2 : Int32) (x3 : Int32) (S : Mem), k25 x1 x2 x3 S = some z → G X V 4 (QI X V z.1 z.2) 25 [some (.ref (V.2.2.1 0 0)), some (.int x1), some (.int x2), some (.int x3)] [] S) (x1 : Int32) (x2 : Int32) (x3 : Int32) (S : Mem) (h : f_Mo_rings_b25  k8 k25 x1 x2 x3 S = some z) : G X V 4 (QI X V z.1 z.2) 25 [some (.ref (V.2.2.1 0 0)), some (.int x1), some (.int x2), some (.int x3)] [] S := by
  unfold f_Mo_rings_b25 at h
  refine g_iload_n (pc := 25) hC (i := 3) (x := x3) rfl rfl d_Mo_rings_25 ?_
  refine g_aload_n (pc := 26) hC (i := 0) (x := (V.2.2.1 0 0)) rfl rfl d_Mo_rings_26 ?_
  refine g_getA (pc := 27) hC fo_Mo_58 (ob_Mo hV) rfl d_Mo_rings_27 ?_
  refine g_aload_n (pc := 30) hC (i := 0) (x := (V.2.2.1 0 0)) rfl rfl d_Mo_rings_30 ?_
  refine g_getI (pc := 31) hC fo_Mo_245 (ob_Mo hV) rfl d_Mo_rings_31 ?_
  refine g_iald (pc := 34) hC (ar_Mo_27 hV) d_Mo_rings_34 h (fun h => ?_)
  refine g_icmp_ge (pc := 35) hC (tgt := 56) (by decide) d_Mo_rings_35 h (fun h => ?_) (fun h => ?_)
  · refine s_iinc (pc := 56) hC (i := 2) (x := x2) (v := x2 + 1) rfl (by rw [kc_1]) (by decide) d_Mo_rings_56 (lv2 := [some (.ref (V.2.2.1 0 0)), some (.int x1), some (.int (x2 + 1)), some (.int x3)]) rfl ?_
    refine g_goto (pc := 59) hC (tgt := 8) (by decide) d_Mo_rings_59 ?_
    refine g_le (lv2 := [some (.ref (V.2.2.1 0 0)), some (.int x1), some (.int (x2 + 1)), none]) (⟨rfl, ⟨rfl, ⟨rfl, trivial⟩⟩⟩) ?_
    exact hk8 x1 (x2 + 1) S h
  · refine g_aload_n (pc := 38) hC (i := 0) (x := (V.2.2.1 0 0)) rfl rfl d_Mo_rings_38 ?_
    refine g_iload_n (pc := 39) hC (i := 2) (x := x2) rfl rfl d_Mo_rings_39 ?_
    refine g_iload_n (pc := 40) hC (i := 3) (x := x3) rfl rfl d_Mo_rings_40 ?_
    obtain ⟨q41, hq41, h⟩ := Option.bind_eq_some_iff.mp h
    refine g_vi (pc := 41) hC (As := [.int x2, .int x3]) (st := []) mt_Mo_shared lk_Mo_471 rfl (ob_Mo hV) (Nat.le_of_ble_eq_true rfl) ⟨Nat.le_of_ble_eq_true rfl, Nat.le_of_ble_eq_true rfl⟩ rfl d_Mo_rings_41 (c_Mo_shared hV hq41) ?_
    refine g_if_le (pc := 44) hC (tgt := 50) (by decide) d_Mo_rings_44 h (fun h => ?_) (fun h => ?_)
    · refine s_iinc (pc := 50) hC (i := 3) (x := x3) (v := x3 + 1) rfl (by rw [kc_1]) (by decide) d_Mo_rings_50 (lv2 := [some (.ref (V.2.2.1 0 0)), some (.int x1), some (.int x2), some (.int (x3 + 1))]) rfl ?_
      refine g_goto (pc := 53) hC (tgt := 25) (by decide) d_Mo_rings_53 ?_
      exact hk25 x1 x2 (x3 + 1) S h
    · refine s_iinc (pc := 47) hC (i := 1) (x := x1) (v := x1 + 1) rfl (by rw [kc_1]) (by decide) d_Mo_rings_47 (lv2 := [some (.ref (V.2.2.1 0 0)), some (.int (x1 + 1)), some (.int x2), some (.int x3)]) rfl ?_
      refine s_iinc (pc := 50) hC (i := 3) (x := x3) (v := x3 + 1) rfl (by rw [kc_1]) (by decide) d_Mo_rings_50 (lv2 := [some (.ref (V.2.2.1 0 0)), some (.int (x1 + 1)), some (.int x2), some (.int (x3 + 1))]) rfl ?_
      refine g_goto (pc := 53) hC (tgt := 25) (by decide) d_Mo_rings_53 ?_
      exact hk25 (x1 + 1) x2 (x3 + 1) S h
theorem w_Mo_rings_l25 {X : CX} {V : WV} (hV : IsM V) {z : Int32 × Mem} (hC : Ck X V bc_Mo_rings 4 "SecretWellsModel" (some .int) 4 90) (k8 : Int32 → Int32 → Mem → Option (Int32 × Mem)) (hk8 : ∀ (x1 : Int32) (x2 : Int32) (S : Mem), k8 x1 x2 S = some z → G X V 4 (QI X V z.1 z.2) 8 [some (.ref (V.2.2.1 0 0)), some (.int x1), some (.int x2), none] [] S) : ∀ (n : Nat) (x1 : Int32) (x2 : Int32) (x3 : Int32) (S : Mem), f_Mo_rings_l25  k8 n x1 x2 x3 S = some z → G X V 4 (QI X V z.1 z.2) 25 [some (.ref (V.2.2.1 0 0)), some (.int x1), some (.int x2), some (.int x3)] [] S := by
  intro n
  induction n with
  | zero =>
    intro x1 x2 x3 S h
    have h : (none : Option (Int32 × Mem)) = some z := h
    cases h
  | succ n ih =>
    intro x1 x2 x3 S h
    exact w_Mo_rings_b25 hV hC k8 hk8 (f_Mo_rings_l25  k8 n) ih x1 x2 x3 S h
set_option maxRecDepth 20000 in
theorem w_Mo_rings_b8 {X : CX} {V : WV} (hV : IsM V) {z : Int32 × Mem} (hC : Ck X V bc_Mo_rings 4 "SecretWellsModel" (some .int) 4 90) (k8 : Int32 → Int32 → Mem → Option (Int32 × Mem)) (hk8 : ∀ (x1 : Int32) (x2 : Int32) (S : Mem), k8 x1 x2 S = some z → G X V 4 (QI X V z.1 z.2) 8 [some (.ref (V.2.2.1 0 0)), some (.int x1), some (.int x2), none] [] S) (x1 : Int32) (x2 : Int32) (S : Mem) (h : f_Mo_rings_b8  k8 x1 x2 S = some z) : G X V 4 (QI X V z.1 z.2) 8 [some (.ref (V.2.2.1 0 0)), some (.int x1), some (.int x2), none] [] S := by
  unfold f_Mo_rings_b8 at h
  refine g_iload_n (pc := 8) hC (i := 2) (x := x2) rfl rfl d_Mo_rings_8 ?_
  refine g_aload_n (pc := 9) hC (i := 0) (x := (V.2.2.1 0 0)) rfl rfl d_Mo_rings_9 ?_
  refine g_getA (pc := 10) hC fo_Mo_58 (ob_Mo hV) rfl d_Mo_rings_10 ?_
  refine g_aload_n (pc := 13) hC (i := 0) (x := (V.2.2.1 0 0)) rfl rfl d_Mo_rings_13 ?_
  refine g_getI (pc := 14) hC fo_Mo_245 (ob_Mo hV) rfl d_Mo_rings_14 ?_
  refine g_iald (pc := 17) hC (ar_Mo_27 hV) d_Mo_rings_17 h (fun h => ?_)
  refine g_icmp_ge (pc := 18) hC (tgt := 62) (by decide) d_Mo_rings_18 h (fun h => ?_) (fun h => ?_)
  · refine g_iload_n (pc := 62) hC (i := 1) (x := x1) rfl rfl d_Mo_rings_62 ?_
    exact g_iW (pc := 63) hC rfl d_Mo_rings_63 h
  · refine g_iload_n (pc := 21) hC (i := 2) (x := x2) rfl rfl d_Mo_rings_21 ?_
    refine g_iconst (pc := 22) hC kc_1 d_Mo_rings_22 ?_
    refine g_iadd (pc := 23) hC d_Mo_rings_23 ?_
    refine g_leti h (fun y24 h => ?_)
    refine s_istore_n (pc := 24) hC (i := 3) rfl (by decide) d_Mo_rings_24 (lv2 := [some (.ref (V.2.2.1 0 0)), some (.int x1), some (.int x2), some (.int y24)]) rfl ?_
    exact w_Mo_rings_l25 hV hC k8 hk8 5000 x1 x2 y24 S h
theorem w_Mo_rings_l8 {X : CX} {V : WV} (hV : IsM V) {z : Int32 × Mem} (hC : Ck X V bc_Mo_rings 4 "SecretWellsModel" (some .int) 4 90) : ∀ (n : Nat) (x1 : Int32) (x2 : Int32) (S : Mem), f_Mo_rings_l8  n x1 x2 S = some z → G X V 4 (QI X V z.1 z.2) 8 [some (.ref (V.2.2.1 0 0)), some (.int x1), some (.int x2), none] [] S := by
  intro n
  induction n with
  | zero =>
    intro x1 x2 S h
    have h : (none : Option (Int32 × Mem)) = some z := h
    cases h
  | succ n ih =>
    intro x1 x2 S h
    exact w_Mo_rings_b8 hV hC (f_Mo_rings_l8  n) ih x1 x2 S h
set_option maxRecDepth 20000 in
theorem w_Mo_rings_b0 {X : CX} {V : WV} (hV : IsM V) {z : Int32 × Mem} (hC : Ck X V bc_Mo_rings 4 "SecretWellsModel" (some .int) 4 90) (S : Mem) (h : f_Mo_rings_b0  S = some z) : G X V 4 (QI X V z.1 z.2) 0 [some (.ref (V.2.2.1 0 0)), none, none, none] [] S := by
  unfold f_Mo_rings_b0 at h
  refine g_aload_n (pc := 0) hC (i := 0) (x := (V.2.2.1 0 0)) rfl rfl d_Mo_rings_0 ?_
  obtain ⟨q1, hq1, h⟩ := Option.bind_eq_some_iff.mp h
  refine g_vv (pc := 1) hC (As := []) (st := []) mt_Mo_copies lk_Mo_422 rfl (ob_Mo hV) (Nat.le_of_ble_eq_true rfl) ⟨Nat.le_of_ble_eq_true rfl, Nat.le_of_ble_eq_true rfl⟩ rfl d_Mo_rings_1 (c_Mo_copies hV hq1) ?_
  refine g_iconst (pc := 4) hC kc_0 d_Mo_rings_4 ?_
  refine s_istore_n (pc := 5) hC (i := 1) rfl (by decide) d_Mo_rings_5 (lv2 := [some (.ref (V.2.2.1 0 0)), some (.int 0), none, none]) rfl ?_
  refine g_iconst (pc := 6) hC kc_0 d_Mo_rings_6 ?_
  refine s_istore_n (pc := 7) hC (i := 2) rfl (by decide) d_Mo_rings_7 (lv2 := [some (.ref (V.2.2.1 0 0)), some (.int 0), some (.int 0), none]) rfl ?_
  exact w_Mo_rings_l8 hV hC 5000 0 0 q1 h
theorem c_Mo_rings {V : WV} {l : Launch} (hV : IsM V) {S : Mem} {z : Int32 × Mem} (h : f_Mo_rings S = some z) : CI V l y_Mo_rings bc_Mo_rings 4 (some .int) 4 90 [.ref (V.2.2.1 0 0)] S z.1 z.2 :=
  ct_i rfl (IsM.ok hV) (Nat.le_of_ble_eq_true rfl) (fun _ _ hC => w_Mo_rings_b0 hV hC S h)
def f_Mo_fillsMay_b125 (k7 : Int32 → Mem → Option (Mem)) (k29 : Int32 → Int32 → Mem → Option (Mem)) (x1 : Int32) (x2 : Int32) (S : Mem) : Option (Mem) :=
  gIn x1 7 (letS (sA S 0 66 x1 x2) (fun S131 =>
  k29 x1 (x2 + 1) S131))
def f_Mo_fillsMay_b138 (k7 : Int32 → Mem → Option (Mem)) (x1 : Int32) (S : Mem) : Option (Mem) :=
  gIn x1 7 (
  if (S.2.1 0 66 x1.toNatClampNeg) < 0 then
    k7 (x1 + 1) S
  else
    letS (pI S 0 67 ((S.1 0 67) ||| ((1 : Int32) <<< (x1 &&& 31)))) (fun S156 =>
    k7 (x1 + 1) S156))
def f_Mo_fillsMay_b29 (k7 : Int32 → Mem → Option (Mem)) (k29 : Int32 → Int32 → Mem → Option (Mem)) (x1 : Int32) (x2 : Int32) (S : Mem) : Option (Mem) :=
  gIn (S.1 0 18) 2 (
  if (S.2.1 0 30 (S.1 0 18).toNatClampNeg) ≤ x2 then
    f_Mo_fillsMay_b138 k7 x1 S
  else
    Option.bind (f_Mo_isAlive x1 S) (fun q44 =>
    if q44 = 0 then
      f_Mo_fillsMay_b138 k7 x1 S
    else
      Option.bind (f_Mo_knows x1 x2 S) (fun q53 =>
      if q53 = 0 then
        k29 x1 (x2 + 1) S
      else
        gIn (4 + x2) 40 (
        if (S.2.1 0 57 (4 + x2).toNatClampNeg) = (-2) then
          Option.bind (f_Mo_isHolding x2 S) (fun q74 =>
          if q74 = 0 then
            k29 x1 (x2 + 1) S
          else
            gIn x1 7 (
            if (S.2.1 0 66 x1.toNatClampNeg) < 0 then
              f_Mo_fillsMay_b125 k7 k29 x1 x2 S
            else
              gIn ((8 * (S.1 0 18)) + x2) 16 (
              gIn x1 7 (
              gIn ((8 * (S.1 0 18)) + (S.2.1 0 66 x1.toNatClampNeg)) 16 (
              if (S.2.1 0 31 ((8 * (S.1 0 18)) + x2).toNatClampNeg) ≤ (S.2.1 0 31 ((8 * (S.1 0 18)) + (S.2.1 0 66 x1.toNatClampNeg)).toNatClampNeg) then
                k29 x1 (x2 + 1) S
              else
                f_Mo_fillsMay_b125 k7 k29 x1 x2 S)))))
        else
          k29 x1 (x2 + 1) S))))
def f_Mo_fillsMay_l29 (k7 : Int32 → Mem → Option (Mem)) : Nat → Int32 → Int32 → Mem → Option (Mem)
  | 0 => fun _ _ _ => none
  | n + 1 => f_Mo_fillsMay_b29  k7 (f_Mo_fillsMay_l29  k7 n)
def f_Mo_fillsMay_b7 (k7 : Int32 → Mem → Option (Mem)) (x1 : Int32) (S : Mem) : Option (Mem) :=
  gIn (S.1 0 18) 2 (
  if (S.2.1 0 27 (S.1 0 18).toNatClampNeg) ≤ x1 then
    some S
  else
    gIn x1 7 (letS (sA S 0 66 x1 (-1)) (fun S26 =>
    f_Mo_fillsMay_l29 k7 5000 x1 0 S26)))
def f_Mo_fillsMay_l7 : Nat → Int32 → Mem → Option (Mem)
  | 0 => fun _ _ => none
  | n + 1 => f_Mo_fillsMay_b7  (f_Mo_fillsMay_l7  n)
def f_Mo_fillsMay_b0 (S : Mem) : Option (Mem) :=
  letS (pI S 0 67 0) (fun S2 =>
  f_Mo_fillsMay_l7 5000 0 S2)
def f_Mo_fillsMay (S : Mem) : Option (Mem) := f_Mo_fillsMay_b0  S
theorem d_Mo_fillsMay_0 : decode bc_Mo_fillsMay 0 = .ok (.aload_n 0, 1) := by decide +kernel
theorem d_Mo_fillsMay_1 : decode bc_Mo_fillsMay 1 = .ok (.iconst 0, 1) := by decide +kernel
theorem d_Mo_fillsMay_2 : decode bc_Mo_fillsMay 2 = .ok (.putfield 474, 3) := by decide +kernel
theorem d_Mo_fillsMay_5 : decode bc_Mo_fillsMay 5 = .ok (.iconst 0, 1) := by decide +kernel
theorem d_Mo_fillsMay_6 : decode bc_Mo_fillsMay 6 = .ok (.istore_n 1, 1) := by decide +kernel
theorem d_Mo_fillsMay_7 : decode bc_Mo_fillsMay 7 = .ok (.iload_n 1, 1) := by decide +kernel
theorem d_Mo_fillsMay_8 : decode bc_Mo_fillsMay 8 = .ok (.aload_n 0, 1) := by decide +kernel
theorem d_Mo_fillsMay_9 : decode bc_Mo_fillsMay 9 = .ok (.getfield 58, 3) := by decide +kernel
theorem d_Mo_fillsMay_12 : decode bc_Mo_fillsMay 12 = .ok (.aload_n 0, 1) := by decide +kernel
theorem d_Mo_fillsMay_13 : decode bc_Mo_fillsMay 13 = .ok (.getfield 245, 3) := by decide +kernel
theorem d_Mo_fillsMay_16 : decode bc_Mo_fillsMay 16 = .ok (.iaload, 1) := by decide +kernel
theorem d_Mo_fillsMay_17 : decode bc_Mo_fillsMay 17 = .ok (.if_icmp .ge 148, 3) := by decide +kernel
theorem d_Mo_fillsMay_20 : decode bc_Mo_fillsMay 20 = .ok (.aload_n 0, 1) := by decide +kernel
theorem d_Mo_fillsMay_21 : decode bc_Mo_fillsMay 21 = .ok (.getfield 146, 3) := by decide +kernel
theorem d_Mo_fillsMay_24 : decode bc_Mo_fillsMay 24 = .ok (.iload_n 1, 1) := by decide +kernel
theorem d_Mo_fillsMay_25 : decode bc_Mo_fillsMay 25 = .ok (.iconst (-1), 1) := by decide +kernel
theorem d_Mo_fillsMay_26 : decode bc_Mo_fillsMay 26 = .ok (.iastore, 1) := by decide +kernel
theorem d_Mo_fillsMay_27 : decode bc_Mo_fillsMay 27 = .ok (.iconst 0, 1) := by decide +kernel
theorem d_Mo_fillsMay_28 : decode bc_Mo_fillsMay 28 = .ok (.istore_n 2, 1) := by decide +kernel
theorem d_Mo_fillsMay_29 : decode bc_Mo_fillsMay 29 = .ok (.iload_n 2, 1) := by decide +kernel
theorem d_Mo_fillsMay_30 : decode bc_Mo_fillsMay 30 = .ok (.aload_n 0, 1) := by decide +kernel
theorem d_Mo_fillsMay_31 : decode bc_Mo_fillsMay 31 = .ok (.getfield 67, 3) := by decide +kernel
theorem d_Mo_fillsMay_34 : decode bc_Mo_fillsMay 34 = .ok (.aload_n 0, 1) := by decide +kernel
theorem d_Mo_fillsMay_35 : decode bc_Mo_fillsMay 35 = .ok (.getfield 245, 3) := by decide +kernel
theorem d_Mo_fillsMay_38 : decode bc_Mo_fillsMay 38 = .ok (.iaload, 1) := by decide +kernel
theorem d_Mo_fillsMay_39 : decode bc_Mo_fillsMay 39 = .ok (.if_icmp .ge 99, 3) := by decide +kernel
theorem d_Mo_fillsMay_42 : decode bc_Mo_fillsMay 42 = .ok (.aload_n 0, 1) := by decide +kernel
theorem d_Mo_fillsMay_43 : decode bc_Mo_fillsMay 43 = .ok (.iload_n 1, 1) := by decide +kernel
theorem d_Mo_fillsMay_44 : decode bc_Mo_fillsMay 44 = .ok (.invokevirtual 367, 3) := by decide +kernel
theorem d_Mo_fillsMay_47 : decode bc_Mo_fillsMay 47 = .ok (.ifCond .eq 91, 3) := by decide +kernel
theorem d_Mo_fillsMay_50 : decode bc_Mo_fillsMay 50 = .ok (.aload_n 0, 1) := by decide +kernel
theorem d_Mo_fillsMay_51 : decode bc_Mo_fillsMay 51 = .ok (.iload_n 1, 1) := by decide +kernel
theorem d_Mo_fillsMay_52 : decode bc_Mo_fillsMay 52 = .ok (.iload_n 2, 1) := by decide +kernel
theorem d_Mo_fillsMay_53 : decode bc_Mo_fillsMay 53 = .ok (.invokevirtual 342, 3) := by decide +kernel
theorem d_Mo_fillsMay_56 : decode bc_Mo_fillsMay 56 = .ok (.ifCond .eq 76, 3) := by decide +kernel
theorem d_Mo_fillsMay_59 : decode bc_Mo_fillsMay 59 = .ok (.aload_n 0, 1) := by decide +kernel
theorem d_Mo_fillsMay_60 : decode bc_Mo_fillsMay 60 = .ok (.getfield 137, 3) := by decide +kernel
theorem d_Mo_fillsMay_63 : decode bc_Mo_fillsMay 63 = .ok (.iconst 4, 1) := by decide +kernel
theorem d_Mo_fillsMay_64 : decode bc_Mo_fillsMay 64 = .ok (.iload_n 2, 1) := by decide +kernel
theorem d_Mo_fillsMay_65 : decode bc_Mo_fillsMay 65 = .ok (.iadd, 1) := by decide +kernel
theorem d_Mo_fillsMay_66 : decode bc_Mo_fillsMay 66 = .ok (.iaload, 1) := by decide +kernel
theorem d_Mo_fillsMay_67 : decode bc_Mo_fillsMay 67 = .ok (.bipush (-2), 2) := by decide +kernel
theorem d_Mo_fillsMay_69 : decode bc_Mo_fillsMay 69 = .ok (.if_icmp .ne 63, 3) := by decide +kernel
theorem d_Mo_fillsMay_72 : decode bc_Mo_fillsMay 72 = .ok (.aload_n 0, 1) := by decide +kernel
theorem d_Mo_fillsMay_73 : decode bc_Mo_fillsMay 73 = .ok (.iload_n 2, 1) := by decide +kernel
theorem d_Mo_fillsMay_74 : decode bc_Mo_fillsMay 74 = .ok (.invokevirtual 358, 3) := by decide +kernel
theorem d_Mo_fillsMay_77 : decode bc_Mo_fillsMay 77 = .ok (.ifCond .eq 55, 3) := by decide +kernel
theorem d_Mo_fillsMay_80 : decode bc_Mo_fillsMay 80 = .ok (.aload_n 0, 1) := by decide +kernel
theorem d_Mo_fillsMay_81 : decode bc_Mo_fillsMay 81 = .ok (.getfield 146, 3) := by decide +kernel
theorem d_Mo_fillsMay_84 : decode bc_Mo_fillsMay 84 = .ok (.iload_n 1, 1) := by decide +kernel
theorem d_Mo_fillsMay_85 : decode bc_Mo_fillsMay 85 = .ok (.iaload, 1) := by decide +kernel
theorem d_Mo_fillsMay_86 : decode bc_Mo_fillsMay 86 = .ok (.ifCond .lt 39, 3) := by decide +kernel
theorem d_Mo_fillsMay_89 : decode bc_Mo_fillsMay 89 = .ok (.aload_n 0, 1) := by decide +kernel
theorem d_Mo_fillsMay_90 : decode bc_Mo_fillsMay 90 = .ok (.getfield 70, 3) := by decide +kernel
theorem d_Mo_fillsMay_93 : decode bc_Mo_fillsMay 93 = .ok (.bipush 8, 2) := by decide +kernel
theorem d_Mo_fillsMay_95 : decode bc_Mo_fillsMay 95 = .ok (.aload_n 0, 1) := by decide +kernel
theorem d_Mo_fillsMay_96 : decode bc_Mo_fillsMay 96 = .ok (.getfield 245, 3) := by decide +kernel
theorem d_Mo_fillsMay_99 : decode bc_Mo_fillsMay 99 = .ok (.imul, 1) := by decide +kernel
theorem d_Mo_fillsMay_100 : decode bc_Mo_fillsMay 100 = .ok (.iload_n 2, 1) := by decide +kernel
theorem d_Mo_fillsMay_101 : decode bc_Mo_fillsMay 101 = .ok (.iadd, 1) := by decide +kernel
theorem d_Mo_fillsMay_102 : decode bc_Mo_fillsMay 102 = .ok (.iaload, 1) := by decide +kernel
theorem d_Mo_fillsMay_103 : decode bc_Mo_fillsMay 103 = .ok (.aload_n 0, 1) := by decide +kernel
theorem d_Mo_fillsMay_104 : decode bc_Mo_fillsMay 104 = .ok (.getfield 70, 3) := by decide +kernel
theorem d_Mo_fillsMay_107 : decode bc_Mo_fillsMay 107 = .ok (.bipush 8, 2) := by decide +kernel
theorem d_Mo_fillsMay_109 : decode bc_Mo_fillsMay 109 = .ok (.aload_n 0, 1) := by decide +kernel
theorem d_Mo_fillsMay_110 : decode bc_Mo_fillsMay 110 = .ok (.getfield 245, 3) := by decide +kernel
theorem d_Mo_fillsMay_113 : decode bc_Mo_fillsMay 113 = .ok (.imul, 1) := by decide +kernel
theorem d_Mo_fillsMay_114 : decode bc_Mo_fillsMay 114 = .ok (.aload_n 0, 1) := by decide +kernel
theorem d_Mo_fillsMay_115 : decode bc_Mo_fillsMay 115 = .ok (.getfield 146, 3) := by decide +kernel
theorem d_Mo_fillsMay_118 : decode bc_Mo_fillsMay 118 = .ok (.iload_n 1, 1) := by decide +kernel
theorem d_Mo_fillsMay_119 : decode bc_Mo_fillsMay 119 = .ok (.iaload, 1) := by decide +kernel
theorem d_Mo_fillsMay_120 : decode bc_Mo_fillsMay 120 = .ok (.iadd, 1) := by decide +kernel
theorem d_Mo_fillsMay_121 : decode bc_Mo_fillsMay 121 = .ok (.iaload, 1) := by decide +kernel
theorem d_Mo_fillsMay_122 : decode bc_Mo_fillsMay 122 = .ok (.if_icmp .le 10, 3) := by decide +kernel
theorem d_Mo_fillsMay_125 : decode bc_Mo_fillsMay 125 = .ok (.aload_n 0, 1) := by decide +kernel
theorem d_Mo_fillsMay_126 : decode bc_Mo_fillsMay 126 = .ok (.getfield 146, 3) := by decide +kernel
theorem d_Mo_fillsMay_129 : decode bc_Mo_fillsMay 129 = .ok (.iload_n 1, 1) := by decide +kernel
theorem d_Mo_fillsMay_130 : decode bc_Mo_fillsMay 130 = .ok (.iload_n 2, 1) := by decide +kernel
theorem d_Mo_fillsMay_131 : decode bc_Mo_fillsMay 131 = .ok (.iastore, 1) := by decide +kernel
theorem d_Mo_fillsMay_132 : decode bc_Mo_fillsMay 132 = .ok (.iinc 2 1, 3) := by decide +kernel
theorem d_Mo_fillsMay_135 : decode bc_Mo_fillsMay 135 = .ok (.goto (-106), 3) := by decide +kernel
theorem d_Mo_fillsMay_138 : decode bc_Mo_fillsMay 138 = .ok (.aload_n 0, 1) := by decide +kernel
theorem d_Mo_fillsMay_139 : decode bc_Mo_fillsMay 139 = .ok (.getfield 146, 3) := by decide +kernel
theorem d_Mo_fillsMay_142 : decode bc_Mo_fillsMay 142 = .ok (.iload_n 1, 1) := by decide +kernel
theorem d_Mo_fillsMay_143 : decode bc_Mo_fillsMay 143 = .ok (.iaload, 1) := by decide +kernel
theorem d_Mo_fillsMay_144 : decode bc_Mo_fillsMay 144 = .ok (.ifCond .lt 15, 3) := by decide +kernel
theorem d_Mo_fillsMay_147 : decode bc_Mo_fillsMay 147 = .ok (.aload_n 0, 1) := by decide +kernel
theorem d_Mo_fillsMay_148 : decode bc_Mo_fillsMay 148 = .ok (.dup, 1) := by decide +kernel
theorem d_Mo_fillsMay_149 : decode bc_Mo_fillsMay 149 = .ok (.getfield 474, 3) := by decide +kernel
theorem d_Mo_fillsMay_152 : decode bc_Mo_fillsMay 152 = .ok (.iconst 1, 1) := by decide +kernel
theorem d_Mo_fillsMay_153 : decode bc_Mo_fillsMay 153 = .ok (.iload_n 1, 1) := by decide +kernel
theorem d_Mo_fillsMay_154 : decode bc_Mo_fillsMay 154 = .ok (.ishl, 1) := by decide +kernel
theorem d_Mo_fillsMay_155 : decode bc_Mo_fillsMay 155 = .ok (.ior, 1) := by decide +kernel
theorem d_Mo_fillsMay_156 : decode bc_Mo_fillsMay 156 = .ok (.putfield 474, 3) := by decide +kernel
theorem d_Mo_fillsMay_159 : decode bc_Mo_fillsMay 159 = .ok (.iinc 1 1, 3) := by decide +kernel
theorem d_Mo_fillsMay_162 : decode bc_Mo_fillsMay 162 = .ok (.goto (-155), 3) := by decide +kernel
theorem d_Mo_fillsMay_165 : decode bc_Mo_fillsMay 165 = .ok (.return_, 1) := by decide +kernel
set_option maxRecDepth 20000 in
theorem w_Mo_fillsMay_b125 {X : CX} {V : WV} (hV : IsM V) {z : Mem} (hC : Ck X V bc_Mo_fillsMay 3 "SecretWellsModel" none 4 89) (k7 : Int32 → Mem → Option (Mem)) (hk7 : ∀ (x1 : Int32) (S : Mem), k7 x1 S = some z → G X V 3 (QV X V z) 7 [some (.ref (V.2.2.1 0 0)), some (.int x1), none] [] S) (k29 : Int32 → Int32 → Mem → Option (Mem)) (hk29 : ∀ (x1 : Int32) (x2 : Int32) (S : Mem), k29 x1 x2 S = some z → G X V 3 (QV X V z) 29 [some (.ref (V.2.2.1 0 0)), some (.int x1), some (.int x2)] [] S) (x1 : Int32) (x2 : Int32) (S : Mem) (h : f_Mo_fillsMay_b125  k7 k29 x1 x2 S = some z) : G X V 3 (QV X V z) 125 [some (.ref (V.2.2.1 0 0)), some (.int x1), some (.int x2)] [] S := by
  unfold f_Mo_fillsMay_b125 at h
  refine g_aload_n (pc := 125) hC (i := 0) (x := (V.2.2.1 0 0)) rfl rfl d_Mo_fillsMay_125 ?_
  refine g_getA (pc := 126) hC fo_Mo_146 (ob_Mo hV) rfl d_Mo_fillsMay_126 ?_
  refine g_iload_n (pc := 129) hC (i := 1) (x := x1) rfl rfl d_Mo_fillsMay_129 ?_
  refine g_iload_n (pc := 130) hC (i := 2) (x := x2) rfl rfl d_Mo_fillsMay_130 ?_
  refine g_iast (pc := 131) hC (ar_Mo_66 hV) d_Mo_fillsMay_131 h (fun h => ?_)
  refine g_letS h (fun S131 h => ?_)
  refine s_iinc (pc := 132) hC (i := 2) (x := x2) (v := x2 + 1) rfl (by rw [kc_1]) (by decide) d_Mo_fillsMay_132 (lv2 := [some (.ref (V.2.2.1 0 0)), some (.int x1), some (.int (x2 + 1))]) rfl ?_
  refine g_goto (pc := 135) hC (tgt := 29) (by decide) d_Mo_fillsMay_135 ?_
  exact hk29 x1 (x2 + 1) S131 h
set_option maxRecDepth 20000 in
theorem w_Mo_fillsMay_b138 {X : CX} {V : WV} (hV : IsM V) {z : Mem} (hC : Ck X V bc_Mo_fillsMay 3 "SecretWellsModel" none 4 89) (k7 : Int32 → Mem → Option (Mem)) (hk7 : ∀ (x1 : Int32) (S : Mem), k7 x1 S = some z → G X V 3 (QV X V z) 7 [some (.ref (V.2.2.1 0 0)), some (.int x1), none] [] S) (x1 : Int32) (S : Mem) (h : f_Mo_fillsMay_b138  k7 x1 S = some z) : G X V 3 (QV X V z) 138 [some (.ref (V.2.2.1 0 0)), some (.int x1), none] [] S := by
  unfold f_Mo_fillsMay_b138 at h
  refine g_aload_n (pc := 138) hC (i := 0) (x := (V.2.2.1 0 0)) rfl rfl d_Mo_fillsMay_138 ?_
  refine g_getA (pc := 139) hC fo_Mo_146 (ob_Mo hV) rfl d_Mo_fillsMay_139 ?_
  refine g_iload_n (pc := 142) hC (i := 1) (x := x1) rfl rfl d_Mo_fillsMay_142 ?_
  refine g_iald (pc := 143) hC (ar_Mo_66 hV) d_Mo_fillsMay_143 h (fun h => ?_)
  refine g_if_lt (pc := 144) hC (tgt := 159) (by decide) d_Mo_fillsMay_144 h (fun h => ?_) (fun h => ?_)
  · refine s_iinc (pc := 159) hC (i := 1) (x := x1) (v := x1 + 1) rfl (by rw [kc_1]) (by decide) d_Mo_fillsMay_159 (lv2 := [some (.ref (V.2.2.1 0 0)), some (.int (x1 + 1)), none]) rfl ?_
    refine g_goto (pc := 162) hC (tgt := 7) (by decide) d_Mo_fillsMay_162 ?_
    exact hk7 (x1 + 1) S h
  · refine g_aload_n (pc := 147) hC (i := 0) (x := (V.2.2.1 0 0)) rfl rfl d_Mo_fillsMay_147 ?_
    refine g_dup (pc := 148) hC rfl d_Mo_fillsMay_148 ?_
    refine g_getI (pc := 149) hC fo_Mo_474 (ob_Mo hV) rfl d_Mo_fillsMay_149 ?_
    refine g_iconst (pc := 152) hC kc_1 d_Mo_fillsMay_152 ?_
    refine g_iload_n (pc := 153) hC (i := 1) (x := x1) rfl rfl d_Mo_fillsMay_153 ?_
    refine g_ishl (pc := 154) hC d_Mo_fillsMay_154 ?_
    refine g_ior (pc := 155) hC d_Mo_fillsMay_155 ?_
    refine g_putI (pc := 156) hC po_Mo_474 (ob_Mo hV) rfl rfl rfl d_Mo_fillsMay_156 ?_
    refine g_letS h (fun S156 h => ?_)
    refine s_iinc (pc := 159) hC (i := 1) (x := x1) (v := x1 + 1) rfl (by rw [kc_1]) (by decide) d_Mo_fillsMay_159 (lv2 := [some (.ref (V.2.2.1 0 0)), some (.int (x1 + 1)), none]) rfl ?_
    refine g_goto (pc := 162) hC (tgt := 7) (by decide) d_Mo_fillsMay_162 ?_
    exact hk7 (x1 + 1) S156 h
set_option maxRecDepth 20000 in
theorem w_Mo_fillsMay_b29 {X : CX} {V : WV} (hV : IsM V) {z : Mem} (hC : Ck X V bc_Mo_fillsMay 3 "SecretWellsModel" none 4 89) (k7 : Int32 → Mem → Option (Mem)) (hk7 : ∀ (x1 : Int32) (S : Mem), k7 x1 S = some z → G X V 3 (QV X V z) 7 [some (.ref (V.2.2.1 0 0)), some (.int x1), none] [] S) (k29 : Int32 → Int32 → Mem → Option (Mem)) (hk29 : ∀ (x1 : Int32) (x2 : Int32) (S : Mem), k29 x1 x2 S = some z → G X V 3 (QV X V z) 29 [some (.ref (V.2.2.1 0 0)), some (.int x1), some (.int x2)] [] S) (x1 : Int32) (x2 : Int32) (S : Mem) (h : f_Mo_fillsMay_b29  k7 k29 x1 x2 S = some z) : G X V 3 (QV X V z) 29 [some (.ref (V.2.2.1 0 0)), some (.int x1), some (.int x2)] [] S := by
  unfold f_Mo_fillsMay_b29 at h
  refine g_iload_n (pc := 29) hC (i := 2) (x := x2) rfl rfl d_Mo_fillsMay_29 ?_
  refine g_aload_n (pc := 30) hC (i := 0) (x := (V.2.2.1 0 0)) rfl rfl d_Mo_fillsMay_30 ?_
  refine g_getA (pc := 31) hC fo_Mo_67 (ob_Mo hV) rfl d_Mo_fillsMay_31 ?_
  refine g_aload_n (pc := 34) hC (i := 0) (x := (V.2.2.1 0 0)) rfl rfl d_Mo_fillsMay_34 ?_
  refine g_getI (pc := 35) hC fo_Mo_245 (ob_Mo hV) rfl d_Mo_fillsMay_35 ?_
  refine g_iald (pc := 38) hC (ar_Mo_30 hV) d_Mo_fillsMay_38 h (fun h => ?_)
  refine g_icmp_ge (pc := 39) hC (tgt := 138) (by decide) d_Mo_fillsMay_39 h (fun h => ?_) (fun h => ?_)
  · refine g_le (lv2 := [some (.ref (V.2.2.1 0 0)), some (.int x1), none]) (⟨rfl, ⟨rfl, trivial⟩⟩) ?_
    exact w_Mo_fillsMay_b138 hV hC k7 hk7 x1 S h
  · refine g_aload_n (pc := 42) hC (i := 0) (x := (V.2.2.1 0 0)) rfl rfl d_Mo_fillsMay_42 ?_
    refine g_iload_n (pc := 43) hC (i := 1) (x := x1) rfl rfl d_Mo_fillsMay_43 ?_
    obtain ⟨q44, hq44, h⟩ := Option.bind_eq_some_iff.mp h
    refine g_vi (pc := 44) hC (As := [.int x1]) (st := []) mt_Mo_isAlive lk_Mo_367 rfl (ob_Mo hV) (Nat.le_of_ble_eq_true rfl) ⟨Nat.le_of_ble_eq_true rfl, Nat.le_of_ble_eq_true rfl⟩ rfl d_Mo_fillsMay_44 (c_Mo_isAlive hV hq44) ?_
    refine g_if_eq (pc := 47) hC (tgt := 138) (by decide) d_Mo_fillsMay_47 h (fun h => ?_) (fun h => ?_)
    · refine g_le (lv2 := [some (.ref (V.2.2.1 0 0)), some (.int x1), none]) (⟨rfl, ⟨rfl, trivial⟩⟩) ?_
      exact w_Mo_fillsMay_b138 hV hC k7 hk7 x1 S h
    · refine g_aload_n (pc := 50) hC (i := 0) (x := (V.2.2.1 0 0)) rfl rfl d_Mo_fillsMay_50 ?_
      refine g_iload_n (pc := 51) hC (i := 1) (x := x1) rfl rfl d_Mo_fillsMay_51 ?_
      refine g_iload_n (pc := 52) hC (i := 2) (x := x2) rfl rfl d_Mo_fillsMay_52 ?_
      obtain ⟨q53, hq53, h⟩ := Option.bind_eq_some_iff.mp h
      refine g_vi (pc := 53) hC (As := [.int x1, .int x2]) (st := []) mt_Mo_knows lk_Mo_342 rfl (ob_Mo hV) (Nat.le_of_ble_eq_true rfl) ⟨Nat.le_of_ble_eq_true rfl, Nat.le_of_ble_eq_true rfl⟩ rfl d_Mo_fillsMay_53 (c_Mo_knows hV hq53) ?_
      refine g_if_eq (pc := 56) hC (tgt := 132) (by decide) d_Mo_fillsMay_56 h (fun h => ?_) (fun h => ?_)
      · refine s_iinc (pc := 132) hC (i := 2) (x := x2) (v := x2 + 1) rfl (by rw [kc_1]) (by decide) d_Mo_fillsMay_132 (lv2 := [some (.ref (V.2.2.1 0 0)), some (.int x1), some (.int (x2 + 1))]) rfl ?_
        refine g_goto (pc := 135) hC (tgt := 29) (by decide) d_Mo_fillsMay_135 ?_
        exact hk29 x1 (x2 + 1) S h
      · refine g_aload_n (pc := 59) hC (i := 0) (x := (V.2.2.1 0 0)) rfl rfl d_Mo_fillsMay_59 ?_
        refine g_getA (pc := 60) hC fo_Mo_137 (ob_Mo hV) rfl d_Mo_fillsMay_60 ?_
        refine g_iconst (pc := 63) hC kc_4 d_Mo_fillsMay_63 ?_
        refine g_iload_n (pc := 64) hC (i := 2) (x := x2) rfl rfl d_Mo_fillsMay_64 ?_
        refine g_iadd (pc := 65) hC d_Mo_fillsMay_65 ?_
        refine g_iald (pc := 66) hC (ar_Mo_57 hV) d_Mo_fillsMay_66 h (fun h => ?_)
        refine g_bipush (pc := 67) hC kb_m2 d_Mo_fillsMay_67 ?_
        refine g_icmp_ne (pc := 69) hC (tgt := 132) (by decide) d_Mo_fillsMay_69 h (fun h => ?_) (fun h => ?_)
        · refine s_iinc (pc := 132) hC (i := 2) (x := x2) (v := x2 + 1) rfl (by rw [kc_1]) (by decide) d_Mo_fillsMay_132 (lv2 := [some (.ref (V.2.2.1 0 0)), some (.int x1), some (.int (x2 + 1))]) rfl ?_
          refine g_goto (pc := 135) hC (tgt := 29) (by decide) d_Mo_fillsMay_135 ?_
          exact hk29 x1 (x2 + 1) S h
        · refine g_aload_n (pc := 72) hC (i := 0) (x := (V.2.2.1 0 0)) rfl rfl d_Mo_fillsMay_72 ?_
          refine g_iload_n (pc := 73) hC (i := 2) (x := x2) rfl rfl d_Mo_fillsMay_73 ?_
          obtain ⟨q74, hq74, h⟩ := Option.bind_eq_some_iff.mp h
          refine g_vi (pc := 74) hC (As := [.int x2]) (st := []) mt_Mo_isHolding lk_Mo_358 rfl (ob_Mo hV) (Nat.le_of_ble_eq_true rfl) ⟨Nat.le_of_ble_eq_true rfl, Nat.le_of_ble_eq_true rfl⟩ rfl d_Mo_fillsMay_74 (c_Mo_isHolding hV hq74) ?_
          refine g_if_eq (pc := 77) hC (tgt := 132) (by decide) d_Mo_fillsMay_77 h (fun h => ?_) (fun h => ?_)
          · refine s_iinc (pc := 132) hC (i := 2) (x := x2) (v := x2 + 1) rfl (by rw [kc_1]) (by decide) d_Mo_fillsMay_132 (lv2 := [some (.ref (V.2.2.1 0 0)), some (.int x1), some (.int (x2 + 1))]) rfl ?_
            refine g_goto (pc := 135) hC (tgt := 29) (by decide) d_Mo_fillsMay_135 ?_
            exact hk29 x1 (x2 + 1) S h
          · refine g_aload_n (pc := 80) hC (i := 0) (x := (V.2.2.1 0 0)) rfl rfl d_Mo_fillsMay_80 ?_
            refine g_getA (pc := 81) hC fo_Mo_146 (ob_Mo hV) rfl d_Mo_fillsMay_81 ?_
            refine g_iload_n (pc := 84) hC (i := 1) (x := x1) rfl rfl d_Mo_fillsMay_84 ?_
            refine g_iald (pc := 85) hC (ar_Mo_66 hV) d_Mo_fillsMay_85 h (fun h => ?_)
            refine g_if_lt (pc := 86) hC (tgt := 125) (by decide) d_Mo_fillsMay_86 h (fun h => ?_) (fun h => ?_)
            · exact w_Mo_fillsMay_b125 hV hC k7 hk7 k29 hk29 x1 x2 S h
            · refine g_aload_n (pc := 89) hC (i := 0) (x := (V.2.2.1 0 0)) rfl rfl d_Mo_fillsMay_89 ?_
              refine g_getA (pc := 90) hC fo_Mo_70 (ob_Mo hV) rfl d_Mo_fillsMay_90 ?_
              refine g_bipush (pc := 93) hC kb_8 d_Mo_fillsMay_93 ?_
              refine g_aload_n (pc := 95) hC (i := 0) (x := (V.2.2.1 0 0)) rfl rfl d_Mo_fillsMay_95 ?_
              refine g_getI (pc := 96) hC fo_Mo_245 (ob_Mo hV) rfl d_Mo_fillsMay_96 ?_
              refine g_imul (pc := 99) hC d_Mo_fillsMay_99 ?_
              refine g_iload_n (pc := 100) hC (i := 2) (x := x2) rfl rfl d_Mo_fillsMay_100 ?_
              refine g_iadd (pc := 101) hC d_Mo_fillsMay_101 ?_
              refine g_iald (pc := 102) hC (ar_Mo_31 hV) d_Mo_fillsMay_102 h (fun h => ?_)
              refine g_aload_n (pc := 103) hC (i := 0) (x := (V.2.2.1 0 0)) rfl rfl d_Mo_fillsMay_103 ?_
              refine g_getA (pc := 104) hC fo_Mo_70 (ob_Mo hV) rfl d_Mo_fillsMay_104 ?_
              refine g_bipush (pc := 107) hC kb_8 d_Mo_fillsMay_107 ?_
              refine g_aload_n (pc := 109) hC (i := 0) (x := (V.2.2.1 0 0)) rfl rfl d_Mo_fillsMay_109 ?_
              refine g_getI (pc := 110) hC fo_Mo_245 (ob_Mo hV) rfl d_Mo_fillsMay_110 ?_
              refine g_imul (pc := 113) hC d_Mo_fillsMay_113 ?_
              refine g_aload_n (pc := 114) hC (i := 0) (x := (V.2.2.1 0 0)) rfl rfl d_Mo_fillsMay_114 ?_
              refine g_getA (pc := 115) hC fo_Mo_146 (ob_Mo hV) rfl d_Mo_fillsMay_115 ?_
              refine g_iload_n (pc := 118) hC (i := 1) (x := x1) rfl rfl d_Mo_fillsMay_118 ?_
              refine g_iald (pc := 119) hC (ar_Mo_66 hV) d_Mo_fillsMay_119 h (fun h => ?_)
              refine g_iadd (pc := 120) hC d_Mo_fillsMay_120 ?_
              refine g_iald (pc := 121) hC (ar_Mo_31 hV) d_Mo_fillsMay_121 h (fun h => ?_)
              refine g_icmp_le (pc := 122) hC (tgt := 132) (by decide) d_Mo_fillsMay_122 h (fun h => ?_) (fun h => ?_)
              · refine s_iinc (pc := 132) hC (i := 2) (x := x2) (v := x2 + 1) rfl (by rw [kc_1]) (by decide) d_Mo_fillsMay_132 (lv2 := [some (.ref (V.2.2.1 0 0)), some (.int x1), some (.int (x2 + 1))]) rfl ?_
                refine g_goto (pc := 135) hC (tgt := 29) (by decide) d_Mo_fillsMay_135 ?_
                exact hk29 x1 (x2 + 1) S h
              · exact w_Mo_fillsMay_b125 hV hC k7 hk7 k29 hk29 x1 x2 S h
theorem w_Mo_fillsMay_l29 {X : CX} {V : WV} (hV : IsM V) {z : Mem} (hC : Ck X V bc_Mo_fillsMay 3 "SecretWellsModel" none 4 89) (k7 : Int32 → Mem → Option (Mem)) (hk7 : ∀ (x1 : Int32) (S : Mem), k7 x1 S = some z → G X V 3 (QV X V z) 7 [some (.ref (V.2.2.1 0 0)), some (.int x1), none] [] S) : ∀ (n : Nat) (x1 : Int32) (x2 : Int32) (S : Mem), f_Mo_fillsMay_l29  k7 n x1 x2 S = some z → G X V 3 (QV X V z) 29 [some (.ref (V.2.2.1 0 0)), some (.int x1), some (.int x2)] [] S := by
  intro n
  induction n with
  | zero =>
    intro x1 x2 S h
    have h : (none : Option (Mem)) = some z := h
    cases h
  | succ n ih =>
    intro x1 x2 S h
    exact w_Mo_fillsMay_b29 hV hC k7 hk7 (f_Mo_fillsMay_l29  k7 n) ih x1 x2 S h
set_option maxRecDepth 20000 in
theorem w_Mo_fillsMay_b7 {X : CX} {V : WV} (hV : IsM V) {z : Mem} (hC : Ck X V bc_Mo_fillsMay 3 "SecretWellsModel" none 4 89) (k7 : Int32 → Mem → Option (Mem)) (hk7 : ∀ (x1 : Int32) (S : Mem), k7 x1 S = some z → G X V 3 (QV X V z) 7 [some (.ref (V.2.2.1 0 0)), some (.int x1), none] [] S) (x1 : Int32) (S : Mem) (h : f_Mo_fillsMay_b7  k7 x1 S = some z) : G X V 3 (QV X V z) 7 [some (.ref (V.2.2.1 0 0)), some (.int x1), none] [] S := by
  unfold f_Mo_fillsMay_b7 at h
  refine g_iload_n (pc := 7) hC (i := 1) (x := x1) rfl rfl d_Mo_fillsMay_7 ?_
  refine g_aload_n (pc := 8) hC (i := 0) (x := (V.2.2.1 0 0)) rfl rfl d_Mo_fillsMay_8 ?_
  refine g_getA (pc := 9) hC fo_Mo_58 (ob_Mo hV) rfl d_Mo_fillsMay_9 ?_
  refine g_aload_n (pc := 12) hC (i := 0) (x := (V.2.2.1 0 0)) rfl rfl d_Mo_fillsMay_12 ?_
  refine g_getI (pc := 13) hC fo_Mo_245 (ob_Mo hV) rfl d_Mo_fillsMay_13 ?_
  refine g_iald (pc := 16) hC (ar_Mo_27 hV) d_Mo_fillsMay_16 h (fun h => ?_)
  refine g_icmp_ge (pc := 17) hC (tgt := 165) (by decide) d_Mo_fillsMay_17 h (fun h => ?_) (fun h => ?_)
  · exact g_vW (pc := 165) hC d_Mo_fillsMay_165 h
  · refine g_aload_n (pc := 20) hC (i := 0) (x := (V.2.2.1 0 0)) rfl rfl d_Mo_fillsMay_20 ?_
    refine g_getA (pc := 21) hC fo_Mo_146 (ob_Mo hV) rfl d_Mo_fillsMay_21 ?_
    refine g_iload_n (pc := 24) hC (i := 1) (x := x1) rfl rfl d_Mo_fillsMay_24 ?_
    refine g_iconst (pc := 25) hC kc_m1 d_Mo_fillsMay_25 ?_
    refine g_iast (pc := 26) hC (ar_Mo_66 hV) d_Mo_fillsMay_26 h (fun h => ?_)
    refine g_letS h (fun S26 h => ?_)
    refine g_iconst (pc := 27) hC kc_0 d_Mo_fillsMay_27 ?_
    refine s_istore_n (pc := 28) hC (i := 2) rfl (by decide) d_Mo_fillsMay_28 (lv2 := [some (.ref (V.2.2.1 0 0)), some (.int x1), some (.int 0)]) rfl ?_
    exact w_Mo_fillsMay_l29 hV hC k7 hk7 5000 x1 0 S26 h
theorem w_Mo_fillsMay_l7 {X : CX} {V : WV} (hV : IsM V) {z : Mem} (hC : Ck X V bc_Mo_fillsMay 3 "SecretWellsModel" none 4 89) : ∀ (n : Nat) (x1 : Int32) (S : Mem), f_Mo_fillsMay_l7  n x1 S = some z → G X V 3 (QV X V z) 7 [some (.ref (V.2.2.1 0 0)), some (.int x1), none] [] S := by
  intro n
  induction n with
  | zero =>
    intro x1 S h
    have h : (none : Option (Mem)) = some z := h
    cases h
  | succ n ih =>
    intro x1 S h
    exact w_Mo_fillsMay_b7 hV hC (f_Mo_fillsMay_l7  n) ih x1 S h
set_option maxRecDepth 20000 in
theorem w_Mo_fillsMay_b0 {X : CX} {V : WV} (hV : IsM V) {z : Mem} (hC : Ck X V bc_Mo_fillsMay 3 "SecretWellsModel" none 4 89) (S : Mem) (h : f_Mo_fillsMay_b0  S = some z) : G X V 3 (QV X V z) 0 [some (.ref (V.2.2.1 0 0)), none, none] [] S := by
  unfold f_Mo_fillsMay_b0 at h
  refine g_aload_n (pc := 0) hC (i := 0) (x := (V.2.2.1 0 0)) rfl rfl d_Mo_fillsMay_0 ?_
  refine g_iconst (pc := 1) hC kc_0 d_Mo_fillsMay_1 ?_
  refine g_putI (pc := 2) hC po_Mo_474 (ob_Mo hV) rfl rfl rfl d_Mo_fillsMay_2 ?_
  refine g_letS h (fun S2 h => ?_)
  refine g_iconst (pc := 5) hC kc_0 d_Mo_fillsMay_5 ?_
  refine s_istore_n (pc := 6) hC (i := 1) rfl (by decide) d_Mo_fillsMay_6 (lv2 := [some (.ref (V.2.2.1 0 0)), some (.int 0), none]) rfl ?_
  exact w_Mo_fillsMay_l7 hV hC 5000 0 S2 h
theorem c_Mo_fillsMay {V : WV} {l : Launch} (hV : IsM V) {S : Mem} {z : Mem} (h : f_Mo_fillsMay S = some z) : CV V l y_Mo_fillsMay bc_Mo_fillsMay 3 none 4 89 [.ref (V.2.2.1 0 0)] S z :=
  ct_v rfl (IsM.ok hV) (Nat.le_of_ble_eq_true rfl) (fun _ _ hC => w_Mo_fillsMay_b0 hV hC S h)
