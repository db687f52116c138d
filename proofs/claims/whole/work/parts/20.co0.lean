/-! methods of the bytecode as functions, and the machine's walks of them. By program (wip/whole/gen/make.py): Dy_look, Lw_joined, Lw_value, Dy_fillsNow, St_isAlive, Lw_isTold, Dy_drinksNow, St_knowers, Tx_isLie, St_share, St_measure, Dy_drink, St_isCut, Dy_tellsNow, Dy_stirred, Dy_lot, Dy_talk, St_settle, Dy_pass, Lw_begin, Lw_put, Lw_be, Lw_await, Lw_rank -/
def f_Dy_look_b0 (st : Nat) (x2 : Int32) (S : Mem) : Option (Mem) :=
  gIn 0 8 (letS (sA S 6 0 0 (S.1 st 0)) (fun S9 =>
  gIn x2 4 (
  gIn 1 8 (letS (sA S9 6 0 1 (S9.2.1 st 9 x2.toNatClampNeg)) (fun S21 =>
  gIn x2 4 (
  gIn 2 8 (letS (sA S21 6 0 2 (S21.2.1 st 4 x2.toNatClampNeg)) (fun S33 =>
  gIn x2 4 (
  Option.bind (f_JInt_bitCount (S33.2.1 st 11 x2.toNatClampNeg)) (fun q46 =>
  gIn 6 8 (letS (sA S33 6 0 6 q46) (fun S49 =>
  some S49))))))))))))
def f_Dy_look (st : Nat) (x2 : Int32) (S : Mem) : Option (Mem) := f_Dy_look_b0 st x2 S
theorem d_Dy_look_0 : decode bc_Dy_look 0 = .ok (.aload_n 0, 1) := by decide +kernel
theorem d_Dy_look_1 : decode bc_Dy_look 1 = .ok (.getfield 9, 3) := by decide +kernel
theorem d_Dy_look_4 : decode bc_Dy_look 4 = .ok (.iconst 0, 1) := by decide +kernel
theorem d_Dy_look_5 : decode bc_Dy_look 5 = .ok (.aload_n 1, 1) := by decide +kernel
theorem d_Dy_look_6 : decode bc_Dy_look 6 = .ok (.getfield 73, 3) := by decide +kernel
theorem d_Dy_look_9 : decode bc_Dy_look 9 = .ok (.iastore, 1) := by decide +kernel
theorem d_Dy_look_10 : decode bc_Dy_look 10 = .ok (.aload_n 0, 1) := by decide +kernel
theorem d_Dy_look_11 : decode bc_Dy_look 11 = .ok (.getfield 9, 3) := by decide +kernel
theorem d_Dy_look_14 : decode bc_Dy_look 14 = .ok (.iconst 1, 1) := by decide +kernel
theorem d_Dy_look_15 : decode bc_Dy_look 15 = .ok (.aload_n 1, 1) := by decide +kernel
theorem d_Dy_look_16 : decode bc_Dy_look 16 = .ok (.getfield 33, 3) := by decide +kernel
theorem d_Dy_look_19 : decode bc_Dy_look 19 = .ok (.iload_n 2, 1) := by decide +kernel
theorem d_Dy_look_20 : decode bc_Dy_look 20 = .ok (.iaload, 1) := by decide +kernel
theorem d_Dy_look_21 : decode bc_Dy_look 21 = .ok (.iastore, 1) := by decide +kernel
theorem d_Dy_look_22 : decode bc_Dy_look 22 = .ok (.aload_n 0, 1) := by decide +kernel
theorem d_Dy_look_23 : decode bc_Dy_look 23 = .ok (.getfield 9, 3) := by decide +kernel
theorem d_Dy_look_26 : decode bc_Dy_look 26 = .ok (.iconst 2, 1) := by decide +kernel
theorem d_Dy_look_27 : decode bc_Dy_look 27 = .ok (.aload_n 1, 1) := by decide +kernel
theorem d_Dy_look_28 : decode bc_Dy_look 28 = .ok (.getfield 28, 3) := by decide +kernel
theorem d_Dy_look_31 : decode bc_Dy_look 31 = .ok (.iload_n 2, 1) := by decide +kernel
theorem d_Dy_look_32 : decode bc_Dy_look 32 = .ok (.iaload, 1) := by decide +kernel
theorem d_Dy_look_33 : decode bc_Dy_look 33 = .ok (.iastore, 1) := by decide +kernel
theorem d_Dy_look_34 : decode bc_Dy_look 34 = .ok (.aload_n 0, 1) := by decide +kernel
theorem d_Dy_look_35 : decode bc_Dy_look 35 = .ok (.getfield 9, 3) := by decide +kernel
theorem d_Dy_look_38 : decode bc_Dy_look 38 = .ok (.bipush 6, 2) := by decide +kernel
theorem d_Dy_look_40 : decode bc_Dy_look 40 = .ok (.aload_n 1, 1) := by decide +kernel
theorem d_Dy_look_41 : decode bc_Dy_look 41 = .ok (.getfield 152, 3) := by decide +kernel
theorem d_Dy_look_44 : decode bc_Dy_look 44 = .ok (.iload_n 2, 1) := by decide +kernel
theorem d_Dy_look_45 : decode bc_Dy_look 45 = .ok (.iaload, 1) := by decide +kernel
theorem d_Dy_look_46 : decode bc_Dy_look 46 = .ok (.invokestatic 116, 3) := by decide +kernel
theorem d_Dy_look_49 : decode bc_Dy_look 49 = .ok (.iastore, 1) := by decide +kernel
theorem d_Dy_look_50 : decode bc_Dy_look 50 = .ok (.return_, 1) := by decide +kernel
set_option maxRecDepth 20000 in
theorem w_Dy_look_b0 {X : CX} {V : WV} {st : Nat} (hV : IsC V) (hst : isSt st) {z : Mem} (hC : Ck X V bc_Dy_look 3 "SecretWells$Days" none 1 20) (x2 : Int32) (S : Mem) (h : f_Dy_look_b0 st x2 S = some z) : G X V 3 (QV X V z) 0 [some (.ref (V.2.2.1 6 0)), some (.ref (V.2.2.1 st 0)), some (.int x2)] [] S := by
  unfold f_Dy_look_b0 at h
  refine g_aload_n (pc := 0) hC (i := 0) (x := (V.2.2.1 6 0)) rfl rfl d_Dy_look_0 ?_
  refine g_getA (pc := 1) hC fo_Dy_9 (ob_Dy hV) rfl d_Dy_look_1 ?_
  refine g_iconst (pc := 4) hC kc_0 d_Dy_look_4 ?_
  refine g_aload_n (pc := 5) hC (i := 1) (x := (V.2.2.1 st 0)) rfl rfl d_Dy_look_5 ?_
  refine g_getI (pc := 6) hC fo_Dy_73 (ob_St hV hst) rfl d_Dy_look_6 ?_
  refine g_iast (pc := 9) hC (ar_Dy_0 hV) d_Dy_look_9 h (fun h => ?_)
  refine g_letS h (fun S9 h => ?_)
  refine g_aload_n (pc := 10) hC (i := 0) (x := (V.2.2.1 6 0)) rfl rfl d_Dy_look_10 ?_
  refine g_getA (pc := 11) hC fo_Dy_9 (ob_Dy hV) rfl d_Dy_look_11 ?_
  refine g_iconst (pc := 14) hC kc_1 d_Dy_look_14 ?_
  refine g_aload_n (pc := 15) hC (i := 1) (x := (V.2.2.1 st 0)) rfl rfl d_Dy_look_15 ?_
  refine g_getA (pc := 16) hC fo_Dy_33 (ob_St hV hst) rfl d_Dy_look_16 ?_
  refine g_iload_n (pc := 19) hC (i := 2) (x := x2) rfl rfl d_Dy_look_19 ?_
  refine g_iald (pc := 20) hC (ar_St_9 hV hst) d_Dy_look_20 h (fun h => ?_)
  refine g_iast (pc := 21) hC (ar_Dy_0 hV) d_Dy_look_21 h (fun h => ?_)
  refine g_letS h (fun S21 h => ?_)
  refine g_aload_n (pc := 22) hC (i := 0) (x := (V.2.2.1 6 0)) rfl rfl d_Dy_look_22 ?_
  refine g_getA (pc := 23) hC fo_Dy_9 (ob_Dy hV) rfl d_Dy_look_23 ?_
  refine g_iconst (pc := 26) hC kc_2 d_Dy_look_26 ?_
  refine g_aload_n (pc := 27) hC (i := 1) (x := (V.2.2.1 st 0)) rfl rfl d_Dy_look_27 ?_
  refine g_getA (pc := 28) hC fo_Dy_28 (ob_St hV hst) rfl d_Dy_look_28 ?_
  refine g_iload_n (pc := 31) hC (i := 2) (x := x2) rfl rfl d_Dy_look_31 ?_
  refine g_iald (pc := 32) hC (ar_St_4 hV hst) d_Dy_look_32 h (fun h => ?_)
  refine g_iast (pc := 33) hC (ar_Dy_0 hV) d_Dy_look_33 h (fun h => ?_)
  refine g_letS h (fun S33 h => ?_)
  refine g_aload_n (pc := 34) hC (i := 0) (x := (V.2.2.1 6 0)) rfl rfl d_Dy_look_34 ?_
  refine g_getA (pc := 35) hC fo_Dy_9 (ob_Dy hV) rfl d_Dy_look_35 ?_
  refine g_bipush (pc := 38) hC kb_6 d_Dy_look_38 ?_
  refine g_aload_n (pc := 40) hC (i := 1) (x := (V.2.2.1 st 0)) rfl rfl d_Dy_look_40 ?_
  refine g_getA (pc := 41) hC fo_Dy_152 (ob_St hV hst) rfl d_Dy_look_41 ?_
  refine g_iload_n (pc := 44) hC (i := 2) (x := x2) rfl rfl d_Dy_look_44 ?_
  refine g_iald (pc := 45) hC (ar_St_11 hV hst) d_Dy_look_45 h (fun h => ?_)
  obtain ⟨q46, hq46, h⟩ := Option.bind_eq_some_iff.mp h
  refine g_si (pc := 46) hC (As := [.int (S33.2.1 st 11 x2.toNatClampNeg)]) (st := [.int 6, .ref (V.2.2.1 6 (0 + 1))]) mt_JInt_bitCount lk_Dy_116 (Nat.le_of_ble_eq_true rfl) ⟨Nat.le_of_ble_eq_true rfl, Nat.le_of_ble_eq_true rfl⟩ rfl d_Dy_look_46 (c_JInt_bitCount (IsC.ok hV) hq46) ?_
  refine g_iast (pc := 49) hC (ar_Dy_0 hV) d_Dy_look_49 h (fun h => ?_)
  refine g_letS h (fun S49 h => ?_)
  exact g_vW (pc := 50) hC d_Dy_look_50 h
theorem c_Dy_look {V : WV} {l : Launch} (hV : IsC V) {st : Nat} (hst : isSt st) {x2 : Int32} {S : Mem} {z : Mem} (h : f_Dy_look st x2 S = some z) : CV V l y_Dy_look bc_Dy_look 3 none 1 20 [.ref (V.2.2.1 6 0), .ref (V.2.2.1 st 0), .int x2] S z :=
  ct_v rfl (IsC.ok hV) (Nat.le_of_ble_eq_true rfl) (fun _ _ hC => w_Dy_look_b0 hV hst hC x2 S h)
def f_Lw_joined_b0 (x0 : Int32) (x1 : Int32) (x2 : Int32) : Option (Int32) :=
  if x0 = 42 then
    some (x1 * x2)
  else if x0 = 43 then
    some (x1 + x2)
  else if x0 = 45 then
    some (x1 - x2)
  else 
    if x2 = 0 then
      some 0
    else
      gNz x2 (
      some (x1 / x2))
def f_Lw_joined (x0 : Int32) (x1 : Int32) (x2 : Int32) : Option (Int32) := f_Lw_joined_b0  x0 x1 x2
theorem d_Lw_joined_0 : decode bc_Lw_joined 0 = .ok (.iload_n 0, 1) := by decide +kernel
theorem d_Lw_joined_1 : decode bc_Lw_joined 1 = .ok (.tableswitch 43 42 45 #[39, 31, 43, 35], 31) := by decide +kernel
theorem d_Lw_joined_32 : decode bc_Lw_joined 32 = .ok (.iload_n 1, 1) := by decide +kernel
theorem d_Lw_joined_33 : decode bc_Lw_joined 33 = .ok (.iload_n 2, 1) := by decide +kernel
theorem d_Lw_joined_34 : decode bc_Lw_joined 34 = .ok (.iadd, 1) := by decide +kernel
theorem d_Lw_joined_35 : decode bc_Lw_joined 35 = .ok (.ireturn, 1) := by decide +kernel
theorem d_Lw_joined_36 : decode bc_Lw_joined 36 = .ok (.iload_n 1, 1) := by decide +kernel
theorem d_Lw_joined_37 : decode bc_Lw_joined 37 = .ok (.iload_n 2, 1) := by decide +kernel
theorem d_Lw_joined_38 : decode bc_Lw_joined 38 = .ok (.isub, 1) := by decide +kernel
theorem d_Lw_joined_39 : decode bc_Lw_joined 39 = .ok (.ireturn, 1) := by decide +kernel
theorem d_Lw_joined_40 : decode bc_Lw_joined 40 = .ok (.iload_n 1, 1) := by decide +kernel
theorem d_Lw_joined_41 : decode bc_Lw_joined 41 = .ok (.iload_n 2, 1) := by decide +kernel
theorem d_Lw_joined_42 : decode bc_Lw_joined 42 = .ok (.imul, 1) := by decide +kernel
theorem d_Lw_joined_43 : decode bc_Lw_joined 43 = .ok (.ireturn, 1) := by decide +kernel
theorem d_Lw_joined_44 : decode bc_Lw_joined 44 = .ok (.iload_n 2, 1) := by decide +kernel
theorem d_Lw_joined_45 : decode bc_Lw_joined 45 = .ok (.ifCond .ne 7, 3) := by decide +kernel
theorem d_Lw_joined_48 : decode bc_Lw_joined 48 = .ok (.iconst 0, 1) := by decide +kernel
theorem d_Lw_joined_49 : decode bc_Lw_joined 49 = .ok (.goto 6, 3) := by decide +kernel
theorem d_Lw_joined_52 : decode bc_Lw_joined 52 = .ok (.iload_n 1, 1) := by decide +kernel
theorem d_Lw_joined_53 : decode bc_Lw_joined 53 = .ok (.iload_n 2, 1) := by decide +kernel
theorem d_Lw_joined_54 : decode bc_Lw_joined 54 = .ok (.idiv, 1) := by decide +kernel
theorem d_Lw_joined_55 : decode bc_Lw_joined 55 = .ok (.ireturn, 1) := by decide +kernel
set_option maxRecDepth 20000 in
theorem w_Lw_joined_b0 {X : CX} {V : WV} (hVO : VOk V) {S : Mem} {z : Int32} (hC : Ck X V bc_Lw_joined 3 "SecretWells$Law" (some .int) 0 0) (x0 : Int32) (x1 : Int32) (x2 : Int32) (h : f_Lw_joined_b0  x0 x1 x2 = some z) : G X V 3 (QI X V z S) 0 [some (.int x0), some (.int x1), some (.int x2)] [] S := by
  unfold f_Lw_joined_b0 at h
  refine g_iload_n (pc := 0) hC (i := 0) (x := x0) rfl rfl d_Lw_joined_0 ?_
  by_cases hs1_42 : x0 = 42
  · rw [if_pos hs1_42] at h
    refine g_table (pc := 1) hC (tgt := 40) d_Lw_joined_1 rfl (by rw [hs1_42]; decide) ?_
    refine g_iload_n (pc := 40) hC (i := 1) (x := x1) rfl rfl d_Lw_joined_40 ?_
    refine g_iload_n (pc := 41) hC (i := 2) (x := x2) rfl rfl d_Lw_joined_41 ?_
    refine g_imul (pc := 42) hC d_Lw_joined_42 ?_
    exact g_iN (pc := 43) hC rfl d_Lw_joined_43 h
  rw [if_neg hs1_42] at h
  by_cases hs1_43 : x0 = 43
  · rw [if_pos hs1_43] at h
    refine g_table (pc := 1) hC (tgt := 32) d_Lw_joined_1 rfl (by rw [hs1_43]; decide) ?_
    refine g_iload_n (pc := 32) hC (i := 1) (x := x1) rfl rfl d_Lw_joined_32 ?_
    refine g_iload_n (pc := 33) hC (i := 2) (x := x2) rfl rfl d_Lw_joined_33 ?_
    refine g_iadd (pc := 34) hC d_Lw_joined_34 ?_
    exact g_iN (pc := 35) hC rfl d_Lw_joined_35 h
  rw [if_neg hs1_43] at h
  by_cases hs1_45 : x0 = 45
  · rw [if_pos hs1_45] at h
    refine g_table (pc := 1) hC (tgt := 36) d_Lw_joined_1 rfl (by rw [hs1_45]; decide) ?_
    refine g_iload_n (pc := 36) hC (i := 1) (x := x1) rfl rfl d_Lw_joined_36 ?_
    refine g_iload_n (pc := 37) hC (i := 2) (x := x2) rfl rfl d_Lw_joined_37 ?_
    refine g_isub (pc := 38) hC d_Lw_joined_38 ?_
    exact g_iN (pc := 39) hC rfl d_Lw_joined_39 h
  rw [if_neg hs1_45] at h
  refine g_table (pc := 1) hC (tgt := 44) d_Lw_joined_1 rfl ((sw_else [(42 : Int32), (43 : Int32), (45 : Int32)] (by intro v hv; simp only [List.mem_cons, List.not_mem_nil, or_false] at hv; rcases hv with rfl | rfl | rfl <;> assumption) (by decide)).trans (by decide)) ?_
  refine g_iload_n (pc := 44) hC (i := 2) (x := x2) rfl rfl d_Lw_joined_44 ?_
  refine g_if_ne (pc := 45) hC (tgt := 52) (by decide) d_Lw_joined_45 h (fun h => ?_) (fun h => ?_)
  · refine g_iload_n (pc := 52) hC (i := 1) (x := x1) rfl rfl d_Lw_joined_52 ?_
    refine g_iload_n (pc := 53) hC (i := 2) (x := x2) rfl rfl d_Lw_joined_53 ?_
    refine g_idiv (pc := 54) hC d_Lw_joined_54 h (fun h => ?_)
    exact g_iN (pc := 55) hC rfl d_Lw_joined_55 h
  · refine g_iconst (pc := 48) hC kc_0 d_Lw_joined_48 ?_
    refine g_goto (pc := 49) hC (tgt := 55) (by decide) d_Lw_joined_49 ?_
    exact g_iN (pc := 55) hC rfl d_Lw_joined_55 h
theorem c_Lw_joined {V : WV} {l : Launch} (hVO : VOk V) {x0 : Int32} {x1 : Int32} {x2 : Int32} {S : Mem} {z : Int32} (h : f_Lw_joined x0 x1 x2 = some z) : CI V l y_Lw_joined bc_Lw_joined 3 (some .int) 0 0 [.int x0, .int x1, .int x2] S z S :=
  ct_i rfl hVO (Nat.le_of_ble_eq_true rfl) (fun _ _ hC => w_Lw_joined_b0 hVO hC x0 x1 x2 h)
def f_Lw_value_b103 (lw : Nat) (k5 : Int32 → Int32 → Int32 → Mem → Option (Int32 × Mem)) (x2 : Int32) (x3 : Int32) (x4 : Int32) (s0 : Int32) (s1 : Int32) (S : Mem) : Option (Int32 × Mem) :=
  gIn s1 64 (letS (sA S lw 1 s1 s0) (fun S103 =>
  k5 x2 (x3 + 1) (x4 + 1) S103))
def f_Lw_value_b84 (lw : Nat) (k5 : Int32 → Int32 → Int32 → Mem → Option (Int32 × Mem)) (x2 : Int32) (x3 : Int32) (x4 : Int32) (x5 : Int32) (x6 : Int32) (S : Mem) : Option (Int32 × Mem) :=
  if x5 = 0 then
    f_Lw_value_b103 lw k5 x2 x3 x4 x6 x3 S
  else
    gIn x6 8 (
    f_Lw_value_b103 lw k5 x2 x3 x4 (S.2.1 6 0 x6.toNatClampNeg) x3 S)
def f_Lw_value_b218 (lw : Nat) (k5 : Int32 → Int32 → Int32 → Mem → Option (Int32 × Mem)) (x2 : Int32) (x3 : Int32) (x4 : Int32) (x5 : Int32) (x7 : Int32) (x8 : Int32) (S : Mem) : Option (Int32 × Mem) :=
  Option.bind (f_Lw_joined x5 x8 x7) (fun q234 =>
  gIn ((x3 + (-1)) - 1) 64 (letS (sA S lw 1 ((x3 + (-1)) - 1) q234) (fun S237 =>
  k5 x2 (x3 + (-1)) (x4 + 1) S237)))
def f_Lw_value_b5 (lw : Nat) (k5 : Int32 → Int32 → Int32 → Mem → Option (Int32 × Mem)) (x2 : Int32) (x3 : Int32) (x4 : Int32) (S : Mem) : Option (Int32 × Mem) :=
  if (S.1 lw 2) ≤ x4 then
    some (0, S)
  else
    if (Int32.ofNat 400) ≤ x4 then
      some (0, S)
    else
      gIn x4 400 (
      letS ((S.2.1 lw 0 x4.toNatClampNeg) &&& 255) (fun y35 =>
      gIn x4 400 (
      letS ((S.2.1 lw 0 x4.toNatClampNeg) >>> (8 &&& 31)) (fun y47 =>
      if 1 < y35 then
        if y35 = 3 then
          if 1 ≤ x3 then
            gIn (x3 - 1) 64 (
            some (jMmax 0 (jMmin x2 (S.2.1 lw 1 (x3 - 1).toNatClampNeg)), S))
          else
            some (0, S)
        else
          if 2 ≤ x3 then
            gIn (x3 - 1) 64 (
            letS (S.2.1 lw 1 (x3 - 1).toNatClampNeg) (fun y157 =>
            gIn (x3 - 2) 64 (
            letS (S.2.1 lw 1 (x3 - 2).toNatClampNeg) (fun y167 =>
            if y35 = 2 then
              if y157 ≤ y167 then
                letS (jMmax x4 (y47 - 1)) (fun y199 =>
                k5 x2 (x3 + (-2)) (y199 + 1) S)
              else
                k5 x2 (x3 + (-2)) (x4 + 1) S
            else
              if y35 = 47 then
                if y157 = 0 then
                  some (0, S)
                else
                  f_Lw_value_b218 lw k5 x2 x3 x4 y35 y157 y167 S
              else
                f_Lw_value_b218 lw k5 x2 x3 x4 y35 y157 y167 S))))
          else
            some (0, S)
      else
        if (Int32.ofNat 64) ≤ x3 then
          some (0, S)
        else
          if y35 = 1 then
            if y47 < 0 then
              some (0, S)
            else
              if y47 < (Int32.ofNat 8) then
                f_Lw_value_b84 lw k5 x2 x3 x4 y35 y47 S
              else
                some (0, S)
          else
            f_Lw_value_b84 lw k5 x2 x3 x4 y35 y47 S))))
def f_Lw_value_l5 (lw : Nat) : Nat → Int32 → Int32 → Int32 → Mem → Option (Int32 × Mem)
  | 0 => fun _ _ _ _ => none
  | n + 1 => f_Lw_value_b5 lw (f_Lw_value_l5 lw n)
def f_Lw_value_b0 (lw : Nat) (x2 : Int32) (S : Mem) : Option (Int32 × Mem) :=
  f_Lw_value_l5 lw 5000 x2 0 0 S
def f_Lw_value (lw : Nat) (x2 : Int32) (S : Mem) : Option (Int32 × Mem) := f_Lw_value_b0 lw x2 S
theorem d_Lw_value_0 : decode bc_Lw_value 0 = .ok (.iconst 0, 1) := by decide +kernel
theorem d_Lw_value_1 : decode bc_Lw_value 1 = .ok (.istore_n 3, 1) := by decide +kernel
theorem d_Lw_value_2 : decode bc_Lw_value 2 = .ok (.iconst 0, 1) := by decide +kernel
theorem d_Lw_value_3 : decode bc_Lw_value 3 = .ok (.istore 4, 2) := by decide +kernel
theorem d_Lw_value_5 : decode bc_Lw_value 5 = .ok (.iload 4, 2) := by decide +kernel
theorem d_Lw_value_7 : decode bc_Lw_value 7 = .ok (.aload_n 0, 1) := by decide +kernel
theorem d_Lw_value_8 : decode bc_Lw_value 8 = .ok (.getfield 18, 3) := by decide +kernel
theorem d_Lw_value_11 : decode bc_Lw_value 11 = .ok (.if_icmp .ge 233, 3) := by decide +kernel
theorem d_Lw_value_14 : decode bc_Lw_value 14 = .ok (.iload 4, 2) := by decide +kernel
theorem d_Lw_value_16 : decode bc_Lw_value 16 = .ok (.aload_n 0, 1) := by decide +kernel
theorem d_Lw_value_17 : decode bc_Lw_value 17 = .ok (.getfield 9, 3) := by decide +kernel
theorem d_Lw_value_20 : decode bc_Lw_value 20 = .ok (.arraylength, 1) := by decide +kernel
theorem d_Lw_value_21 : decode bc_Lw_value 21 = .ok (.if_icmp .ge 223, 3) := by decide +kernel
theorem d_Lw_value_24 : decode bc_Lw_value 24 = .ok (.aload_n 0, 1) := by decide +kernel
theorem d_Lw_value_25 : decode bc_Lw_value 25 = .ok (.getfield 9, 3) := by decide +kernel
theorem d_Lw_value_28 : decode bc_Lw_value 28 = .ok (.iload 4, 2) := by decide +kernel
theorem d_Lw_value_30 : decode bc_Lw_value 30 = .ok (.iaload, 1) := by decide +kernel
theorem d_Lw_value_31 : decode bc_Lw_value 31 = .ok (.sipush 255, 3) := by decide +kernel
theorem d_Lw_value_34 : decode bc_Lw_value 34 = .ok (.iand, 1) := by decide +kernel
theorem d_Lw_value_35 : decode bc_Lw_value 35 = .ok (.istore 5, 2) := by decide +kernel
theorem d_Lw_value_37 : decode bc_Lw_value 37 = .ok (.aload_n 0, 1) := by decide +kernel
theorem d_Lw_value_38 : decode bc_Lw_value 38 = .ok (.getfield 9, 3) := by decide +kernel
theorem d_Lw_value_41 : decode bc_Lw_value 41 = .ok (.iload 4, 2) := by decide +kernel
theorem d_Lw_value_43 : decode bc_Lw_value 43 = .ok (.iaload, 1) := by decide +kernel
theorem d_Lw_value_44 : decode bc_Lw_value 44 = .ok (.bipush 8, 2) := by decide +kernel
theorem d_Lw_value_46 : decode bc_Lw_value 46 = .ok (.ishr, 1) := by decide +kernel
theorem d_Lw_value_47 : decode bc_Lw_value 47 = .ok (.istore 6, 2) := by decide +kernel
theorem d_Lw_value_49 : decode bc_Lw_value 49 = .ok (.iload 5, 2) := by decide +kernel
theorem d_Lw_value_51 : decode bc_Lw_value 51 = .ok (.iconst 1, 1) := by decide +kernel
theorem d_Lw_value_52 : decode bc_Lw_value 52 = .ok (.if_icmp .gt 58, 3) := by decide +kernel
theorem d_Lw_value_55 : decode bc_Lw_value 55 = .ok (.iload_n 3, 1) := by decide +kernel
theorem d_Lw_value_56 : decode bc_Lw_value 56 = .ok (.aload_n 0, 1) := by decide +kernel
theorem d_Lw_value_57 : decode bc_Lw_value 57 = .ok (.getfield 15, 3) := by decide +kernel
theorem d_Lw_value_60 : decode bc_Lw_value 60 = .ok (.arraylength, 1) := by decide +kernel
theorem d_Lw_value_61 : decode bc_Lw_value 61 = .ok (.if_icmp .ge 21, 3) := by decide +kernel
theorem d_Lw_value_64 : decode bc_Lw_value 64 = .ok (.iload 5, 2) := by decide +kernel
theorem d_Lw_value_66 : decode bc_Lw_value 66 = .ok (.iconst 1, 1) := by decide +kernel
theorem d_Lw_value_67 : decode bc_Lw_value 67 = .ok (.if_icmp .ne 17, 3) := by decide +kernel
theorem d_Lw_value_70 : decode bc_Lw_value 70 = .ok (.iload 6, 2) := by decide +kernel
theorem d_Lw_value_72 : decode bc_Lw_value 72 = .ok (.ifCond .lt 10, 3) := by decide +kernel
theorem d_Lw_value_75 : decode bc_Lw_value 75 = .ok (.iload 6, 2) := by decide +kernel
theorem d_Lw_value_77 : decode bc_Lw_value 77 = .ok (.aload_n 1, 1) := by decide +kernel
theorem d_Lw_value_78 : decode bc_Lw_value 78 = .ok (.arraylength, 1) := by decide +kernel
theorem d_Lw_value_79 : decode bc_Lw_value 79 = .ok (.if_icmp .lt 5, 3) := by decide +kernel
theorem d_Lw_value_82 : decode bc_Lw_value 82 = .ok (.iconst 0, 1) := by decide +kernel
theorem d_Lw_value_83 : decode bc_Lw_value 83 = .ok (.ireturn, 1) := by decide +kernel
theorem d_Lw_value_84 : decode bc_Lw_value 84 = .ok (.aload_n 0, 1) := by decide +kernel
theorem d_Lw_value_85 : decode bc_Lw_value 85 = .ok (.getfield 15, 3) := by decide +kernel
theorem d_Lw_value_88 : decode bc_Lw_value 88 = .ok (.iload_n 3, 1) := by decide +kernel
theorem d_Lw_value_89 : decode bc_Lw_value 89 = .ok (.iload 5, 2) := by decide +kernel
theorem d_Lw_value_91 : decode bc_Lw_value 91 = .ok (.ifCond .ne 8, 3) := by decide +kernel
theorem d_Lw_value_94 : decode bc_Lw_value 94 = .ok (.iload 6, 2) := by decide +kernel
theorem d_Lw_value_96 : decode bc_Lw_value 96 = .ok (.goto 7, 3) := by decide +kernel
theorem d_Lw_value_99 : decode bc_Lw_value 99 = .ok (.aload_n 1, 1) := by decide +kernel
theorem d_Lw_value_100 : decode bc_Lw_value 100 = .ok (.iload 6, 2) := by decide +kernel
theorem d_Lw_value_102 : decode bc_Lw_value 102 = .ok (.iaload, 1) := by decide +kernel
theorem d_Lw_value_103 : decode bc_Lw_value 103 = .ok (.iastore, 1) := by decide +kernel
theorem d_Lw_value_104 : decode bc_Lw_value 104 = .ok (.iinc 3 1, 3) := by decide +kernel
theorem d_Lw_value_107 : decode bc_Lw_value 107 = .ok (.goto 131, 3) := by decide +kernel
theorem d_Lw_value_110 : decode bc_Lw_value 110 = .ok (.iload 5, 2) := by decide +kernel
theorem d_Lw_value_112 : decode bc_Lw_value 112 = .ok (.iconst 3, 1) := by decide +kernel
theorem d_Lw_value_113 : decode bc_Lw_value 113 = .ok (.if_icmp .ne 29, 3) := by decide +kernel
theorem d_Lw_value_116 : decode bc_Lw_value 116 = .ok (.iload_n 3, 1) := by decide +kernel
theorem d_Lw_value_117 : decode bc_Lw_value 117 = .ok (.iconst 1, 1) := by decide +kernel
theorem d_Lw_value_118 : decode bc_Lw_value 118 = .ok (.if_icmp .ge 7, 3) := by decide +kernel
theorem d_Lw_value_121 : decode bc_Lw_value 121 = .ok (.iconst 0, 1) := by decide +kernel
theorem d_Lw_value_122 : decode bc_Lw_value 122 = .ok (.goto 19, 3) := by decide +kernel
theorem d_Lw_value_125 : decode bc_Lw_value 125 = .ok (.iconst 0, 1) := by decide +kernel
theorem d_Lw_value_126 : decode bc_Lw_value 126 = .ok (.iload_n 2, 1) := by decide +kernel
theorem d_Lw_value_127 : decode bc_Lw_value 127 = .ok (.aload_n 0, 1) := by decide +kernel
theorem d_Lw_value_128 : decode bc_Lw_value 128 = .ok (.getfield 15, 3) := by decide +kernel
theorem d_Lw_value_131 : decode bc_Lw_value 131 = .ok (.iload_n 3, 1) := by decide +kernel
theorem d_Lw_value_132 : decode bc_Lw_value 132 = .ok (.iconst 1, 1) := by decide +kernel
theorem d_Lw_value_133 : decode bc_Lw_value 133 = .ok (.isub, 1) := by decide +kernel
theorem d_Lw_value_134 : decode bc_Lw_value 134 = .ok (.iaload, 1) := by decide +kernel
theorem d_Lw_value_135 : decode bc_Lw_value 135 = .ok (.invokestatic 57, 3) := by decide +kernel
theorem d_Lw_value_138 : decode bc_Lw_value 138 = .ok (.invokestatic 42, 3) := by decide +kernel
theorem d_Lw_value_141 : decode bc_Lw_value 141 = .ok (.ireturn, 1) := by decide +kernel
theorem d_Lw_value_142 : decode bc_Lw_value 142 = .ok (.iload_n 3, 1) := by decide +kernel
theorem d_Lw_value_143 : decode bc_Lw_value 143 = .ok (.iconst 2, 1) := by decide +kernel
theorem d_Lw_value_144 : decode bc_Lw_value 144 = .ok (.if_icmp .ge 5, 3) := by decide +kernel
theorem d_Lw_value_147 : decode bc_Lw_value 147 = .ok (.iconst 0, 1) := by decide +kernel
theorem d_Lw_value_148 : decode bc_Lw_value 148 = .ok (.ireturn, 1) := by decide +kernel
theorem d_Lw_value_149 : decode bc_Lw_value 149 = .ok (.aload_n 0, 1) := by decide +kernel
theorem d_Lw_value_150 : decode bc_Lw_value 150 = .ok (.getfield 15, 3) := by decide +kernel
theorem d_Lw_value_153 : decode bc_Lw_value 153 = .ok (.iload_n 3, 1) := by decide +kernel
theorem d_Lw_value_154 : decode bc_Lw_value 154 = .ok (.iconst 1, 1) := by decide +kernel
theorem d_Lw_value_155 : decode bc_Lw_value 155 = .ok (.isub, 1) := by decide +kernel
theorem d_Lw_value_156 : decode bc_Lw_value 156 = .ok (.iaload, 1) := by decide +kernel
theorem d_Lw_value_157 : decode bc_Lw_value 157 = .ok (.istore 7, 2) := by decide +kernel
theorem d_Lw_value_159 : decode bc_Lw_value 159 = .ok (.aload_n 0, 1) := by decide +kernel
theorem d_Lw_value_160 : decode bc_Lw_value 160 = .ok (.getfield 15, 3) := by decide +kernel
theorem d_Lw_value_163 : decode bc_Lw_value 163 = .ok (.iload_n 3, 1) := by decide +kernel
theorem d_Lw_value_164 : decode bc_Lw_value 164 = .ok (.iconst 2, 1) := by decide +kernel
theorem d_Lw_value_165 : decode bc_Lw_value 165 = .ok (.isub, 1) := by decide +kernel
theorem d_Lw_value_166 : decode bc_Lw_value 166 = .ok (.iaload, 1) := by decide +kernel
theorem d_Lw_value_167 : decode bc_Lw_value 167 = .ok (.istore 8, 2) := by decide +kernel
theorem d_Lw_value_169 : decode bc_Lw_value 169 = .ok (.iload 5, 2) := by decide +kernel
theorem d_Lw_value_171 : decode bc_Lw_value 171 = .ok (.iconst 2, 1) := by decide +kernel
theorem d_Lw_value_172 : decode bc_Lw_value 172 = .ok (.if_icmp .ne 32, 3) := by decide +kernel
theorem d_Lw_value_175 : decode bc_Lw_value 175 = .ok (.iinc 3 (-2), 3) := by decide +kernel
theorem d_Lw_value_178 : decode bc_Lw_value 178 = .ok (.iload 8, 2) := by decide +kernel
theorem d_Lw_value_180 : decode bc_Lw_value 180 = .ok (.iload 7, 2) := by decide +kernel
theorem d_Lw_value_182 : decode bc_Lw_value 182 = .ok (.if_icmp .ge 8, 3) := by decide +kernel
theorem d_Lw_value_185 : decode bc_Lw_value 185 = .ok (.iload 4, 2) := by decide +kernel
theorem d_Lw_value_187 : decode bc_Lw_value 187 = .ok (.goto 12, 3) := by decide +kernel
theorem d_Lw_value_190 : decode bc_Lw_value 190 = .ok (.iload 4, 2) := by decide +kernel
theorem d_Lw_value_192 : decode bc_Lw_value 192 = .ok (.iload 6, 2) := by decide +kernel
theorem d_Lw_value_194 : decode bc_Lw_value 194 = .ok (.iconst 1, 1) := by decide +kernel
theorem d_Lw_value_195 : decode bc_Lw_value 195 = .ok (.isub, 1) := by decide +kernel
theorem d_Lw_value_196 : decode bc_Lw_value 196 = .ok (.invokestatic 42, 3) := by decide +kernel
theorem d_Lw_value_199 : decode bc_Lw_value 199 = .ok (.istore 4, 2) := by decide +kernel
theorem d_Lw_value_201 : decode bc_Lw_value 201 = .ok (.goto 37, 3) := by decide +kernel
theorem d_Lw_value_204 : decode bc_Lw_value 204 = .ok (.iload 5, 2) := by decide +kernel
theorem d_Lw_value_206 : decode bc_Lw_value 206 = .ok (.bipush 47, 2) := by decide +kernel
theorem d_Lw_value_208 : decode bc_Lw_value 208 = .ok (.if_icmp .ne 10, 3) := by decide +kernel
theorem d_Lw_value_211 : decode bc_Lw_value 211 = .ok (.iload 7, 2) := by decide +kernel
theorem d_Lw_value_213 : decode bc_Lw_value 213 = .ok (.ifCond .ne 5, 3) := by decide +kernel
theorem d_Lw_value_216 : decode bc_Lw_value 216 = .ok (.iconst 0, 1) := by decide +kernel
theorem d_Lw_value_217 : decode bc_Lw_value 217 = .ok (.ireturn, 1) := by decide +kernel
theorem d_Lw_value_218 : decode bc_Lw_value 218 = .ok (.iinc 3 (-1), 3) := by decide +kernel
theorem d_Lw_value_221 : decode bc_Lw_value 221 = .ok (.aload_n 0, 1) := by decide +kernel
theorem d_Lw_value_222 : decode bc_Lw_value 222 = .ok (.getfield 15, 3) := by decide +kernel
theorem d_Lw_value_225 : decode bc_Lw_value 225 = .ok (.iload_n 3, 1) := by decide +kernel
theorem d_Lw_value_226 : decode bc_Lw_value 226 = .ok (.iconst 1, 1) := by decide +kernel
theorem d_Lw_value_227 : decode bc_Lw_value 227 = .ok (.isub, 1) := by decide +kernel
theorem d_Lw_value_228 : decode bc_Lw_value 228 = .ok (.iload 5, 2) := by decide +kernel
theorem d_Lw_value_230 : decode bc_Lw_value 230 = .ok (.iload 8, 2) := by decide +kernel
theorem d_Lw_value_232 : decode bc_Lw_value 232 = .ok (.iload 7, 2) := by decide +kernel
theorem d_Lw_value_234 : decode bc_Lw_value 234 = .ok (.invokestatic 60, 3) := by decide +kernel
theorem d_Lw_value_237 : decode bc_Lw_value 237 = .ok (.iastore, 1) := by decide +kernel
theorem d_Lw_value_238 : decode bc_Lw_value 238 = .ok (.iinc 4 1, 3) := by decide +kernel
theorem d_Lw_value_241 : decode bc_Lw_value 241 = .ok (.goto (-236), 3) := by decide +kernel
theorem d_Lw_value_244 : decode bc_Lw_value 244 = .ok (.iconst 0, 1) := by decide +kernel
theorem d_Lw_value_245 : decode bc_Lw_value 245 = .ok (.ireturn, 1) := by decide +kernel
set_option maxRecDepth 20000 in
theorem w_Lw_value_b103 {X : CX} {V : WV} {lw : Nat} (hV : IsC V) (hlw : isLw lw) {z : Int32 × Mem} (hC : Ck X V bc_Lw_value 9 "SecretWells$Law" (some .int) 1 22) (k5 : Int32 → Int32 → Int32 → Mem → Option (Int32 × Mem)) (hk5 : ∀ (x2 : Int32) (x3 : Int32) (x4 : Int32) (S : Mem), k5 x2 x3 x4 S = some z → G X V 9 (QI X V z.1 z.2) 5 [some (.ref (V.2.2.1 lw 0)), some (.ref (V.2.2.1 6 (0 + 1))), some (.int x2), some (.int x3), some (.int x4), none, none, none, none] [] S) (x2 : Int32) (x3 : Int32) (x4 : Int32) (s0 : Int32) (s1 : Int32) (S : Mem) (h : f_Lw_value_b103 lw k5 x2 x3 x4 s0 s1 S = some z) : G X V 9 (QI X V z.1 z.2) 103 [some (.ref (V.2.2.1 lw 0)), some (.ref (V.2.2.1 6 (0 + 1))), some (.int x2), some (.int x3), some (.int x4), none, none, none, none] [.int s0, .int s1, .ref (V.2.2.1 lw (1 + 1))] S := by
  unfold f_Lw_value_b103 at h
  refine g_iast (pc := 103) hC (ar_Lw_1 hV hlw) d_Lw_value_103 h (fun h => ?_)
  refine g_letS h (fun S103 h => ?_)
  refine s_iinc (pc := 104) hC (i := 3) (x := x3) (v := x3 + 1) rfl (by rw [kc_1]) (by decide) d_Lw_value_104 (lv2 := [some (.ref (V.2.2.1 lw 0)), some (.ref (V.2.2.1 6 (0 + 1))), some (.int x2), some (.int (x3 + 1)), some (.int x4), none, none, none, none]) rfl ?_
  refine g_goto (pc := 107) hC (tgt := 238) (by decide) d_Lw_value_107 ?_
  refine s_iinc (pc := 238) hC (i := 4) (x := x4) (v := x4 + 1) rfl (by rw [kc_1]) (by decide) d_Lw_value_238 (lv2 := [some (.ref (V.2.2.1 lw 0)), some (.ref (V.2.2.1 6 (0 + 1))), some (.int x2), some (.int (x3 + 1)), some (.int (x4 + 1)), none, none, none, none]) rfl ?_
  refine g_goto (pc := 241) hC (tgt := 5) (by decide) d_Lw_value_241 ?_
  exact hk5 x2 (x3 + 1) (x4 + 1) S103 h
set_option maxRecDepth 20000 in
theorem w_Lw_value_b84 {X : CX} {V : WV} {lw : Nat} (hV : IsC V) (hlw : isLw lw) {z : Int32 × Mem} (hC : Ck X V bc_Lw_value 9 "SecretWells$Law" (some .int) 1 22) (k5 : Int32 → Int32 → Int32 → Mem → Option (Int32 × Mem)) (hk5 : ∀ (x2 : Int32) (x3 : Int32) (x4 : Int32) (S : Mem), k5 x2 x3 x4 S = some z → G X V 9 (QI X V z.1 z.2) 5 [some (.ref (V.2.2.1 lw 0)), some (.ref (V.2.2.1 6 (0 + 1))), some (.int x2), some (.int x3), some (.int x4), none, none, none, none] [] S) (x2 : Int32) (x3 : Int32) (x4 : Int32) (x5 : Int32) (x6 : Int32) (S : Mem) (h : f_Lw_value_b84 lw k5 x2 x3 x4 x5 x6 S = some z) : G X V 9 (QI X V z.1 z.2) 84 [some (.ref (V.2.2.1 lw 0)), some (.ref (V.2.2.1 6 (0 + 1))), some (.int x2), some (.int x3), some (.int x4), some (.int x5), some (.int x6), none, none] [] S := by
  unfold f_Lw_value_b84 at h
  refine g_aload_n (pc := 84) hC (i := 0) (x := (V.2.2.1 lw 0)) rfl rfl d_Lw_value_84 ?_
  refine g_getA (pc := 85) hC fo_Lw_15 (ob_Lw hV hlw) rfl d_Lw_value_85 ?_
  refine g_iload_n (pc := 88) hC (i := 3) (x := x3) rfl rfl d_Lw_value_88 ?_
  refine g_iload (pc := 89) hC (i := 5) (x := x5) rfl d_Lw_value_89 ?_
  refine g_if_ne (pc := 91) hC (tgt := 99) (by decide) d_Lw_value_91 h (fun h => ?_) (fun h => ?_)
  · refine g_aload_n (pc := 99) hC (i := 1) (x := (V.2.2.1 6 (0 + 1))) rfl rfl d_Lw_value_99 ?_
    refine g_iload (pc := 100) hC (i := 6) (x := x6) rfl d_Lw_value_100 ?_
    refine g_iald (pc := 102) hC (ar_Dy_0 hV) d_Lw_value_102 h (fun h => ?_)
    refine g_le (lv2 := [some (.ref (V.2.2.1 lw 0)), some (.ref (V.2.2.1 6 (0 + 1))), some (.int x2), some (.int x3), some (.int x4), none, none, none, none]) (⟨rfl, ⟨rfl, ⟨rfl, ⟨rfl, ⟨rfl, trivial⟩⟩⟩⟩⟩) ?_
    exact w_Lw_value_b103 hV hlw hC k5 hk5 x2 x3 x4 (S.2.1 6 0 x6.toNatClampNeg) x3 S h
  · refine g_iload (pc := 94) hC (i := 6) (x := x6) rfl d_Lw_value_94 ?_
    refine g_goto (pc := 96) hC (tgt := 103) (by decide) d_Lw_value_96 ?_
    refine g_le (lv2 := [some (.ref (V.2.2.1 lw 0)), some (.ref (V.2.2.1 6 (0 + 1))), some (.int x2), some (.int x3), some (.int x4), none, none, none, none]) (⟨rfl, ⟨rfl, ⟨rfl, ⟨rfl, ⟨rfl, trivial⟩⟩⟩⟩⟩) ?_
    exact w_Lw_value_b103 hV hlw hC k5 hk5 x2 x3 x4 x6 x3 S h
set_option maxRecDepth 20000 in
theorem w_Lw_value_b218 {X : CX} {V : WV} {lw : Nat} (hV : IsC V) (hlw : isLw lw) {z : Int32 × Mem} (hC : Ck X V bc_Lw_value 9 "SecretWells$Law" (some .int) 1 22) (k5 : Int32 → Int32 → Int32 → Mem → Option (Int32 × Mem)) (hk5 : ∀ (x2 : Int32) (x3 : Int32) (x4 : Int32) (S : Mem), k5 x2 x3 x4 S = some z → G X V 9 (QI X V z.1 z.2) 5 [some (.ref (V.2.2.1 lw 0)), some (.ref (V.2.2.1 6 (0 + 1))), some (.int x2), some (.int x3), some (.int x4), none, none, none, none] [] S) (x2 : Int32) (x3 : Int32) (x4 : Int32) (x5 : Int32) (x7 : Int32) (x8 : Int32) (S : Mem) (h : f_Lw_value_b218 lw k5 x2 x3 x4 x5 x7 x8 S = some z) : G X V 9 (QI X V z.1 z.2) 218 [some (.ref (V.2.2.1 lw 0)), some (.ref (V.2.2.1 6 (0 + 1))), some (.int x2), some (.int x3), some (.int x4), some (.int x5), none, some (.int x7), some (.int x8)] [] S := by
  unfold f_Lw_value_b218 at h
  refine s_iinc (pc := 218) hC (i := 3) (x := x3) (v := x3 + (-1)) rfl (by rw [kc_m1]) (by decide) d_Lw_value_218 (lv2 := [some (.ref (V.2.2.1 lw 0)), some (.ref (V.2.2.1 6 (0 + 1))), some (.int x2), some (.int (x3 + (-1))), some (.int x4), some (.int x5), none, some (.int x7), some (.int x8)]) rfl ?_
  refine g_aload_n (pc := 221) hC (i := 0) (x := (V.2.2.1 lw 0)) rfl rfl d_Lw_value_221 ?_
  refine g_getA (pc := 222) hC fo_Lw_15 (ob_Lw hV hlw) rfl d_Lw_value_222 ?_
  refine g_iload_n (pc := 225) hC (i := 3) (x := (x3 + (-1))) rfl rfl d_Lw_value_225 ?_
  refine g_iconst (pc := 226) hC kc_1 d_Lw_value_226 ?_
  refine g_isub (pc := 227) hC d_Lw_value_227 ?_
  refine g_iload (pc := 228) hC (i := 5) (x := x5) rfl d_Lw_value_228 ?_
  refine g_iload (pc := 230) hC (i := 8) (x := x8) rfl d_Lw_value_230 ?_
  refine g_iload (pc := 232) hC (i := 7) (x := x7) rfl d_Lw_value_232 ?_
  obtain ⟨q234, hq234, h⟩ := Option.bind_eq_some_iff.mp h
  refine g_si (pc := 234) hC (As := [.int x5, .int x8, .int x7]) (st := [.int ((x3 + (-1)) - 1), .ref (V.2.2.1 lw (1 + 1))]) mt_Lw_joined lk_Lw_60 (Nat.le_of_ble_eq_true rfl) ⟨Nat.le_of_ble_eq_true rfl, Nat.le_of_ble_eq_true rfl⟩ rfl d_Lw_value_234 (c_Lw_joined (IsC.ok hV) hq234) ?_
  refine g_iast (pc := 237) hC (ar_Lw_1 hV hlw) d_Lw_value_237 h (fun h => ?_)
  refine g_letS h (fun S237 h => ?_)
  refine s_iinc (pc := 238) hC (i := 4) (x := x4) (v := x4 + 1) rfl (by rw [kc_1]) (by decide) d_Lw_value_238 (lv2 := [some (.ref (V.2.2.1 lw 0)), some (.ref (V.2.2.1 6 (0 + 1))), some (.int x2), some (.int (x3 + (-1))), some (.int (x4 + 1)), some (.int x5), none, some (.int x7), some (.int x8)]) rfl ?_
  refine g_goto (pc := 241) hC (tgt := 5) (by decide) d_Lw_value_241 ?_
  refine g_le (lv2 := [some (.ref (V.2.2.1 lw 0)), some (.ref (V.2.2.1 6 (0 + 1))), some (.int x2), some (.int (x3 + (-1))), some (.int (x4 + 1)), none, none, none, none]) (⟨rfl, ⟨rfl, ⟨rfl, ⟨rfl, ⟨rfl, trivial⟩⟩⟩⟩⟩) ?_
  exact hk5 x2 (x3 + (-1)) (x4 + 1) S237 h
set_option maxRecDepth 20000 in
theorem w_Lw_value_b5 {X : CX} {V : WV} {lw : Nat} (hV : IsC V) (hlw : isLw lw) {z : Int32 × Mem} (hC : Ck X V bc_Lw_value 9 "SecretWells$Law" (some .int) 1 22) (k5 : Int32 → Int32 → Int32 → Mem → Option (Int32 × Mem)) (hk5 : ∀ (x2 : Int32) (x3 : Int32) (x4 : Int32) (S : Mem), k5 x2 x3 x4 S = some z → G X V 9 (QI X V z.1 z.2) 5 [some (.ref (V.2.2.1 lw 0)), some (.ref (V.2.2.1 6 (0 + 1))), some (.int x2), some (.int x3), some (.int x4), none, none, none, none] [] S) (x2 : Int32) (x3 : Int32) (x4 : Int32) (S : Mem) (h : f_Lw_value_b5 lw k5 x2 x3 x4 S = some z) : G X V 9 (QI X V z.1 z.2) 5 [some (.ref (V.2.2.1 lw 0)), some (.ref (V.2.2.1 6 (0 + 1))), some (.int x2), some (.int x3), some (.int x4), none, none, none, none] [] S := by
  unfold f_Lw_value_b5 at h
  refine g_iload (pc := 5) hC (i := 4) (x := x4) rfl d_Lw_value_5 ?_
  refine g_aload_n (pc := 7) hC (i := 0) (x := (V.2.2.1 lw 0)) rfl rfl d_Lw_value_7 ?_
  refine g_getI (pc := 8) hC fo_Lw_18 (ob_Lw hV hlw) rfl d_Lw_value_8 ?_
  refine g_icmp_ge (pc := 11) hC (tgt := 244) (by decide) d_Lw_value_11 h (fun h => ?_) (fun h => ?_)
  · refine g_iconst (pc := 244) hC kc_0 d_Lw_value_244 ?_
    exact g_iW (pc := 245) hC rfl d_Lw_value_245 h
  · refine g_iload (pc := 14) hC (i := 4) (x := x4) rfl d_Lw_value_14 ?_
    refine g_aload_n (pc := 16) hC (i := 0) (x := (V.2.2.1 lw 0)) rfl rfl d_Lw_value_16 ?_
    refine g_getA (pc := 17) hC fo_Lw_9 (ob_Lw hV hlw) rfl d_Lw_value_17 ?_
    refine g_alen (pc := 20) hC (by decide) (ar_Lw_0 hV hlw) rfl d_Lw_value_20 ?_
    refine g_icmp_ge (pc := 21) hC (tgt := 244) (by decide) d_Lw_value_21 h (fun h => ?_) (fun h => ?_)
    · refine g_iconst (pc := 244) hC kc_0 d_Lw_value_244 ?_
      exact g_iW (pc := 245) hC rfl d_Lw_value_245 h
    · refine g_aload_n (pc := 24) hC (i := 0) (x := (V.2.2.1 lw 0)) rfl rfl d_Lw_value_24 ?_
      refine g_getA (pc := 25) hC fo_Lw_9 (ob_Lw hV hlw) rfl d_Lw_value_25 ?_
      refine g_iload (pc := 28) hC (i := 4) (x := x4) rfl d_Lw_value_28 ?_
      refine g_iald (pc := 30) hC (ar_Lw_0 hV hlw) d_Lw_value_30 h (fun h => ?_)
      refine g_sipush (pc := 31) hC ks_255 d_Lw_value_31 ?_
      refine g_iand (pc := 34) hC d_Lw_value_34 ?_
      refine g_leti h (fun y35 h => ?_)
      refine s_istore (pc := 35) hC (i := 5) (by decide) d_Lw_value_35 (lv2 := [some (.ref (V.2.2.1 lw 0)), some (.ref (V.2.2.1 6 (0 + 1))), some (.int x2), some (.int x3), some (.int x4), some (.int y35), none, none, none]) rfl ?_
      refine g_aload_n (pc := 37) hC (i := 0) (x := (V.2.2.1 lw 0)) rfl rfl d_Lw_value_37 ?_
      refine g_getA (pc := 38) hC fo_Lw_9 (ob_Lw hV hlw) rfl d_Lw_value_38 ?_
      refine g_iload (pc := 41) hC (i := 4) (x := x4) rfl d_Lw_value_41 ?_
      refine g_iald (pc := 43) hC (ar_Lw_0 hV hlw) d_Lw_value_43 h (fun h => ?_)
      refine g_bipush (pc := 44) hC kb_8 d_Lw_value_44 ?_
      refine g_ishr (pc := 46) hC d_Lw_value_46 ?_
      refine g_leti h (fun y47 h => ?_)
      refine s_istore (pc := 47) hC (i := 6) (by decide) d_Lw_value_47 (lv2 := [some (.ref (V.2.2.1 lw 0)), some (.ref (V.2.2.1 6 (0 + 1))), some (.int x2), some (.int x3), some (.int x4), some (.int y35), some (.int y47), none, none]) rfl ?_
      refine g_iload (pc := 49) hC (i := 5) (x := y35) rfl d_Lw_value_49 ?_
      refine g_iconst (pc := 51) hC kc_1 d_Lw_value_51 ?_
      refine g_icmp_gt (pc := 52) hC (tgt := 110) (by decide) d_Lw_value_52 h (fun h => ?_) (fun h => ?_)
      · refine g_iload (pc := 110) hC (i := 5) (x := y35) rfl d_Lw_value_110 ?_
        refine g_iconst (pc := 112) hC kc_3 d_Lw_value_112 ?_
        refine g_icmp_ne (pc := 113) hC (tgt := 142) (by decide) d_Lw_value_113 h (fun h => ?_) (fun h => ?_)
        · refine g_iload_n (pc := 142) hC (i := 3) (x := x3) rfl rfl d_Lw_value_142 ?_
          refine g_iconst (pc := 143) hC kc_2 d_Lw_value_143 ?_
          refine g_icmp_ge (pc := 144) hC (tgt := 149) (by decide) d_Lw_value_144 h (fun h => ?_) (fun h => ?_)
          · refine g_aload_n (pc := 149) hC (i := 0) (x := (V.2.2.1 lw 0)) rfl rfl d_Lw_value_149 ?_
            refine g_getA (pc := 150) hC fo_Lw_15 (ob_Lw hV hlw) rfl d_Lw_value_150 ?_
            refine g_iload_n (pc := 153) hC (i := 3) (x := x3) rfl rfl d_Lw_value_153 ?_
            refine g_iconst (pc := 154) hC kc_1 d_Lw_value_154 ?_
            refine g_isub (pc := 155) hC d_Lw_value_155 ?_
            refine g_iald (pc := 156) hC (ar_Lw_1 hV hlw) d_Lw_value_156 h (fun h => ?_)
            refine g_leti h (fun y157 h => ?_)
            refine s_istore (pc := 157) hC (i := 7) (by decide) d_Lw_value_157 (lv2 := [some (.ref (V.2.2.1 lw 0)), some (.ref (V.2.2.1 6 (0 + 1))), some (.int x2), some (.int x3), some (.int x4), some (.int y35), some (.int y47), some (.int y157), none]) rfl ?_
            refine g_aload_n (pc := 159) hC (i := 0) (x := (V.2.2.1 lw 0)) rfl rfl d_Lw_value_159 ?_
            refine g_getA (pc := 160) hC fo_Lw_15 (ob_Lw hV hlw) rfl d_Lw_value_160 ?_
            refine g_iload_n (pc := 163) hC (i := 3) (x := x3) rfl rfl d_Lw_value_163 ?_
            refine g_iconst (pc := 164) hC kc_2 d_Lw_value_164 ?_
            refine g_isub (pc := 165) hC d_Lw_value_165 ?_
            refine g_iald (pc := 166) hC (ar_Lw_1 hV hlw) d_Lw_value_166 h (fun h => ?_)
            refine g_leti h (fun y167 h => ?_)
            refine s_istore (pc := 167) hC (i := 8) (by decide) d_Lw_value_167 (lv2 := [some (.ref (V.2.2.1 lw 0)), some (.ref (V.2.2.1 6 (0 + 1))), some (.int x2), some (.int x3), some (.int x4), some (.int y35), some (.int y47), some (.int y157), some (.int y167)]) rfl ?_
            refine g_iload (pc := 169) hC (i := 5) (x := y35) rfl d_Lw_value_169 ?_
            refine g_iconst (pc := 171) hC kc_2 d_Lw_value_171 ?_
            refine g_icmp_ne (pc := 172) hC (tgt := 204) (by decide) d_Lw_value_172 h (fun h => ?_) (fun h => ?_)
            · refine g_iload (pc := 204) hC (i := 5) (x := y35) rfl d_Lw_value_204 ?_
              refine g_bipush (pc := 206) hC kb_47 d_Lw_value_206 ?_
              refine g_icmp_ne (pc := 208) hC (tgt := 218) (by decide) d_Lw_value_208 h (fun h => ?_) (fun h => ?_)
              · refine g_le (lv2 := [some (.ref (V.2.2.1 lw 0)), some (.ref (V.2.2.1 6 (0 + 1))), some (.int x2), some (.int x3), some (.int x4), some (.int y35), none, some (.int y157), some (.int y167)]) (⟨rfl, ⟨rfl, ⟨rfl, ⟨rfl, ⟨rfl, ⟨rfl, ⟨rfl, ⟨rfl, trivial⟩⟩⟩⟩⟩⟩⟩⟩) ?_
                exact w_Lw_value_b218 hV hlw hC k5 hk5 x2 x3 x4 y35 y157 y167 S h
              · refine g_iload (pc := 211) hC (i := 7) (x := y157) rfl d_Lw_value_211 ?_
                refine g_if_ne (pc := 213) hC (tgt := 218) (by decide) d_Lw_value_213 h (fun h => ?_) (fun h => ?_)
                · refine g_le (lv2 := [some (.ref (V.2.2.1 lw 0)), some (.ref (V.2.2.1 6 (0 + 1))), some (.int x2), some (.int x3), some (.int x4), some (.int y35), none, some (.int y157), some (.int y167)]) (⟨rfl, ⟨rfl, ⟨rfl, ⟨rfl, ⟨rfl, ⟨rfl, ⟨rfl, ⟨rfl, trivial⟩⟩⟩⟩⟩⟩⟩⟩) ?_
                  exact w_Lw_value_b218 hV hlw hC k5 hk5 x2 x3 x4 y35 y157 y167 S h
                · refine g_iconst (pc := 216) hC kc_0 d_Lw_value_216 ?_
                  exact g_iW (pc := 217) hC rfl d_Lw_value_217 h
            · refine s_iinc (pc := 175) hC (i := 3) (x := x3) (v := x3 + (-2)) rfl (by rw [kc_m2]) (by decide) d_Lw_value_175 (lv2 := [some (.ref (V.2.2.1 lw 0)), some (.ref (V.2.2.1 6 (0 + 1))), some (.int x2), some (.int (x3 + (-2))), some (.int x4), some (.int y35), some (.int y47), some (.int y157), some (.int y167)]) rfl ?_
              refine g_iload (pc := 178) hC (i := 8) (x := y167) rfl d_Lw_value_178 ?_
              refine g_iload (pc := 180) hC (i := 7) (x := y157) rfl d_Lw_value_180 ?_
              refine g_icmp_ge (pc := 182) hC (tgt := 190) (by decide) d_Lw_value_182 h (fun h => ?_) (fun h => ?_)
              · refine g_iload (pc := 190) hC (i := 4) (x := x4) rfl d_Lw_value_190 ?_
                refine g_iload (pc := 192) hC (i := 6) (x := y47) rfl d_Lw_value_192 ?_
                refine g_iconst (pc := 194) hC kc_1 d_Lw_value_194 ?_
                refine g_isub (pc := 195) hC d_Lw_value_195 ?_
                refine g_mmax (pc := 196) hC lk_Lw_42 (Nat.le_of_ble_eq_true rfl) ⟨Nat.le_of_ble_eq_true rfl, Nat.le_of_ble_eq_true rfl⟩ d_Lw_value_196 ?_
                refine g_leti h (fun y199 h => ?_)
                refine s_istore (pc := 199) hC (i := 4) (by decide) d_Lw_value_199 (lv2 := [some (.ref (V.2.2.1 lw 0)), some (.ref (V.2.2.1 6 (0 + 1))), some (.int x2), some (.int (x3 + (-2))), some (.int y199), some (.int y35), some (.int y47), some (.int y157), some (.int y167)]) rfl ?_
                refine g_goto (pc := 201) hC (tgt := 238) (by decide) d_Lw_value_201 ?_
                refine s_iinc (pc := 238) hC (i := 4) (x := y199) (v := y199 + 1) rfl (by rw [kc_1]) (by decide) d_Lw_value_238 (lv2 := [some (.ref (V.2.2.1 lw 0)), some (.ref (V.2.2.1 6 (0 + 1))), some (.int x2), some (.int (x3 + (-2))), some (.int (y199 + 1)), some (.int y35), some (.int y47), some (.int y157), some (.int y167)]) rfl ?_
                refine g_goto (pc := 241) hC (tgt := 5) (by decide) d_Lw_value_241 ?_
                refine g_le (lv2 := [some (.ref (V.2.2.1 lw 0)), some (.ref (V.2.2.1 6 (0 + 1))), some (.int x2), some (.int (x3 + (-2))), some (.int (y199 + 1)), none, none, none, none]) (⟨rfl, ⟨rfl, ⟨rfl, ⟨rfl, ⟨rfl, trivial⟩⟩⟩⟩⟩) ?_
                exact hk5 x2 (x3 + (-2)) (y199 + 1) S h
              · refine g_iload (pc := 185) hC (i := 4) (x := x4) rfl d_Lw_value_185 ?_
                refine g_goto (pc := 187) hC (tgt := 199) (by decide) d_Lw_value_187 ?_
                refine s_istore (pc := 199) hC (i := 4) (by decide) d_Lw_value_199 (lv2 := [some (.ref (V.2.2.1 lw 0)), some (.ref (V.2.2.1 6 (0 + 1))), some (.int x2), some (.int (x3 + (-2))), some (.int x4), some (.int y35), some (.int y47), some (.int y157), some (.int y167)]) rfl ?_
                refine g_goto (pc := 201) hC (tgt := 238) (by decide) d_Lw_value_201 ?_
                refine s_iinc (pc := 238) hC (i := 4) (x := x4) (v := x4 + 1) rfl (by rw [kc_1]) (by decide) d_Lw_value_238 (lv2 := [some (.ref (V.2.2.1 lw 0)), some (.ref (V.2.2.1 6 (0 + 1))), some (.int x2), some (.int (x3 + (-2))), some (.int (x4 + 1)), some (.int y35), some (.int y47), some (.int y157), some (.int y167)]) rfl ?_
                refine g_goto (pc := 241) hC (tgt := 5) (by decide) d_Lw_value_241 ?_
                refine g_le (lv2 := [some (.ref (V.2.2.1 lw 0)), some (.ref (V.2.2.1 6 (0 + 1))), some (.int x2), some (.int (x3 + (-2))), some (.int (x4 + 1)), none, none, none, none]) (⟨rfl, ⟨rfl, ⟨rfl, ⟨rfl, ⟨rfl, trivial⟩⟩⟩⟩⟩) ?_
                exact hk5 x2 (x3 + (-2)) (x4 + 1) S h
          · refine g_iconst (pc := 147) hC kc_0 d_Lw_value_147 ?_
            exact g_iW (pc := 148) hC rfl d_Lw_value_148 h
        · refine g_iload_n (pc := 116) hC (i := 3) (x := x3) rfl rfl d_Lw_value_116 ?_
          refine g_iconst (pc := 117) hC kc_1 d_Lw_value_117 ?_
          refine g_icmp_ge (pc := 118) hC (tgt := 125) (by decide) d_Lw_value_118 h (fun h => ?_) (fun h => ?_)
          · refine g_iconst (pc := 125) hC kc_0 d_Lw_value_125 ?_
            refine g_iload_n (pc := 126) hC (i := 2) (x := x2) rfl rfl d_Lw_value_126 ?_
            refine g_aload_n (pc := 127) hC (i := 0) (x := (V.2.2.1 lw 0)) rfl rfl d_Lw_value_127 ?_
            refine g_getA (pc := 128) hC fo_Lw_15 (ob_Lw hV hlw) rfl d_Lw_value_128 ?_
            refine g_iload_n (pc := 131) hC (i := 3) (x := x3) rfl rfl d_Lw_value_131 ?_
            refine g_iconst (pc := 132) hC kc_1 d_Lw_value_132 ?_
            refine g_isub (pc := 133) hC d_Lw_value_133 ?_
            refine g_iald (pc := 134) hC (ar_Lw_1 hV hlw) d_Lw_value_134 h (fun h => ?_)
            refine g_mmin (pc := 135) hC lk_Lw_57 (Nat.le_of_ble_eq_true rfl) ⟨Nat.le_of_ble_eq_true rfl, Nat.le_of_ble_eq_true rfl⟩ d_Lw_value_135 ?_
            refine g_mmax (pc := 138) hC lk_Lw_42 (Nat.le_of_ble_eq_true rfl) ⟨Nat.le_of_ble_eq_true rfl, Nat.le_of_ble_eq_true rfl⟩ d_Lw_value_138 ?_
            exact g_iW (pc := 141) hC rfl d_Lw_value_141 h
          · refine g_iconst (pc := 121) hC kc_0 d_Lw_value_121 ?_
            refine g_goto (pc := 122) hC (tgt := 141) (by decide) d_Lw_value_122 ?_
            exact g_iW (pc := 141) hC rfl d_Lw_value_141 h
      · refine g_iload_n (pc := 55) hC (i := 3) (x := x3) rfl rfl d_Lw_value_55 ?_
        refine g_aload_n (pc := 56) hC (i := 0) (x := (V.2.2.1 lw 0)) rfl rfl d_Lw_value_56 ?_
        refine g_getA (pc := 57) hC fo_Lw_15 (ob_Lw hV hlw) rfl d_Lw_value_57 ?_
        refine g_alen (pc := 60) hC (by decide) (ar_Lw_1 hV hlw) rfl d_Lw_value_60 ?_
        refine g_icmp_ge (pc := 61) hC (tgt := 82) (by decide) d_Lw_value_61 h (fun h => ?_) (fun h => ?_)
        · refine g_iconst (pc := 82) hC kc_0 d_Lw_value_82 ?_
          exact g_iW (pc := 83) hC rfl d_Lw_value_83 h
        · refine g_iload (pc := 64) hC (i := 5) (x := y35) rfl d_Lw_value_64 ?_
          refine g_iconst (pc := 66) hC kc_1 d_Lw_value_66 ?_
          refine g_icmp_ne (pc := 67) hC (tgt := 84) (by decide) d_Lw_value_67 h (fun h => ?_) (fun h => ?_)
          · exact w_Lw_value_b84 hV hlw hC k5 hk5 x2 x3 x4 y35 y47 S h
          · refine g_iload (pc := 70) hC (i := 6) (x := y47) rfl d_Lw_value_70 ?_
            refine g_if_lt (pc := 72) hC (tgt := 82) (by decide) d_Lw_value_72 h (fun h => ?_) (fun h => ?_)
            · refine g_iconst (pc := 82) hC kc_0 d_Lw_value_82 ?_
              exact g_iW (pc := 83) hC rfl d_Lw_value_83 h
            · refine g_iload (pc := 75) hC (i := 6) (x := y47) rfl d_Lw_value_75 ?_
              refine g_aload_n (pc := 77) hC (i := 1) (x := (V.2.2.1 6 (0 + 1))) rfl rfl d_Lw_value_77 ?_
              refine g_alen (pc := 78) hC (by decide) (ar_Dy_0 hV) rfl d_Lw_value_78 ?_
              refine g_icmp_lt (pc := 79) hC (tgt := 84) (by decide) d_Lw_value_79 h (fun h => ?_) (fun h => ?_)
              · exact w_Lw_value_b84 hV hlw hC k5 hk5 x2 x3 x4 y35 y47 S h
              · refine g_iconst (pc := 82) hC kc_0 d_Lw_value_82 ?_
                exact g_iW (pc := 83) hC rfl d_Lw_value_83 h
theorem w_Lw_value_l5 {X : CX} {V : WV} {lw : Nat} (hV : IsC V) (hlw : isLw lw) {z : Int32 × Mem} (hC : Ck X V bc_Lw_value 9 "SecretWells$Law" (some .int) 1 22) : ∀ (n : Nat) (x2 : Int32) (x3 : Int32) (x4 : Int32) (S : Mem), f_Lw_value_l5 lw n x2 x3 x4 S = some z → G X V 9 (QI X V z.1 z.2) 5 [some (.ref (V.2.2.1 lw 0)), some (.ref (V.2.2.1 6 (0 + 1))), some (.int x2), some (.int x3), some (.int x4), none, none, none, none] [] S := by
  intro n
  induction n with
  | zero =>
    intro x2 x3 x4 S h
    have h : (none : Option (Int32 × Mem)) = some z := h
    cases h
  | succ n ih =>
    intro x2 x3 x4 S h
    exact w_Lw_value_b5 hV hlw hC (f_Lw_value_l5 lw n) ih x2 x3 x4 S h
set_option maxRecDepth 20000 in
theorem w_Lw_value_b0 {X : CX} {V : WV} {lw : Nat} (hV : IsC V) (hlw : isLw lw) {z : Int32 × Mem} (hC : Ck X V bc_Lw_value 9 "SecretWells$Law" (some .int) 1 22) (x2 : Int32) (S : Mem) (h : f_Lw_value_b0 lw x2 S = some z) : G X V 9 (QI X V z.1 z.2) 0 [some (.ref (V.2.2.1 lw 0)), some (.ref (V.2.2.1 6 (0 + 1))), some (.int x2), none, none, none, none, none, none] [] S := by
  unfold f_Lw_value_b0 at h
  refine g_iconst (pc := 0) hC kc_0 d_Lw_value_0 ?_
  refine s_istore_n (pc := 1) hC (i := 3) rfl (by decide) d_Lw_value_1 (lv2 := [some (.ref (V.2.2.1 lw 0)), some (.ref (V.2.2.1 6 (0 + 1))), some (.int x2), some (.int 0), none, none, none, none, none]) rfl ?_
  refine g_iconst (pc := 2) hC kc_0 d_Lw_value_2 ?_
  refine s_istore (pc := 3) hC (i := 4) (by decide) d_Lw_value_3 (lv2 := [some (.ref (V.2.2.1 lw 0)), some (.ref (V.2.2.1 6 (0 + 1))), some (.int x2), some (.int 0), some (.int 0), none, none, none, none]) rfl ?_
  exact w_Lw_value_l5 hV hlw hC 5000 x2 0 0 S h
theorem c_Lw_value {V : WV} {l : Launch} (hV : IsC V) {lw : Nat} (hlw : isLw lw) {x2 : Int32} {S : Mem} {z : Int32 × Mem} (h : f_Lw_value lw x2 S = some z) : CI V l y_Lw_value bc_Lw_value 9 (some .int) 1 22 [.ref (V.2.2.1 lw 0), .ref (V.2.2.1 6 (0 + 1)), .int x2] S z.1 z.2 :=
  ct_i rfl (IsC.ok hV) (Nat.le_of_ble_eq_true rfl) (fun _ _ hC => w_Lw_value_b0 hV hlw hC x2 S h)
def f_Dy_fillsNow_b0 (tx : Nat) (st : Nat) (x3 : Int32) (S : Mem) : Option (Int32 × Mem) :=
  gIn 3 8 (letS (sA S 6 0 3 0) (fun S6 =>
  gIn x3 4 (
  Option.bind (f_JInt_bitCount (S6.2.1 st 10 x3.toNatClampNeg)) (fun q18 =>
  gIn 4 8 (letS (sA S6 6 0 4 q18) (fun S21 =>
  gIn 5 8 (letS (sA S21 6 0 5 0) (fun S28 =>
  gIn 7 8 (letS (sA S28 6 0 7 x3) (fun S36 =>
  Option.bind (f_Dy_look st x3 S36) (fun q40 =>
  Option.bind (f_Lw_value (tx + 1) 999 q40) (fun q54 =>
  some (q54.1, q54.2)))))))))))))
def f_Dy_fillsNow (tx : Nat) (st : Nat) (x3 : Int32) (S : Mem) : Option (Int32 × Mem) := f_Dy_fillsNow_b0 tx st x3 S
theorem d_Dy_fillsNow_0 : decode bc_Dy_fillsNow 0 = .ok (.aload_n 0, 1) := by decide +kernel
theorem d_Dy_fillsNow_1 : decode bc_Dy_fillsNow 1 = .ok (.getfield 9, 3) := by decide +kernel
theorem d_Dy_fillsNow_4 : decode bc_Dy_fillsNow 4 = .ok (.iconst 3, 1) := by decide +kernel
theorem d_Dy_fillsNow_5 : decode bc_Dy_fillsNow 5 = .ok (.iconst 0, 1) := by decide +kernel
theorem d_Dy_fillsNow_6 : decode bc_Dy_fillsNow 6 = .ok (.iastore, 1) := by decide +kernel
theorem d_Dy_fillsNow_7 : decode bc_Dy_fillsNow 7 = .ok (.aload_n 0, 1) := by decide +kernel
theorem d_Dy_fillsNow_8 : decode bc_Dy_fillsNow 8 = .ok (.getfield 9, 3) := by decide +kernel
theorem d_Dy_fillsNow_11 : decode bc_Dy_fillsNow 11 = .ok (.iconst 4, 1) := by decide +kernel
theorem d_Dy_fillsNow_12 : decode bc_Dy_fillsNow 12 = .ok (.aload_n 2, 1) := by decide +kernel
theorem d_Dy_fillsNow_13 : decode bc_Dy_fillsNow 13 = .ok (.getfield 113, 3) := by decide +kernel
theorem d_Dy_fillsNow_16 : decode bc_Dy_fillsNow 16 = .ok (.iload_n 3, 1) := by decide +kernel
theorem d_Dy_fillsNow_17 : decode bc_Dy_fillsNow 17 = .ok (.iaload, 1) := by decide +kernel
theorem d_Dy_fillsNow_18 : decode bc_Dy_fillsNow 18 = .ok (.invokestatic 116, 3) := by decide +kernel
theorem d_Dy_fillsNow_21 : decode bc_Dy_fillsNow 21 = .ok (.iastore, 1) := by decide +kernel
theorem d_Dy_fillsNow_22 : decode bc_Dy_fillsNow 22 = .ok (.aload_n 0, 1) := by decide +kernel
theorem d_Dy_fillsNow_23 : decode bc_Dy_fillsNow 23 = .ok (.getfield 9, 3) := by decide +kernel
theorem d_Dy_fillsNow_26 : decode bc_Dy_fillsNow 26 = .ok (.iconst 5, 1) := by decide +kernel
theorem d_Dy_fillsNow_27 : decode bc_Dy_fillsNow 27 = .ok (.iconst 0, 1) := by decide +kernel
theorem d_Dy_fillsNow_28 : decode bc_Dy_fillsNow 28 = .ok (.iastore, 1) := by decide +kernel
theorem d_Dy_fillsNow_29 : decode bc_Dy_fillsNow 29 = .ok (.aload_n 0, 1) := by decide +kernel
theorem d_Dy_fillsNow_30 : decode bc_Dy_fillsNow 30 = .ok (.getfield 9, 3) := by decide +kernel
theorem d_Dy_fillsNow_33 : decode bc_Dy_fillsNow 33 = .ok (.bipush 7, 2) := by decide +kernel
theorem d_Dy_fillsNow_35 : decode bc_Dy_fillsNow 35 = .ok (.iload_n 3, 1) := by decide +kernel
theorem d_Dy_fillsNow_36 : decode bc_Dy_fillsNow 36 = .ok (.iastore, 1) := by decide +kernel
theorem d_Dy_fillsNow_37 : decode bc_Dy_fillsNow 37 = .ok (.aload_n 0, 1) := by decide +kernel
theorem d_Dy_fillsNow_38 : decode bc_Dy_fillsNow 38 = .ok (.aload_n 2, 1) := by decide +kernel
theorem d_Dy_fillsNow_39 : decode bc_Dy_fillsNow 39 = .ok (.iload_n 3, 1) := by decide +kernel
theorem d_Dy_fillsNow_40 : decode bc_Dy_fillsNow 40 = .ok (.invokevirtual 122, 3) := by decide +kernel
theorem d_Dy_fillsNow_43 : decode bc_Dy_fillsNow 43 = .ok (.aload_n 1, 1) := by decide +kernel
theorem d_Dy_fillsNow_44 : decode bc_Dy_fillsNow 44 = .ok (.getfield 126, 3) := by decide +kernel
theorem d_Dy_fillsNow_47 : decode bc_Dy_fillsNow 47 = .ok (.aload_n 0, 1) := by decide +kernel
theorem d_Dy_fillsNow_48 : decode bc_Dy_fillsNow 48 = .ok (.getfield 9, 3) := by decide +kernel
theorem d_Dy_fillsNow_51 : decode bc_Dy_fillsNow 51 = .ok (.sipush 999, 3) := by decide +kernel
theorem d_Dy_fillsNow_54 : decode bc_Dy_fillsNow 54 = .ok (.invokevirtual 130, 3) := by decide +kernel
theorem d_Dy_fillsNow_57 : decode bc_Dy_fillsNow 57 = .ok (.ireturn, 1) := by decide +kernel
set_option maxRecDepth 20000 in
theorem w_Dy_fillsNow_b0 {X : CX} {V : WV} {tx : Nat} {st : Nat} (hV : IsC V) (htx : isTx tx) (hst : isSt st) {z : Int32 × Mem} (hC : Ck X V bc_Dy_fillsNow 4 "SecretWells$Days" (some .int) 2 50) (x3 : Int32) (S : Mem) (h : f_Dy_fillsNow_b0 tx st x3 S = some z) : G X V 4 (QI X V z.1 z.2) 0 [some (.ref (V.2.2.1 6 0)), some (.ref (V.2.2.1 tx 0)), some (.ref (V.2.2.1 st 0)), some (.int x3)] [] S := by
  unfold f_Dy_fillsNow_b0 at h
  refine g_aload_n (pc := 0) hC (i := 0) (x := (V.2.2.1 6 0)) rfl rfl d_Dy_fillsNow_0 ?_
  refine g_getA (pc := 1) hC fo_Dy_9 (ob_Dy hV) rfl d_Dy_fillsNow_1 ?_
  refine g_iconst (pc := 4) hC kc_3 d_Dy_fillsNow_4 ?_
  refine g_iconst (pc := 5) hC kc_0 d_Dy_fillsNow_5 ?_
  refine g_iast (pc := 6) hC (ar_Dy_0 hV) d_Dy_fillsNow_6 h (fun h => ?_)
  refine g_letS h (fun S6 h => ?_)
  refine g_aload_n (pc := 7) hC (i := 0) (x := (V.2.2.1 6 0)) rfl rfl d_Dy_fillsNow_7 ?_
  refine g_getA (pc := 8) hC fo_Dy_9 (ob_Dy hV) rfl d_Dy_fillsNow_8 ?_
  refine g_iconst (pc := 11) hC kc_4 d_Dy_fillsNow_11 ?_
  refine g_aload_n (pc := 12) hC (i := 2) (x := (V.2.2.1 st 0)) rfl rfl d_Dy_fillsNow_12 ?_
  refine g_getA (pc := 13) hC fo_Dy_113 (ob_St hV hst) rfl d_Dy_fillsNow_13 ?_
  refine g_iload_n (pc := 16) hC (i := 3) (x := x3) rfl rfl d_Dy_fillsNow_16 ?_
  refine g_iald (pc := 17) hC (ar_St_10 hV hst) d_Dy_fillsNow_17 h (fun h => ?_)
  obtain ⟨q18, hq18, h⟩ := Option.bind_eq_some_iff.mp h
  refine g_si (pc := 18) hC (As := [.int (S6.2.1 st 10 x3.toNatClampNeg)]) (st := [.int 4, .ref (V.2.2.1 6 (0 + 1))]) mt_JInt_bitCount lk_Dy_116 (Nat.le_of_ble_eq_true rfl) ⟨Nat.le_of_ble_eq_true rfl, Nat.le_of_ble_eq_true rfl⟩ rfl d_Dy_fillsNow_18 (c_JInt_bitCount (IsC.ok hV) hq18) ?_
  refine g_iast (pc := 21) hC (ar_Dy_0 hV) d_Dy_fillsNow_21 h (fun h => ?_)
  refine g_letS h (fun S21 h => ?_)
  refine g_aload_n (pc := 22) hC (i := 0) (x := (V.2.2.1 6 0)) rfl rfl d_Dy_fillsNow_22 ?_
  refine g_getA (pc := 23) hC fo_Dy_9 (ob_Dy hV) rfl d_Dy_fillsNow_23 ?_
  refine g_iconst (pc := 26) hC kc_5 d_Dy_fillsNow_26 ?_
  refine g_iconst (pc := 27) hC kc_0 d_Dy_fillsNow_27 ?_
  refine g_iast (pc := 28) hC (ar_Dy_0 hV) d_Dy_fillsNow_28 h (fun h => ?_)
  refine g_letS h (fun S28 h => ?_)
  refine g_aload_n (pc := 29) hC (i := 0) (x := (V.2.2.1 6 0)) rfl rfl d_Dy_fillsNow_29 ?_
  refine g_getA (pc := 30) hC fo_Dy_9 (ob_Dy hV) rfl d_Dy_fillsNow_30 ?_
  refine g_bipush (pc := 33) hC kb_7 d_Dy_fillsNow_33 ?_
  refine g_iload_n (pc := 35) hC (i := 3) (x := x3) rfl rfl d_Dy_fillsNow_35 ?_
  refine g_iast (pc := 36) hC (ar_Dy_0 hV) d_Dy_fillsNow_36 h (fun h => ?_)
  refine g_letS h (fun S36 h => ?_)
  refine g_aload_n (pc := 37) hC (i := 0) (x := (V.2.2.1 6 0)) rfl rfl d_Dy_fillsNow_37 ?_
  refine g_aload_n (pc := 38) hC (i := 2) (x := (V.2.2.1 st 0)) rfl rfl d_Dy_fillsNow_38 ?_
  refine g_iload_n (pc := 39) hC (i := 3) (x := x3) rfl rfl d_Dy_fillsNow_39 ?_
  obtain ⟨q40, hq40, h⟩ := Option.bind_eq_some_iff.mp h
  refine g_vv (pc := 40) hC (As := [.ref (V.2.2.1 st 0), .int x3]) (st := []) mt_Dy_look lk_Dy_122 rfl (ob_Dy hV) (Nat.le_of_ble_eq_true rfl) ⟨Nat.le_of_ble_eq_true rfl, Nat.le_of_ble_eq_true rfl⟩ rfl d_Dy_fillsNow_40 (c_Dy_look hV hst hq40) ?_
  refine g_aload_n (pc := 43) hC (i := 1) (x := (V.2.2.1 tx 0)) rfl rfl d_Dy_fillsNow_43 ?_
  refine g_getC (pc := 44) hC (j := tx + 1) fo_Dy_126 (ob_Tx hV htx) rfl d_Dy_fillsNow_44 ?_
  refine g_aload_n (pc := 47) hC (i := 0) (x := (V.2.2.1 6 0)) rfl rfl d_Dy_fillsNow_47 ?_
  refine g_getA (pc := 48) hC fo_Dy_9 (ob_Dy hV) rfl d_Dy_fillsNow_48 ?_
  refine g_sipush (pc := 51) hC ks_999 d_Dy_fillsNow_51 ?_
  obtain ⟨q54, hq54, h⟩ := Option.bind_eq_some_iff.mp h
  refine g_vi (pc := 54) hC (As := [.ref (V.2.2.1 6 (0 + 1)), .int 999]) (st := []) mt_Lw_value lk_Dy_130 rfl (ob_Lw hV (tx_1 htx)) (Nat.le_of_ble_eq_true rfl) ⟨Nat.le_of_ble_eq_true rfl, Nat.le_of_ble_eq_true rfl⟩ rfl d_Dy_fillsNow_54 (c_Lw_value hV (tx_1 htx) hq54) ?_
  exact g_iW (pc := 57) hC rfl d_Dy_fillsNow_57 h
theorem c_Dy_fillsNow {V : WV} {l : Launch} (hV : IsC V) {tx : Nat} {st : Nat} (htx : isTx tx) (hst : isSt st) {x3 : Int32} {S : Mem} {z : Int32 × Mem} (h : f_Dy_fillsNow tx st x3 S = some z) : CI V l y_Dy_fillsNow bc_Dy_fillsNow 4 (some .int) 2 50 [.ref (V.2.2.1 6 0), .ref (V.2.2.1 tx 0), .ref (V.2.2.1 st 0), .int x3] S z.1 z.2 :=
  ct_i rfl (IsC.ok hV) (Nat.le_of_ble_eq_true rfl) (fun _ _ hC => w_Dy_fillsNow_b0 hV htx hst hC x3 S h)
def f_St_isAlive_b0 (st : Nat) (S : Mem) (x1 : Int32) : Option (Int32) :=
  if (((S.1 st 1) >>> (x1 &&& 31)) &&& 1) = 0 then
    some 0
  else
    some 1
def f_St_isAlive (st : Nat) (x1 : Int32) (S : Mem) : Option (Int32) := f_St_isAlive_b0 st S x1
theorem d_St_isAlive_0 : decode bc_St_isAlive 0 = .ok (.aload_n 0, 1) := by decide +kernel
theorem d_St_isAlive_1 : decode bc_St_isAlive 1 = .ok (.getfield 15, 3) := by decide +kernel
theorem d_St_isAlive_4 : decode bc_St_isAlive 4 = .ok (.iload_n 1, 1) := by decide +kernel
theorem d_St_isAlive_5 : decode bc_St_isAlive 5 = .ok (.ishr, 1) := by decide +kernel
theorem d_St_isAlive_6 : decode bc_St_isAlive 6 = .ok (.iconst 1, 1) := by decide +kernel
theorem d_St_isAlive_7 : decode bc_St_isAlive 7 = .ok (.iand, 1) := by decide +kernel
theorem d_St_isAlive_8 : decode bc_St_isAlive 8 = .ok (.ifCond .eq 7, 3) := by decide +kernel
theorem d_St_isAlive_11 : decode bc_St_isAlive 11 = .ok (.iconst 1, 1) := by decide +kernel
theorem d_St_isAlive_12 : decode bc_St_isAlive 12 = .ok (.goto 4, 3) := by decide +kernel
theorem d_St_isAlive_15 : decode bc_St_isAlive 15 = .ok (.iconst 0, 1) := by decide +kernel
theorem d_St_isAlive_16 : decode bc_St_isAlive 16 = .ok (.ireturn, 1) := by decide +kernel
set_option maxRecDepth 20000 in
theorem w_St_isAlive_b0 {X : CX} {V : WV} {st : Nat} (hV : IsC V) (hst : isSt st) {S : Mem} {z : Int32} (hC : Ck X V bc_St_isAlive 2 "SecretWells$State" (some .boolean) 0 0) (x1 : Int32) (h : f_St_isAlive_b0 st S x1 = some z) : G X V 2 (QI X V z S) 0 [some (.ref (V.2.2.1 st 0)), some (.int x1)] [] S := by
  unfold f_St_isAlive_b0 at h
  refine g_aload_n (pc := 0) hC (i := 0) (x := (V.2.2.1 st 0)) rfl rfl d_St_isAlive_0 ?_
  refine g_getI (pc := 1) hC fo_St_15 (ob_St hV hst) rfl d_St_isAlive_1 ?_
  refine g_iload_n (pc := 4) hC (i := 1) (x := x1) rfl rfl d_St_isAlive_4 ?_
  refine g_ishr (pc := 5) hC d_St_isAlive_5 ?_
  refine g_iconst (pc := 6) hC kc_1 d_St_isAlive_6 ?_
  refine g_iand (pc := 7) hC d_St_isAlive_7 ?_
  refine g_if_eq (pc := 8) hC (tgt := 15) (by decide) d_St_isAlive_8 h (fun h => ?_) (fun h => ?_)
  · refine g_iconst (pc := 15) hC kc_0 d_St_isAlive_15 ?_
    exact g_iN (pc := 16) hC rfl d_St_isAlive_16 h
  · refine g_iconst (pc := 11) hC kc_1 d_St_isAlive_11 ?_
    refine g_goto (pc := 12) hC (tgt := 16) (by decide) d_St_isAlive_12 ?_
    exact g_iN (pc := 16) hC rfl d_St_isAlive_16 h
theorem c_St_isAlive {V : WV} {l : Launch} (hV : IsC V) {st : Nat} (hst : isSt st) {x1 : Int32} {S : Mem} {z : Int32} (h : f_St_isAlive st x1 S = some z) : CI V l y_St_isAlive bc_St_isAlive 2 (some .boolean) 0 0 [.ref (V.2.2.1 st 0), .int x1] S z S :=
  ct_i rfl (IsC.ok hV) (Nat.le_of_ble_eq_true rfl) (fun _ _ hC => w_St_isAlive_b0 hV hst hC x1 h)
def f_Lw_isTold_b0 (lw : Nat) (S : Mem) : Option (Int32) :=
  if (S.1 lw 2) ≤ 0 then
    some 0
  else
    some 1
def f_Lw_isTold (lw : Nat) (S : Mem) : Option (Int32) := f_Lw_isTold_b0 lw S
theorem d_Lw_isTold_0 : decode bc_Lw_isTold 0 = .ok (.aload_n 0, 1) := by decide +kernel
theorem d_Lw_isTold_1 : decode bc_Lw_isTold 1 = .ok (.getfield 18, 3) := by decide +kernel
theorem d_Lw_isTold_4 : decode bc_Lw_isTold 4 = .ok (.ifCond .le 7, 3) := by decide +kernel
theorem d_Lw_isTold_7 : decode bc_Lw_isTold 7 = .ok (.iconst 1, 1) := by decide +kernel
theorem d_Lw_isTold_8 : decode bc_Lw_isTold 8 = .ok (.goto 4, 3) := by decide +kernel
theorem d_Lw_isTold_11 : decode bc_Lw_isTold 11 = .ok (.iconst 0, 1) := by decide +kernel
theorem d_Lw_isTold_12 : decode bc_Lw_isTold 12 = .ok (.ireturn, 1) := by decide +kernel
set_option maxRecDepth 20000 in
theorem w_Lw_isTold_b0 {X : CX} {V : WV} {lw : Nat} (hV : IsC V) (hlw : isLw lw) {S : Mem} {z : Int32} (hC : Ck X V bc_Lw_isTold 1 "SecretWells$Law" (some .boolean) 0 0) (h : f_Lw_isTold_b0 lw S = some z) : G X V 1 (QI X V z S) 0 [some (.ref (V.2.2.1 lw 0))] [] S := by
  unfold f_Lw_isTold_b0 at h
  refine g_aload_n (pc := 0) hC (i := 0) (x := (V.2.2.1 lw 0)) rfl rfl d_Lw_isTold_0 ?_
  refine g_getI (pc := 1) hC fo_Lw_18 (ob_Lw hV hlw) rfl d_Lw_isTold_1 ?_
  refine g_if_le (pc := 4) hC (tgt := 11) (by decide) d_Lw_isTold_4 h (fun h => ?_) (fun h => ?_)
  · refine g_iconst (pc := 11) hC kc_0 d_Lw_isTold_11 ?_
    exact g_iN (pc := 12) hC rfl d_Lw_isTold_12 h
  · refine g_iconst (pc := 7) hC kc_1 d_Lw_isTold_7 ?_
    refine g_goto (pc := 8) hC (tgt := 12) (by decide) d_Lw_isTold_8 ?_
    exact g_iN (pc := 12) hC rfl d_Lw_isTold_12 h
theorem c_Lw_isTold {V : WV} {l : Launch} (hV : IsC V) {lw : Nat} (hlw : isLw lw) {S : Mem} {z : Int32} (h : f_Lw_isTold lw S = some z) : CI V l y_Lw_isTold bc_Lw_isTold 1 (some .boolean) 0 0 [.ref (V.2.2.1 lw 0)] S z S :=
  ct_i rfl (IsC.ok hV) (Nat.le_of_ble_eq_true rfl) (fun _ _ hC => w_Lw_isTold_b0 hV hlw hC h)
def f_Dy_drinksNow_b0 (tx : Nat) (st : Nat) (x3 : Int32) (S : Mem) : Option (Int32 × Mem) :=
  Option.bind (f_Lw_isTold (tx + 3) S) (fun q4 =>
  if q4 = 0 then
    gIn x3 7 (
    some (S.2.1 tx 11 x3.toNatClampNeg, S))
  else
    gIn x3 7 (
    gIn 3 8 (letS (sA S 6 0 3 (S.2.1 st 6 x3.toNatClampNeg)) (fun S28 =>
    gIn x3 7 (
    Option.bind (f_JInt_bitCount (S28.2.1 st 7 x3.toNatClampNeg)) (fun q40 =>
    gIn 4 8 (letS (sA S28 6 0 4 q40) (fun S43 =>
    gIn 5 8 (letS (sA S43 6 0 5 0) (fun S50 =>
    gIn 7 8 (letS (sA S50 6 0 7 x3) (fun S58 =>
    gIn x3 7 (
    Option.bind (f_Dy_look st (S58.2.1 st 5 x3.toNatClampNeg) S58) (fun q67 =>
    Option.bind (f_Lw_value (tx + 3) 99 q67) (fun q80 =>
    some (q80.1, q80.2))))))))))))))))
def f_Dy_drinksNow (tx : Nat) (st : Nat) (x3 : Int32) (S : Mem) : Option (Int32 × Mem) := f_Dy_drinksNow_b0 tx st x3 S
theorem d_Dy_drinksNow_0 : decode bc_Dy_drinksNow 0 = .ok (.aload_n 1, 1) := by decide +kernel
theorem d_Dy_drinksNow_1 : decode bc_Dy_drinksNow 1 = .ok (.getfield 136, 3) := by decide +kernel
theorem d_Dy_drinksNow_4 : decode bc_Dy_drinksNow 4 = .ok (.invokevirtual 139, 3) := by decide +kernel
theorem d_Dy_drinksNow_7 : decode bc_Dy_drinksNow 7 = .ok (.ifCond .ne 10, 3) := by decide +kernel
theorem d_Dy_drinksNow_10 : decode bc_Dy_drinksNow 10 = .ok (.aload_n 1, 1) := by decide +kernel
theorem d_Dy_drinksNow_11 : decode bc_Dy_drinksNow 11 = .ok (.getfield 143, 3) := by decide +kernel
theorem d_Dy_drinksNow_14 : decode bc_Dy_drinksNow 14 = .ok (.iload_n 3, 1) := by decide +kernel
theorem d_Dy_drinksNow_15 : decode bc_Dy_drinksNow 15 = .ok (.iaload, 1) := by decide +kernel
theorem d_Dy_drinksNow_16 : decode bc_Dy_drinksNow 16 = .ok (.ireturn, 1) := by decide +kernel
theorem d_Dy_drinksNow_17 : decode bc_Dy_drinksNow 17 = .ok (.aload_n 0, 1) := by decide +kernel
theorem d_Dy_drinksNow_18 : decode bc_Dy_drinksNow 18 = .ok (.getfield 9, 3) := by decide +kernel
theorem d_Dy_drinksNow_21 : decode bc_Dy_drinksNow 21 = .ok (.iconst 3, 1) := by decide +kernel
theorem d_Dy_drinksNow_22 : decode bc_Dy_drinksNow 22 = .ok (.aload_n 2, 1) := by decide +kernel
theorem d_Dy_drinksNow_23 : decode bc_Dy_drinksNow 23 = .ok (.getfield 82, 3) := by decide +kernel
theorem d_Dy_drinksNow_26 : decode bc_Dy_drinksNow 26 = .ok (.iload_n 3, 1) := by decide +kernel
theorem d_Dy_drinksNow_27 : decode bc_Dy_drinksNow 27 = .ok (.iaload, 1) := by decide +kernel
theorem d_Dy_drinksNow_28 : decode bc_Dy_drinksNow 28 = .ok (.iastore, 1) := by decide +kernel
theorem d_Dy_drinksNow_29 : decode bc_Dy_drinksNow 29 = .ok (.aload_n 0, 1) := by decide +kernel
theorem d_Dy_drinksNow_30 : decode bc_Dy_drinksNow 30 = .ok (.getfield 9, 3) := by decide +kernel
theorem d_Dy_drinksNow_33 : decode bc_Dy_drinksNow 33 = .ok (.iconst 4, 1) := by decide +kernel
theorem d_Dy_drinksNow_34 : decode bc_Dy_drinksNow 34 = .ok (.aload_n 2, 1) := by decide +kernel
theorem d_Dy_drinksNow_35 : decode bc_Dy_drinksNow 35 = .ok (.getfield 53, 3) := by decide +kernel
theorem d_Dy_drinksNow_38 : decode bc_Dy_drinksNow 38 = .ok (.iload_n 3, 1) := by decide +kernel
theorem d_Dy_drinksNow_39 : decode bc_Dy_drinksNow 39 = .ok (.iaload, 1) := by decide +kernel
theorem d_Dy_drinksNow_40 : decode bc_Dy_drinksNow 40 = .ok (.invokestatic 116, 3) := by decide +kernel
theorem d_Dy_drinksNow_43 : decode bc_Dy_drinksNow 43 = .ok (.iastore, 1) := by decide +kernel
theorem d_Dy_drinksNow_44 : decode bc_Dy_drinksNow 44 = .ok (.aload_n 0, 1) := by decide +kernel
theorem d_Dy_drinksNow_45 : decode bc_Dy_drinksNow 45 = .ok (.getfield 9, 3) := by decide +kernel
theorem d_Dy_drinksNow_48 : decode bc_Dy_drinksNow 48 = .ok (.iconst 5, 1) := by decide +kernel
theorem d_Dy_drinksNow_49 : decode bc_Dy_drinksNow 49 = .ok (.iconst 0, 1) := by decide +kernel
theorem d_Dy_drinksNow_50 : decode bc_Dy_drinksNow 50 = .ok (.iastore, 1) := by decide +kernel
theorem d_Dy_drinksNow_51 : decode bc_Dy_drinksNow 51 = .ok (.aload_n 0, 1) := by decide +kernel
theorem d_Dy_drinksNow_52 : decode bc_Dy_drinksNow 52 = .ok (.getfield 9, 3) := by decide +kernel
theorem d_Dy_drinksNow_55 : decode bc_Dy_drinksNow 55 = .ok (.bipush 7, 2) := by decide +kernel
theorem d_Dy_drinksNow_57 : decode bc_Dy_drinksNow 57 = .ok (.iload_n 3, 1) := by decide +kernel
theorem d_Dy_drinksNow_58 : decode bc_Dy_drinksNow 58 = .ok (.iastore, 1) := by decide +kernel
theorem d_Dy_drinksNow_59 : decode bc_Dy_drinksNow 59 = .ok (.aload_n 0, 1) := by decide +kernel
theorem d_Dy_drinksNow_60 : decode bc_Dy_drinksNow 60 = .ok (.aload_n 2, 1) := by decide +kernel
theorem d_Dy_drinksNow_61 : decode bc_Dy_drinksNow 61 = .ok (.aload_n 2, 1) := by decide +kernel
theorem d_Dy_drinksNow_62 : decode bc_Dy_drinksNow 62 = .ok (.getfield 76, 3) := by decide +kernel
theorem d_Dy_drinksNow_65 : decode bc_Dy_drinksNow 65 = .ok (.iload_n 3, 1) := by decide +kernel
theorem d_Dy_drinksNow_66 : decode bc_Dy_drinksNow 66 = .ok (.iaload, 1) := by decide +kernel
theorem d_Dy_drinksNow_67 : decode bc_Dy_drinksNow 67 = .ok (.invokevirtual 122, 3) := by decide +kernel
theorem d_Dy_drinksNow_70 : decode bc_Dy_drinksNow 70 = .ok (.aload_n 1, 1) := by decide +kernel
theorem d_Dy_drinksNow_71 : decode bc_Dy_drinksNow 71 = .ok (.getfield 136, 3) := by decide +kernel
theorem d_Dy_drinksNow_74 : decode bc_Dy_drinksNow 74 = .ok (.aload_n 0, 1) := by decide +kernel
theorem d_Dy_drinksNow_75 : decode bc_Dy_drinksNow 75 = .ok (.getfield 9, 3) := by decide +kernel
theorem d_Dy_drinksNow_78 : decode bc_Dy_drinksNow 78 = .ok (.bipush 99, 2) := by decide +kernel
theorem d_Dy_drinksNow_80 : decode bc_Dy_drinksNow 80 = .ok (.invokevirtual 130, 3) := by decide +kernel
theorem d_Dy_drinksNow_83 : decode bc_Dy_drinksNow 83 = .ok (.ireturn, 1) := by decide +kernel
set_option maxRecDepth 20000 in
theorem w_Dy_drinksNow_b0 {X : CX} {V : WV} {tx : Nat} {st : Nat} (hV : IsC V) (htx : isTx tx) (hst : isSt st) {z : Int32 × Mem} (hC : Ck X V bc_Dy_drinksNow 4 "SecretWells$Days" (some .int) 2 50) (x3 : Int32) (S : Mem) (h : f_Dy_drinksNow_b0 tx st x3 S = some z) : G X V 4 (QI X V z.1 z.2) 0 [some (.ref (V.2.2.1 6 0)), some (.ref (V.2.2.1 tx 0)), some (.ref (V.2.2.1 st 0)), some (.int x3)] [] S := by
  unfold f_Dy_drinksNow_b0 at h
  refine g_aload_n (pc := 0) hC (i := 1) (x := (V.2.2.1 tx 0)) rfl rfl d_Dy_drinksNow_0 ?_
  refine g_getC (pc := 1) hC (j := tx + 3) fo_Dy_136 (ob_Tx hV htx) rfl d_Dy_drinksNow_1 ?_
  obtain ⟨q4, hq4, h⟩ := Option.bind_eq_some_iff.mp h
  refine g_vi (pc := 4) hC (As := []) (st := []) mt_Lw_isTold lk_Dy_139 rfl (ob_Lw hV (tx_3 htx)) (Nat.le_of_ble_eq_true rfl) ⟨Nat.le_of_ble_eq_true rfl, Nat.le_of_ble_eq_true rfl⟩ rfl d_Dy_drinksNow_4 (c_Lw_isTold hV (tx_3 htx) hq4) ?_
  refine g_if_ne (pc := 7) hC (tgt := 17) (by decide) d_Dy_drinksNow_7 h (fun h => ?_) (fun h => ?_)
  · refine g_aload_n (pc := 17) hC (i := 0) (x := (V.2.2.1 6 0)) rfl rfl d_Dy_drinksNow_17 ?_
    refine g_getA (pc := 18) hC fo_Dy_9 (ob_Dy hV) rfl d_Dy_drinksNow_18 ?_
    refine g_iconst (pc := 21) hC kc_3 d_Dy_drinksNow_21 ?_
    refine g_aload_n (pc := 22) hC (i := 2) (x := (V.2.2.1 st 0)) rfl rfl d_Dy_drinksNow_22 ?_
    refine g_getA (pc := 23) hC fo_Dy_82 (ob_St hV hst) rfl d_Dy_drinksNow_23 ?_
    refine g_iload_n (pc := 26) hC (i := 3) (x := x3) rfl rfl d_Dy_drinksNow_26 ?_
    refine g_iald (pc := 27) hC (ar_St_6 hV hst) d_Dy_drinksNow_27 h (fun h => ?_)
    refine g_iast (pc := 28) hC (ar_Dy_0 hV) d_Dy_drinksNow_28 h (fun h => ?_)
    refine g_letS h (fun S28 h => ?_)
    refine g_aload_n (pc := 29) hC (i := 0) (x := (V.2.2.1 6 0)) rfl rfl d_Dy_drinksNow_29 ?_
    refine g_getA (pc := 30) hC fo_Dy_9 (ob_Dy hV) rfl d_Dy_drinksNow_30 ?_
    refine g_iconst (pc := 33) hC kc_4 d_Dy_drinksNow_33 ?_
    refine g_aload_n (pc := 34) hC (i := 2) (x := (V.2.2.1 st 0)) rfl rfl d_Dy_drinksNow_34 ?_
    refine g_getA (pc := 35) hC fo_Dy_53 (ob_St hV hst) rfl d_Dy_drinksNow_35 ?_
    refine g_iload_n (pc := 38) hC (i := 3) (x := x3) rfl rfl d_Dy_drinksNow_38 ?_
    refine g_iald (pc := 39) hC (ar_St_7 hV hst) d_Dy_drinksNow_39 h (fun h => ?_)
    obtain ⟨q40, hq40, h⟩ := Option.bind_eq_some_iff.mp h
    refine g_si (pc := 40) hC (As := [.int (S28.2.1 st 7 x3.toNatClampNeg)]) (st := [.int 4, .ref (V.2.2.1 6 (0 + 1))]) mt_JInt_bitCount lk_Dy_116 (Nat.le_of_ble_eq_true rfl) ⟨Nat.le_of_ble_eq_true rfl, Nat.le_of_ble_eq_true rfl⟩ rfl d_Dy_drinksNow_40 (c_JInt_bitCount (IsC.ok hV) hq40) ?_
    refine g_iast (pc := 43) hC (ar_Dy_0 hV) d_Dy_drinksNow_43 h (fun h => ?_)
    refine g_letS h (fun S43 h => ?_)
    refine g_aload_n (pc := 44) hC (i := 0) (x := (V.2.2.1 6 0)) rfl rfl d_Dy_drinksNow_44 ?_
    refine g_getA (pc := 45) hC fo_Dy_9 (ob_Dy hV) rfl d_Dy_drinksNow_45 ?_
    refine g_iconst (pc := 48) hC kc_5 d_Dy_drinksNow_48 ?_
    refine g_iconst (pc := 49) hC kc_0 d_Dy_drinksNow_49 ?_
    refine g_iast (pc := 50) hC (ar_Dy_0 hV) d_Dy_drinksNow_50 h (fun h => ?_)
    refine g_letS h (fun S50 h => ?_)
    refine g_aload_n (pc := 51) hC (i := 0) (x := (V.2.2.1 6 0)) rfl rfl d_Dy_drinksNow_51 ?_
    refine g_getA (pc := 52) hC fo_Dy_9 (ob_Dy hV) rfl d_Dy_drinksNow_52 ?_
    refine g_bipush (pc := 55) hC kb_7 d_Dy_drinksNow_55 ?_
    refine g_iload_n (pc := 57) hC (i := 3) (x := x3) rfl rfl d_Dy_drinksNow_57 ?_
    refine g_iast (pc := 58) hC (ar_Dy_0 hV) d_Dy_drinksNow_58 h (fun h => ?_)
    refine g_letS h (fun S58 h => ?_)
    refine g_aload_n (pc := 59) hC (i := 0) (x := (V.2.2.1 6 0)) rfl rfl d_Dy_drinksNow_59 ?_
    refine g_aload_n (pc := 60) hC (i := 2) (x := (V.2.2.1 st 0)) rfl rfl d_Dy_drinksNow_60 ?_
    refine g_aload_n (pc := 61) hC (i := 2) (x := (V.2.2.1 st 0)) rfl rfl d_Dy_drinksNow_61 ?_
    refine g_getA (pc := 62) hC fo_Dy_76 (ob_St hV hst) rfl d_Dy_drinksNow_62 ?_
    refine g_iload_n (pc := 65) hC (i := 3) (x := x3) rfl rfl d_Dy_drinksNow_65 ?_
    refine g_iald (pc := 66) hC (ar_St_5 hV hst) d_Dy_drinksNow_66 h (fun h => ?_)
    obtain ⟨q67, hq67, h⟩ := Option.bind_eq_some_iff.mp h
    refine g_vv (pc := 67) hC (As := [.ref (V.2.2.1 st 0), .int (S58.2.1 st 5 x3.toNatClampNeg)]) (st := []) mt_Dy_look lk_Dy_122 rfl (ob_Dy hV) (Nat.le_of_ble_eq_true rfl) ⟨Nat.le_of_ble_eq_true rfl, Nat.le_of_ble_eq_true rfl⟩ rfl d_Dy_drinksNow_67 (c_Dy_look hV hst hq67) ?_
    refine g_aload_n (pc := 70) hC (i := 1) (x := (V.2.2.1 tx 0)) rfl rfl d_Dy_drinksNow_70 ?_
    refine g_getC (pc := 71) hC (j := tx + 3) fo_Dy_136 (ob_Tx hV htx) rfl d_Dy_drinksNow_71 ?_
    refine g_aload_n (pc := 74) hC (i := 0) (x := (V.2.2.1 6 0)) rfl rfl d_Dy_drinksNow_74 ?_
    refine g_getA (pc := 75) hC fo_Dy_9 (ob_Dy hV) rfl d_Dy_drinksNow_75 ?_
    refine g_bipush (pc := 78) hC kb_99 d_Dy_drinksNow_78 ?_
    obtain ⟨q80, hq80, h⟩ := Option.bind_eq_some_iff.mp h
    refine g_vi (pc := 80) hC (As := [.ref (V.2.2.1 6 (0 + 1)), .int 99]) (st := []) mt_Lw_value lk_Dy_130 rfl (ob_Lw hV (tx_3 htx)) (Nat.le_of_ble_eq_true rfl) ⟨Nat.le_of_ble_eq_true rfl, Nat.le_of_ble_eq_true rfl⟩ rfl d_Dy_drinksNow_80 (c_Lw_value hV (tx_3 htx) hq80) ?_
    exact g_iW (pc := 83) hC rfl d_Dy_drinksNow_83 h
  · refine g_aload_n (pc := 10) hC (i := 1) (x := (V.2.2.1 tx 0)) rfl rfl d_Dy_drinksNow_10 ?_
    refine g_getA (pc := 11) hC fo_Dy_143 (ob_Tx hV htx) rfl d_Dy_drinksNow_11 ?_
    refine g_iload_n (pc := 14) hC (i := 3) (x := x3) rfl rfl d_Dy_drinksNow_14 ?_
    refine g_iald (pc := 15) hC (ar_Tx_11 hV htx) d_Dy_drinksNow_15 h (fun h => ?_)
    exact g_iW (pc := 16) hC rfl d_Dy_drinksNow_16 h
theorem c_Dy_drinksNow {V : WV} {l : Launch} (hV : IsC V) {tx : Nat} {st : Nat} (htx : isTx tx) (hst : isSt st) {x3 : Int32} {S : Mem} {z : Int32 × Mem} (h : f_Dy_drinksNow tx st x3 S = some z) : CI V l y_Dy_drinksNow bc_Dy_drinksNow 4 (some .int) 2 50 [.ref (V.2.2.1 6 0), .ref (V.2.2.1 tx 0), .ref (V.2.2.1 st 0), .int x3] S z.1 z.2 :=
  ct_i rfl (IsC.ok hV) (Nat.le_of_ble_eq_true rfl) (fun _ _ hC => w_Dy_drinksNow_b0 hV htx hst hC x3 S h)
def f_St_knowers_b5 (st : Nat) (tx : Nat) (S : Mem) (k5 : Int32 → Int32 → Int32 → Option (Int32)) (x2 : Int32) (x3 : Int32) (x4 : Int32) : Option (Int32) :=
  if (S.1 tx 1) ≤ x4 then
    some x3
  else
    gIn x4 7 (
    letS (x3 ||| ((((S.2.1 st 7 x4.toNatClampNeg) >>> (x2 &&& 31)) &&& 1) <<< (x4 &&& 31))) (fun y30 =>
    k5 x2 y30 (x4 + 1)))
def f_St_knowers_l5 (st : Nat) (tx : Nat) (S : Mem) : Nat → Int32 → Int32 → Int32 → Option (Int32)
  | 0 => fun _ _ _ => none
  | n + 1 => f_St_knowers_b5 st tx S (f_St_knowers_l5 st tx S n)
def f_St_knowers_b0 (st : Nat) (tx : Nat) (S : Mem) (x2 : Int32) : Option (Int32) :=
  f_St_knowers_l5 st tx S 5000 x2 0 0
def f_St_knowers (st : Nat) (tx : Nat) (x2 : Int32) (S : Mem) : Option (Int32) := f_St_knowers_b0 st tx S x2
theorem d_St_knowers_0 : decode bc_St_knowers 0 = .ok (.iconst 0, 1) := by decide +kernel
theorem d_St_knowers_1 : decode bc_St_knowers 1 = .ok (.istore_n 3, 1) := by decide +kernel
theorem d_St_knowers_2 : decode bc_St_knowers 2 = .ok (.iconst 0, 1) := by decide +kernel
theorem d_St_knowers_3 : decode bc_St_knowers 3 = .ok (.istore 4, 2) := by decide +kernel
theorem d_St_knowers_5 : decode bc_St_knowers 5 = .ok (.iload 4, 2) := by decide +kernel
theorem d_St_knowers_7 : decode bc_St_knowers 7 = .ok (.aload_n 1, 1) := by decide +kernel
theorem d_St_knowers_8 : decode bc_St_knowers 8 = .ok (.getfield 52, 3) := by decide +kernel
theorem d_St_knowers_11 : decode bc_St_knowers 11 = .ok (.if_icmp .ge 26, 3) := by decide +kernel
theorem d_St_knowers_14 : decode bc_St_knowers 14 = .ok (.iload_n 3, 1) := by decide +kernel
theorem d_St_knowers_15 : decode bc_St_knowers 15 = .ok (.aload_n 0, 1) := by decide +kernel
theorem d_St_knowers_16 : decode bc_St_knowers 16 = .ok (.getfield 34, 3) := by decide +kernel
theorem d_St_knowers_19 : decode bc_St_knowers 19 = .ok (.iload 4, 2) := by decide +kernel
theorem d_St_knowers_21 : decode bc_St_knowers 21 = .ok (.iaload, 1) := by decide +kernel
theorem d_St_knowers_22 : decode bc_St_knowers 22 = .ok (.iload_n 2, 1) := by decide +kernel
theorem d_St_knowers_23 : decode bc_St_knowers 23 = .ok (.ishr, 1) := by decide +kernel
theorem d_St_knowers_24 : decode bc_St_knowers 24 = .ok (.iconst 1, 1) := by decide +kernel
theorem d_St_knowers_25 : decode bc_St_knowers 25 = .ok (.iand, 1) := by decide +kernel
theorem d_St_knowers_26 : decode bc_St_knowers 26 = .ok (.iload 4, 2) := by decide +kernel
theorem d_St_knowers_28 : decode bc_St_knowers 28 = .ok (.ishl, 1) := by decide +kernel
theorem d_St_knowers_29 : decode bc_St_knowers 29 = .ok (.ior, 1) := by decide +kernel
theorem d_St_knowers_30 : decode bc_St_knowers 30 = .ok (.istore_n 3, 1) := by decide +kernel
theorem d_St_knowers_31 : decode bc_St_knowers 31 = .ok (.iinc 4 1, 3) := by decide +kernel
theorem d_St_knowers_34 : decode bc_St_knowers 34 = .ok (.goto (-29), 3) := by decide +kernel
theorem d_St_knowers_37 : decode bc_St_knowers 37 = .ok (.iload_n 3, 1) := by decide +kernel
theorem d_St_knowers_38 : decode bc_St_knowers 38 = .ok (.ireturn, 1) := by decide +kernel
set_option maxRecDepth 20000 in
theorem w_St_knowers_b5 {X : CX} {V : WV} {st : Nat} {tx : Nat} (hV : IsC V) (hst : isSt st) (htx : isTx tx) {S : Mem} {z : Int32} (hC : Ck X V bc_St_knowers 5 "SecretWells$State" (some .int) 0 0) (k5 : Int32 → Int32 → Int32 → Option (Int32)) (hk5 : ∀ (x2 : Int32) (x3 : Int32) (x4 : Int32), k5 x2 x3 x4 = some z → G X V 5 (QI X V z S) 5 [some (.ref (V.2.2.1 st 0)), some (.ref (V.2.2.1 tx 0)), some (.int x2), some (.int x3), some (.int x4)] [] S) (x2 : Int32) (x3 : Int32) (x4 : Int32) (h : f_St_knowers_b5 st tx S k5 x2 x3 x4 = some z) : G X V 5 (QI X V z S) 5 [some (.ref (V.2.2.1 st 0)), some (.ref (V.2.2.1 tx 0)), some (.int x2), some (.int x3), some (.int x4)] [] S := by
  unfold f_St_knowers_b5 at h
  refine g_iload (pc := 5) hC (i := 4) (x := x4) rfl d_St_knowers_5 ?_
  refine g_aload_n (pc := 7) hC (i := 1) (x := (V.2.2.1 tx 0)) rfl rfl d_St_knowers_7 ?_
  refine g_getI (pc := 8) hC fo_St_52 (ob_Tx hV htx) rfl d_St_knowers_8 ?_
  refine g_icmp_ge (pc := 11) hC (tgt := 37) (by decide) d_St_knowers_11 h (fun h => ?_) (fun h => ?_)
  · refine g_iload_n (pc := 37) hC (i := 3) (x := x3) rfl rfl d_St_knowers_37 ?_
    exact g_iN (pc := 38) hC rfl d_St_knowers_38 h
  · refine g_iload_n (pc := 14) hC (i := 3) (x := x3) rfl rfl d_St_knowers_14 ?_
    refine g_aload_n (pc := 15) hC (i := 0) (x := (V.2.2.1 st 0)) rfl rfl d_St_knowers_15 ?_
    refine g_getA (pc := 16) hC fo_St_34 (ob_St hV hst) rfl d_St_knowers_16 ?_
    refine g_iload (pc := 19) hC (i := 4) (x := x4) rfl d_St_knowers_19 ?_
    refine g_iald (pc := 21) hC (ar_St_7 hV hst) d_St_knowers_21 h (fun h => ?_)
    refine g_iload_n (pc := 22) hC (i := 2) (x := x2) rfl rfl d_St_knowers_22 ?_
    refine g_ishr (pc := 23) hC d_St_knowers_23 ?_
    refine g_iconst (pc := 24) hC kc_1 d_St_knowers_24 ?_
    refine g_iand (pc := 25) hC d_St_knowers_25 ?_
    refine g_iload (pc := 26) hC (i := 4) (x := x4) rfl d_St_knowers_26 ?_
    refine g_ishl (pc := 28) hC d_St_knowers_28 ?_
    refine g_ior (pc := 29) hC d_St_knowers_29 ?_
    refine g_leti h (fun y30 h => ?_)
    refine s_istore_n (pc := 30) hC (i := 3) rfl (by decide) d_St_knowers_30 (lv2 := [some (.ref (V.2.2.1 st 0)), some (.ref (V.2.2.1 tx 0)), some (.int x2), some (.int y30), some (.int x4)]) rfl ?_
    refine s_iinc (pc := 31) hC (i := 4) (x := x4) (v := x4 + 1) rfl (by rw [kc_1]) (by decide) d_St_knowers_31 (lv2 := [some (.ref (V.2.2.1 st 0)), some (.ref (V.2.2.1 tx 0)), some (.int x2), some (.int y30), some (.int (x4 + 1))]) rfl ?_
    refine g_goto (pc := 34) hC (tgt := 5) (by decide) d_St_knowers_34 ?_
    exact hk5 x2 y30 (x4 + 1) h
theorem w_St_knowers_l5 {X : CX} {V : WV} {st : Nat} {tx : Nat} (hV : IsC V) (hst : isSt st) (htx : isTx tx) {S : Mem} {z : Int32} (hC : Ck X V bc_St_knowers 5 "SecretWells$State" (some .int) 0 0) : ∀ (n : Nat) (x2 : Int32) (x3 : Int32) (x4 : Int32), f_St_knowers_l5 st tx S n x2 x3 x4 = some z → G X V 5 (QI X V z S) 5 [some (.ref (V.2.2.1 st 0)), some (.ref (V.2.2.1 tx 0)), some (.int x2), some (.int x3), some (.int x4)] [] S := by
  intro n
  induction n with
  | zero =>
    intro x2 x3 x4 h
    have h : (none : Option (Int32)) = some z := h
    cases h
  | succ n ih =>
    intro x2 x3 x4 h
    exact w_St_knowers_b5 hV hst htx hC (f_St_knowers_l5 st tx S n) ih x2 x3 x4 h
set_option maxRecDepth 20000 in
theorem w_St_knowers_b0 {X : CX} {V : WV} {st : Nat} {tx : Nat} (hV : IsC V) (hst : isSt st) (htx : isTx tx) {S : Mem} {z : Int32} (hC : Ck X V bc_St_knowers 5 "SecretWells$State" (some .int) 0 0) (x2 : Int32) (h : f_St_knowers_b0 st tx S x2 = some z) : G X V 5 (QI X V z S) 0 [some (.ref (V.2.2.1 st 0)), some (.ref (V.2.2.1 tx 0)), some (.int x2), none, none] [] S := by
  unfold f_St_knowers_b0 at h
  refine g_iconst (pc := 0) hC kc_0 d_St_knowers_0 ?_
  refine s_istore_n (pc := 1) hC (i := 3) rfl (by decide) d_St_knowers_1 (lv2 := [some (.ref (V.2.2.1 st 0)), some (.ref (V.2.2.1 tx 0)), some (.int x2), some (.int 0), none]) rfl ?_
  refine g_iconst (pc := 2) hC kc_0 d_St_knowers_2 ?_
  refine s_istore (pc := 3) hC (i := 4) (by decide) d_St_knowers_3 (lv2 := [some (.ref (V.2.2.1 st 0)), some (.ref (V.2.2.1 tx 0)), some (.int x2), some (.int 0), some (.int 0)]) rfl ?_
  exact w_St_knowers_l5 hV hst htx hC 5000 x2 0 0 h
theorem c_St_knowers {V : WV} {l : Launch} (hV : IsC V) {st : Nat} {tx : Nat} (hst : isSt st) (htx : isTx tx) {x2 : Int32} {S : Mem} {z : Int32} (h : f_St_knowers st tx x2 S = some z) : CI V l y_St_knowers bc_St_knowers 5 (some .int) 0 0 [.ref (V.2.2.1 st 0), .ref (V.2.2.1 tx 0), .int x2] S z S :=
  ct_i rfl (IsC.ok hV) (Nat.le_of_ble_eq_true rfl) (fun _ _ hC => w_St_knowers_b0 hV hst htx hC x2 h)
def f_Tx_isLie_b0 (tx : Nat) (S : Mem) (x1 : Int32) : Option (Int32) :=
  if (((S.1 tx 4) >>> (x1 &&& 31)) &&& 1) = 0 then
    some 0
  else
    some 1
def f_Tx_isLie (tx : Nat) (x1 : Int32) (S : Mem) : Option (Int32) := f_Tx_isLie_b0 tx S x1
theorem d_Tx_isLie_0 : decode bc_Tx_isLie 0 = .ok (.aload_n 0, 1) := by decide +kernel
theorem d_Tx_isLie_1 : decode bc_Tx_isLie 1 = .ok (.getfield 24, 3) := by decide +kernel
theorem d_Tx_isLie_4 : decode bc_Tx_isLie 4 = .ok (.iload_n 1, 1) := by decide +kernel
theorem d_Tx_isLie_5 : decode bc_Tx_isLie 5 = .ok (.ishr, 1) := by decide +kernel
theorem d_Tx_isLie_6 : decode bc_Tx_isLie 6 = .ok (.iconst 1, 1) := by decide +kernel
theorem d_Tx_isLie_7 : decode bc_Tx_isLie 7 = .ok (.iand, 1) := by decide +kernel
theorem d_Tx_isLie_8 : decode bc_Tx_isLie 8 = .ok (.ifCond .eq 7, 3) := by decide +kernel
theorem d_Tx_isLie_11 : decode bc_Tx_isLie 11 = .ok (.iconst 1, 1) := by decide +kernel
theorem d_Tx_isLie_12 : decode bc_Tx_isLie 12 = .ok (.goto 4, 3) := by decide +kernel
theorem d_Tx_isLie_15 : decode bc_Tx_isLie 15 = .ok (.iconst 0, 1) := by decide +kernel
theorem d_Tx_isLie_16 : decode bc_Tx_isLie 16 = .ok (.ireturn, 1) := by decide +kernel
set_option maxRecDepth 20000 in
theorem w_Tx_isLie_b0 {X : CX} {V : WV} {tx : Nat} (hV : IsC V) (htx : isTx tx) {S : Mem} {z : Int32} (hC : Ck X V bc_Tx_isLie 2 "SecretWells$Text" (some .boolean) 0 0) (x1 : Int32) (h : f_Tx_isLie_b0 tx S x1 = some z) : G X V 2 (QI X V z S) 0 [some (.ref (V.2.2.1 tx 0)), some (.int x1)] [] S := by
  unfold f_Tx_isLie_b0 at h
  refine g_aload_n (pc := 0) hC (i := 0) (x := (V.2.2.1 tx 0)) rfl rfl d_Tx_isLie_0 ?_
  refine g_getI (pc := 1) hC fo_Tx_24 (ob_Tx hV htx) rfl d_Tx_isLie_1 ?_
  refine g_iload_n (pc := 4) hC (i := 1) (x := x1) rfl rfl d_Tx_isLie_4 ?_
  refine g_ishr (pc := 5) hC d_Tx_isLie_5 ?_
  refine g_iconst (pc := 6) hC kc_1 d_Tx_isLie_6 ?_
  refine g_iand (pc := 7) hC d_Tx_isLie_7 ?_
  refine g_if_eq (pc := 8) hC (tgt := 15) (by decide) d_Tx_isLie_8 h (fun h => ?_) (fun h => ?_)
  · refine g_iconst (pc := 15) hC kc_0 d_Tx_isLie_15 ?_
    exact g_iN (pc := 16) hC rfl d_Tx_isLie_16 h
  · refine g_iconst (pc := 11) hC kc_1 d_Tx_isLie_11 ?_
    refine g_goto (pc := 12) hC (tgt := 16) (by decide) d_Tx_isLie_12 ?_
    exact g_iN (pc := 16) hC rfl d_Tx_isLie_16 h
theorem c_Tx_isLie {V : WV} {l : Launch} (hV : IsC V) {tx : Nat} (htx : isTx tx) {x1 : Int32} {S : Mem} {z : Int32} (h : f_Tx_isLie tx x1 S = some z) : CI V l y_Tx_isLie bc_Tx_isLie 2 (some .boolean) 0 0 [.ref (V.2.2.1 tx 0), .int x1] S z S :=
  ct_i rfl (IsC.ok hV) (Nat.le_of_ble_eq_true rfl) (fun _ _ hC => w_Tx_isLie_b0 hV htx hC x1 h)
def f_St_share_b16 (x0 : Int32) (x1 : Int32) : Option (Int32) :=
  gNz x1 (
  some ((x0 * 10) / x1))
def f_St_share_b0 (x0 : Int32) (x1 : Int32) (x2 : Int32) : Option (Int32) :=
  if x1 ≤ 0 then
    some 0
  else
    if x1 < x2 then
      f_St_share_b16 x0 x1
    else
      if x2 ≤ 1 then
        f_St_share_b16 x0 x1
      else
        some 0
def f_St_share (x0 : Int32) (x1 : Int32) (x2 : Int32) : Option (Int32) := f_St_share_b0  x0 x1 x2
theorem d_St_share_0 : decode bc_St_share 0 = .ok (.iload_n 1, 1) := by decide +kernel
theorem d_St_share_1 : decode bc_St_share 1 = .ok (.ifCond .le 13, 3) := by decide +kernel
theorem d_St_share_4 : decode bc_St_share 4 = .ok (.iload_n 1, 1) := by decide +kernel
theorem d_St_share_5 : decode bc_St_share 5 = .ok (.iload_n 2, 1) := by decide +kernel
theorem d_St_share_6 : decode bc_St_share 6 = .ok (.if_icmp .lt 10, 3) := by decide +kernel
theorem d_St_share_9 : decode bc_St_share 9 = .ok (.iload_n 2, 1) := by decide +kernel
theorem d_St_share_10 : decode bc_St_share 10 = .ok (.iconst 1, 1) := by decide +kernel
theorem d_St_share_11 : decode bc_St_share 11 = .ok (.if_icmp .le 5, 3) := by decide +kernel
theorem d_St_share_14 : decode bc_St_share 14 = .ok (.iconst 0, 1) := by decide +kernel
theorem d_St_share_15 : decode bc_St_share 15 = .ok (.ireturn, 1) := by decide +kernel
theorem d_St_share_16 : decode bc_St_share 16 = .ok (.iload_n 0, 1) := by decide +kernel
theorem d_St_share_17 : decode bc_St_share 17 = .ok (.bipush 10, 2) := by decide +kernel
theorem d_St_share_19 : decode bc_St_share 19 = .ok (.imul, 1) := by decide +kernel
theorem d_St_share_20 : decode bc_St_share 20 = .ok (.iload_n 1, 1) := by decide +kernel
theorem d_St_share_21 : decode bc_St_share 21 = .ok (.idiv, 1) := by decide +kernel
theorem d_St_share_22 : decode bc_St_share 22 = .ok (.ireturn, 1) := by decide +kernel
set_option maxRecDepth 20000 in
theorem w_St_share_b16 {X : CX} {V : WV} (hVO : VOk V) {S : Mem} {z : Int32} (hC : Ck X V bc_St_share 3 "SecretWells$State" (some .int) 0 0) (x0 : Int32) (x1 : Int32) (h : f_St_share_b16  x0 x1 = some z) : G X V 3 (QI X V z S) 16 [some (.int x0), some (.int x1), none] [] S := by
  unfold f_St_share_b16 at h
  refine g_iload_n (pc := 16) hC (i := 0) (x := x0) rfl rfl d_St_share_16 ?_
  refine g_bipush (pc := 17) hC kb_10 d_St_share_17 ?_
  refine g_imul (pc := 19) hC d_St_share_19 ?_
  refine g_iload_n (pc := 20) hC (i := 1) (x := x1) rfl rfl d_St_share_20 ?_
  refine g_idiv (pc := 21) hC d_St_share_21 h (fun h => ?_)
  exact g_iN (pc := 22) hC rfl d_St_share_22 h
set_option maxRecDepth 20000 in
theorem w_St_share_b0 {X : CX} {V : WV} (hVO : VOk V) {S : Mem} {z : Int32} (hC : Ck X V bc_St_share 3 "SecretWells$State" (some .int) 0 0) (x0 : Int32) (x1 : Int32) (x2 : Int32) (h : f_St_share_b0  x0 x1 x2 = some z) : G X V 3 (QI X V z S) 0 [some (.int x0), some (.int x1), some (.int x2)] [] S := by
  unfold f_St_share_b0 at h
  refine g_iload_n (pc := 0) hC (i := 1) (x := x1) rfl rfl d_St_share_0 ?_
  refine g_if_le (pc := 1) hC (tgt := 14) (by decide) d_St_share_1 h (fun h => ?_) (fun h => ?_)
  · refine g_iconst (pc := 14) hC kc_0 d_St_share_14 ?_
    exact g_iN (pc := 15) hC rfl d_St_share_15 h
  · refine g_iload_n (pc := 4) hC (i := 1) (x := x1) rfl rfl d_St_share_4 ?_
    refine g_iload_n (pc := 5) hC (i := 2) (x := x2) rfl rfl d_St_share_5 ?_
    refine g_icmp_lt (pc := 6) hC (tgt := 16) (by decide) d_St_share_6 h (fun h => ?_) (fun h => ?_)
    · refine g_le (lv2 := [some (.int x0), some (.int x1), none]) (⟨rfl, ⟨rfl, trivial⟩⟩) ?_
      exact w_St_share_b16 hVO hC x0 x1 h
    · refine g_iload_n (pc := 9) hC (i := 2) (x := x2) rfl rfl d_St_share_9 ?_
      refine g_iconst (pc := 10) hC kc_1 d_St_share_10 ?_
      refine g_icmp_le (pc := 11) hC (tgt := 16) (by decide) d_St_share_11 h (fun h => ?_) (fun h => ?_)
      · refine g_le (lv2 := [some (.int x0), some (.int x1), none]) (⟨rfl, ⟨rfl, trivial⟩⟩) ?_
        exact w_St_share_b16 hVO hC x0 x1 h
      · refine g_iconst (pc := 14) hC kc_0 d_St_share_14 ?_
        exact g_iN (pc := 15) hC rfl d_St_share_15 h
theorem c_St_share {V : WV} {l : Launch} (hVO : VOk V) {x0 : Int32} {x1 : Int32} {x2 : Int32} {S : Mem} {z : Int32} (h : f_St_share x0 x1 x2 = some z) : CI V l y_St_share bc_St_share 3 (some .int) 0 0 [.int x0, .int x1, .int x2] S z S :=
  ct_i rfl hVO (Nat.le_of_ble_eq_true rfl) (fun _ _ hC => w_St_share_b0 hVO hC x0 x1 x2 h)
def f_St_measure_b146 (st : Nat) (tx : Nat) (k93 : Int32 → Int32 → Mem → Option (Mem)) (x2 : Int32) (x3 : Int32) (s0 : Int32) (s1 : Int32) (S : Mem) : Option (Mem) :=
  gIn s1 8 (letS (sA S st 12 s1 s0) (fun S146 =>
  gIn x3 8 (
  letS (S146.2.1 st 8 x3.toNatClampNeg) (fun y153 =>
  if y153 < 0 then
    k93 x2 (x3 + 1) S146
  else
    gIn x3 8 (
    if (S146.2.1 st 12 x3.toNatClampNeg) ≤ 0 then
      k93 x2 (x3 + 1) S146
    else
      gIn y153 4 (
      gIn x3 8 (
      gIn y153 4 (letS (sA S146 st 9 y153 ((S146.2.1 st 9 y153.toNatClampNeg) + (S146.2.1 st 12 x3.toNatClampNeg))) (fun S184 =>
      gIn y153 4 (
      gIn y153 4 (letS (sA S184 st 10 y153 ((S184.2.1 st 10 y153.toNatClampNeg) ||| ((1 : Int32) <<< (x3 &&& 31)))) (fun S197 =>
      k93 x2 (x3 + 1) S197))))))))))))
def f_St_measure_b93 (st : Nat) (tx : Nat) (k93 : Int32 → Int32 → Mem → Option (Mem)) (x2 : Int32) (x3 : Int32) (S : Mem) : Option (Mem) :=
  if (S.1 tx 2) ≤ x3 then
    some S
  else
    Option.bind (f_St_knowers st tx x3 S) (fun q104 =>
    Option.bind (f_JInt_bitCount (q104 &&& (S.1 st 1))) (fun q112 =>
    Option.bind (f_Tx_isLie tx x3 S) (fun q124 =>
    if q124 = 0 then
      gIn x3 8 (
      Option.bind (f_St_share (S.2.1 tx 13 x3.toNatClampNeg) q112 x2) (fun q143 =>
      f_St_measure_b146 st tx k93 x2 x3 q143 x3 S))
    else
      f_St_measure_b146 st tx k93 x2 x3 0 x3 S)))
def f_St_measure_l93 (st : Nat) (tx : Nat) : Nat → Int32 → Int32 → Mem → Option (Mem)
  | 0 => fun _ _ _ => none
  | n + 1 => f_St_measure_b93 st tx (f_St_measure_l93 st tx n)
def f_St_measure_b52 (st : Nat) (tx : Nat) (k52 : Int32 → Int32 → Mem → Option (Mem)) (x2 : Int32) (x3 : Int32) (S : Mem) : Option (Mem) :=
  if (S.1 tx 1) ≤ x3 then
    f_St_measure_l93 st tx 5000 x2 0 S
  else
    Option.bind (f_St_isAlive st x3 S) (fun q62 =>
    if q62 = 0 then
      k52 x2 (x3 + 1) S
    else
      gIn x3 7 (
      gIn (S.2.1 st 5 x3.toNatClampNeg) 4 (
      gIn (S.2.1 st 5 x3.toNatClampNeg) 4 (letS (sA S st 11 (S.2.1 st 5 x3.toNatClampNeg) ((S.2.1 st 11 (S.2.1 st 5 x3.toNatClampNeg).toNatClampNeg) ||| ((1 : Int32) <<< (x3 &&& 31)))) (fun S84 =>
      k52 x2 (x3 + 1) S84)))))
def f_St_measure_l52 (st : Nat) (tx : Nat) : Nat → Int32 → Int32 → Mem → Option (Mem)
  | 0 => fun _ _ _ => none
  | n + 1 => f_St_measure_b52 st tx (f_St_measure_l52 st tx n)
def f_St_measure_b10 (st : Nat) (tx : Nat) (k10 : Int32 → Int32 → Mem → Option (Mem)) (x2 : Int32) (x3 : Int32) (S : Mem) : Option (Mem) :=
  if (S.1 tx 0) ≤ x3 then
    f_St_measure_l52 st tx 5000 x2 0 S
  else
    gIn x3 4 (
    gIn x3 4 (letS (sA S st 9 x3 (S.2.1 tx 8 x3.toNatClampNeg)) (fun S29 =>
    gIn x3 4 (letS (sA S29 st 10 x3 0) (fun S36 =>
    gIn x3 4 (letS (sA S36 st 11 x3 0) (fun S43 =>
    k10 x2 (x3 + 1) S43)))))))
def f_St_measure_l10 (st : Nat) (tx : Nat) : Nat → Int32 → Int32 → Mem → Option (Mem)
  | 0 => fun _ _ _ => none
  | n + 1 => f_St_measure_b10 st tx (f_St_measure_l10 st tx n)
def f_St_measure_b0 (st : Nat) (tx : Nat) (S : Mem) : Option (Mem) :=
  Option.bind (f_JInt_bitCount (S.1 st 1)) (fun q4 =>
  f_St_measure_l10 st tx 5000 q4 0 S)
def f_St_measure (st : Nat) (tx : Nat) (S : Mem) : Option (Mem) := f_St_measure_b0 st tx S
theorem d_St_measure_0 : decode bc_St_measure 0 = .ok (.aload_n 0, 1) := by decide +kernel
theorem d_St_measure_1 : decode bc_St_measure 1 = .ok (.getfield 15, 3) := by decide +kernel
theorem d_St_measure_4 : decode bc_St_measure 4 = .ok (.invokestatic 79, 3) := by decide +kernel
theorem d_St_measure_7 : decode bc_St_measure 7 = .ok (.istore_n 2, 1) := by decide +kernel
theorem d_St_measure_8 : decode bc_St_measure 8 = .ok (.iconst 0, 1) := by decide +kernel
theorem d_St_measure_9 : decode bc_St_measure 9 = .ok (.istore_n 3, 1) := by decide +kernel
theorem d_St_measure_10 : decode bc_St_measure 10 = .ok (.iload_n 3, 1) := by decide +kernel
theorem d_St_measure_11 : decode bc_St_measure 11 = .ok (.aload_n 1, 1) := by decide +kernel
theorem d_St_measure_12 : decode bc_St_measure 12 = .ok (.getfield 85, 3) := by decide +kernel
theorem d_St_measure_15 : decode bc_St_measure 15 = .ok (.if_icmp .ge 35, 3) := by decide +kernel
theorem d_St_measure_18 : decode bc_St_measure 18 = .ok (.aload_n 0, 1) := by decide +kernel
theorem d_St_measure_19 : decode bc_St_measure 19 = .ok (.getfield 40, 3) := by decide +kernel
theorem d_St_measure_22 : decode bc_St_measure 22 = .ok (.iload_n 3, 1) := by decide +kernel
theorem d_St_measure_23 : decode bc_St_measure 23 = .ok (.aload_n 1, 1) := by decide +kernel
theorem d_St_measure_24 : decode bc_St_measure 24 = .ok (.getfield 88, 3) := by decide +kernel
theorem d_St_measure_27 : decode bc_St_measure 27 = .ok (.iload_n 3, 1) := by decide +kernel
theorem d_St_measure_28 : decode bc_St_measure 28 = .ok (.iaload, 1) := by decide +kernel
theorem d_St_measure_29 : decode bc_St_measure 29 = .ok (.iastore, 1) := by decide +kernel
theorem d_St_measure_30 : decode bc_St_measure 30 = .ok (.aload_n 0, 1) := by decide +kernel
theorem d_St_measure_31 : decode bc_St_measure 31 = .ok (.getfield 43, 3) := by decide +kernel
theorem d_St_measure_34 : decode bc_St_measure 34 = .ok (.iload_n 3, 1) := by decide +kernel
theorem d_St_measure_35 : decode bc_St_measure 35 = .ok (.iconst 0, 1) := by decide +kernel
theorem d_St_measure_36 : decode bc_St_measure 36 = .ok (.iastore, 1) := by decide +kernel
theorem d_St_measure_37 : decode bc_St_measure 37 = .ok (.aload_n 0, 1) := by decide +kernel
theorem d_St_measure_38 : decode bc_St_measure 38 = .ok (.getfield 46, 3) := by decide +kernel
theorem d_St_measure_41 : decode bc_St_measure 41 = .ok (.iload_n 3, 1) := by decide +kernel
theorem d_St_measure_42 : decode bc_St_measure 42 = .ok (.iconst 0, 1) := by decide +kernel
theorem d_St_measure_43 : decode bc_St_measure 43 = .ok (.iastore, 1) := by decide +kernel
theorem d_St_measure_44 : decode bc_St_measure 44 = .ok (.iinc 3 1, 3) := by decide +kernel
theorem d_St_measure_47 : decode bc_St_measure 47 = .ok (.goto (-37), 3) := by decide +kernel
theorem d_St_measure_50 : decode bc_St_measure 50 = .ok (.iconst 0, 1) := by decide +kernel
theorem d_St_measure_51 : decode bc_St_measure 51 = .ok (.istore_n 3, 1) := by decide +kernel
theorem d_St_measure_52 : decode bc_St_measure 52 = .ok (.iload_n 3, 1) := by decide +kernel
theorem d_St_measure_53 : decode bc_St_measure 53 = .ok (.aload_n 1, 1) := by decide +kernel
theorem d_St_measure_54 : decode bc_St_measure 54 = .ok (.getfield 52, 3) := by decide +kernel
theorem d_St_measure_57 : decode bc_St_measure 57 = .ok (.if_icmp .ge 34, 3) := by decide +kernel
theorem d_St_measure_60 : decode bc_St_measure 60 = .ok (.aload_n 0, 1) := by decide +kernel
theorem d_St_measure_61 : decode bc_St_measure 61 = .ok (.iload_n 3, 1) := by decide +kernel
theorem d_St_measure_62 : decode bc_St_measure 62 = .ok (.invokevirtual 91, 3) := by decide +kernel
theorem d_St_measure_65 : decode bc_St_measure 65 = .ok (.ifCond .eq 20, 3) := by decide +kernel
theorem d_St_measure_68 : decode bc_St_measure 68 = .ok (.aload_n 0, 1) := by decide +kernel
theorem d_St_measure_69 : decode bc_St_measure 69 = .ok (.getfield 46, 3) := by decide +kernel
theorem d_St_measure_72 : decode bc_St_measure 72 = .ok (.aload_n 0, 1) := by decide +kernel
theorem d_St_measure_73 : decode bc_St_measure 73 = .ok (.getfield 28, 3) := by decide +kernel
theorem d_St_measure_76 : decode bc_St_measure 76 = .ok (.iload_n 3, 1) := by decide +kernel
theorem d_St_measure_77 : decode bc_St_measure 77 = .ok (.iaload, 1) := by decide +kernel
theorem d_St_measure_78 : decode bc_St_measure 78 = .ok (.dup2, 1) := by decide +kernel
theorem d_St_measure_79 : decode bc_St_measure 79 = .ok (.iaload, 1) := by decide +kernel
theorem d_St_measure_80 : decode bc_St_measure 80 = .ok (.iconst 1, 1) := by decide +kernel
theorem d_St_measure_81 : decode bc_St_measure 81 = .ok (.iload_n 3, 1) := by decide +kernel
theorem d_St_measure_82 : decode bc_St_measure 82 = .ok (.ishl, 1) := by decide +kernel
theorem d_St_measure_83 : decode bc_St_measure 83 = .ok (.ior, 1) := by decide +kernel
theorem d_St_measure_84 : decode bc_St_measure 84 = .ok (.iastore, 1) := by decide +kernel
theorem d_St_measure_85 : decode bc_St_measure 85 = .ok (.iinc 3 1, 3) := by decide +kernel
theorem d_St_measure_88 : decode bc_St_measure 88 = .ok (.goto (-36), 3) := by decide +kernel
theorem d_St_measure_91 : decode bc_St_measure 91 = .ok (.iconst 0, 1) := by decide +kernel
theorem d_St_measure_92 : decode bc_St_measure 92 = .ok (.istore_n 3, 1) := by decide +kernel
theorem d_St_measure_93 : decode bc_St_measure 93 = .ok (.iload_n 3, 1) := by decide +kernel
theorem d_St_measure_94 : decode bc_St_measure 94 = .ok (.aload_n 1, 1) := by decide +kernel
theorem d_St_measure_95 : decode bc_St_measure 95 = .ok (.getfield 95, 3) := by decide +kernel
theorem d_St_measure_98 : decode bc_St_measure 98 = .ok (.if_icmp .ge 106, 3) := by decide +kernel
theorem d_St_measure_101 : decode bc_St_measure 101 = .ok (.aload_n 0, 1) := by decide +kernel
theorem d_St_measure_102 : decode bc_St_measure 102 = .ok (.aload_n 1, 1) := by decide +kernel
theorem d_St_measure_103 : decode bc_St_measure 103 = .ok (.iload_n 3, 1) := by decide +kernel
theorem d_St_measure_104 : decode bc_St_measure 104 = .ok (.invokevirtual 98, 3) := by decide +kernel
theorem d_St_measure_107 : decode bc_St_measure 107 = .ok (.aload_n 0, 1) := by decide +kernel
theorem d_St_measure_108 : decode bc_St_measure 108 = .ok (.getfield 15, 3) := by decide +kernel
theorem d_St_measure_111 : decode bc_St_measure 111 = .ok (.iand, 1) := by decide +kernel
theorem d_St_measure_112 : decode bc_St_measure 112 = .ok (.invokestatic 79, 3) := by decide +kernel
theorem d_St_measure_115 : decode bc_St_measure 115 = .ok (.istore 4, 2) := by decide +kernel
theorem d_St_measure_117 : decode bc_St_measure 117 = .ok (.aload_n 0, 1) := by decide +kernel
theorem d_St_measure_118 : decode bc_St_measure 118 = .ok (.getfield 49, 3) := by decide +kernel
theorem d_St_measure_121 : decode bc_St_measure 121 = .ok (.iload_n 3, 1) := by decide +kernel
theorem d_St_measure_122 : decode bc_St_measure 122 = .ok (.aload_n 1, 1) := by decide +kernel
theorem d_St_measure_123 : decode bc_St_measure 123 = .ok (.iload_n 3, 1) := by decide +kernel
theorem d_St_measure_124 : decode bc_St_measure 124 = .ok (.invokevirtual 102, 3) := by decide +kernel
theorem d_St_measure_127 : decode bc_St_measure 127 = .ok (.ifCond .eq 7, 3) := by decide +kernel
theorem d_St_measure_130 : decode bc_St_measure 130 = .ok (.iconst 0, 1) := by decide +kernel
theorem d_St_measure_131 : decode bc_St_measure 131 = .ok (.goto 15, 3) := by decide +kernel
theorem d_St_measure_134 : decode bc_St_measure 134 = .ok (.aload_n 1, 1) := by decide +kernel
theorem d_St_measure_135 : decode bc_St_measure 135 = .ok (.getfield 105, 3) := by decide +kernel
theorem d_St_measure_138 : decode bc_St_measure 138 = .ok (.iload_n 3, 1) := by decide +kernel
theorem d_St_measure_139 : decode bc_St_measure 139 = .ok (.iaload, 1) := by decide +kernel
theorem d_St_measure_140 : decode bc_St_measure 140 = .ok (.iload 4, 2) := by decide +kernel
theorem d_St_measure_142 : decode bc_St_measure 142 = .ok (.iload_n 2, 1) := by decide +kernel
theorem d_St_measure_143 : decode bc_St_measure 143 = .ok (.invokestatic 108, 3) := by decide +kernel
theorem d_St_measure_146 : decode bc_St_measure 146 = .ok (.iastore, 1) := by decide +kernel
theorem d_St_measure_147 : decode bc_St_measure 147 = .ok (.aload_n 0, 1) := by decide +kernel
theorem d_St_measure_148 : decode bc_St_measure 148 = .ok (.getfield 37, 3) := by decide +kernel
theorem d_St_measure_151 : decode bc_St_measure 151 = .ok (.iload_n 3, 1) := by decide +kernel
theorem d_St_measure_152 : decode bc_St_measure 152 = .ok (.iaload, 1) := by decide +kernel
theorem d_St_measure_153 : decode bc_St_measure 153 = .ok (.istore 5, 2) := by decide +kernel
theorem d_St_measure_155 : decode bc_St_measure 155 = .ok (.iload 5, 2) := by decide +kernel
theorem d_St_measure_157 : decode bc_St_measure 157 = .ok (.ifCond .lt 41, 3) := by decide +kernel
theorem d_St_measure_160 : decode bc_St_measure 160 = .ok (.aload_n 0, 1) := by decide +kernel
theorem d_St_measure_161 : decode bc_St_measure 161 = .ok (.getfield 49, 3) := by decide +kernel
theorem d_St_measure_164 : decode bc_St_measure 164 = .ok (.iload_n 3, 1) := by decide +kernel
theorem d_St_measure_165 : decode bc_St_measure 165 = .ok (.iaload, 1) := by decide +kernel
theorem d_St_measure_166 : decode bc_St_measure 166 = .ok (.ifCond .le 32, 3) := by decide +kernel
theorem d_St_measure_169 : decode bc_St_measure 169 = .ok (.aload_n 0, 1) := by decide +kernel
theorem d_St_measure_170 : decode bc_St_measure 170 = .ok (.getfield 40, 3) := by decide +kernel
theorem d_St_measure_173 : decode bc_St_measure 173 = .ok (.iload 5, 2) := by decide +kernel
theorem d_St_measure_175 : decode bc_St_measure 175 = .ok (.dup2, 1) := by decide +kernel
theorem d_St_measure_176 : decode bc_St_measure 176 = .ok (.iaload, 1) := by decide +kernel
theorem d_St_measure_177 : decode bc_St_measure 177 = .ok (.aload_n 0, 1) := by decide +kernel
theorem d_St_measure_178 : decode bc_St_measure 178 = .ok (.getfield 49, 3) := by decide +kernel
theorem d_St_measure_181 : decode bc_St_measure 181 = .ok (.iload_n 3, 1) := by decide +kernel
theorem d_St_measure_182 : decode bc_St_measure 182 = .ok (.iaload, 1) := by decide +kernel
theorem d_St_measure_183 : decode bc_St_measure 183 = .ok (.iadd, 1) := by decide +kernel
theorem d_St_measure_184 : decode bc_St_measure 184 = .ok (.iastore, 1) := by decide +kernel
theorem d_St_measure_185 : decode bc_St_measure 185 = .ok (.aload_n 0, 1) := by decide +kernel
theorem d_St_measure_186 : decode bc_St_measure 186 = .ok (.getfield 43, 3) := by decide +kernel
theorem d_St_measure_189 : decode bc_St_measure 189 = .ok (.iload 5, 2) := by decide +kernel
theorem d_St_measure_191 : decode bc_St_measure 191 = .ok (.dup2, 1) := by decide +kernel
theorem d_St_measure_192 : decode bc_St_measure 192 = .ok (.iaload, 1) := by decide +kernel
theorem d_St_measure_193 : decode bc_St_measure 193 = .ok (.iconst 1, 1) := by decide +kernel
theorem d_St_measure_194 : decode bc_St_measure 194 = .ok (.iload_n 3, 1) := by decide +kernel
theorem d_St_measure_195 : decode bc_St_measure 195 = .ok (.ishl, 1) := by decide +kernel
theorem d_St_measure_196 : decode bc_St_measure 196 = .ok (.ior, 1) := by decide +kernel
theorem d_St_measure_197 : decode bc_St_measure 197 = .ok (.iastore, 1) := by decide +kernel
theorem d_St_measure_198 : decode bc_St_measure 198 = .ok (.iinc 3 1, 3) := by decide +kernel
theorem d_St_measure_201 : decode bc_St_measure 201 = .ok (.goto (-108), 3) := by decide +kernel
theorem d_St_measure_204 : decode bc_St_measure 204 = .ok (.return_, 1) := by decide +kernel
set_option maxRecDepth 20000 in
theorem w_St_measure_b146 {X : CX} {V : WV} {st : Nat} {tx : Nat} (hV : IsC V) (hst : isSt st) (htx : isTx tx) {z : Mem} (hC : Ck X V bc_St_measure 6 "SecretWells$State" none 1 24) (k93 : Int32 → Int32 → Mem → Option (Mem)) (hk93 : ∀ (x2 : Int32) (x3 : Int32) (S : Mem), k93 x2 x3 S = some z → G X V 6 (QV X V z) 93 [some (.ref (V.2.2.1 st 0)), some (.ref (V.2.2.1 tx 0)), some (.int x2), some (.int x3), none, none] [] S) (x2 : Int32) (x3 : Int32) (s0 : Int32) (s1 : Int32) (S : Mem) (h : f_St_measure_b146 st tx k93 x2 x3 s0 s1 S = some z) : G X V 6 (QV X V z) 146 [some (.ref (V.2.2.1 st 0)), some (.ref (V.2.2.1 tx 0)), some (.int x2), some (.int x3), none, none] [.int s0, .int s1, .ref (V.2.2.1 st (12 + 1))] S := by
  unfold f_St_measure_b146 at h
  refine g_iast (pc := 146) hC (ar_St_12 hV hst) d_St_measure_146 h (fun h => ?_)
  refine g_letS h (fun S146 h => ?_)
  refine g_aload_n (pc := 147) hC (i := 0) (x := (V.2.2.1 st 0)) rfl rfl d_St_measure_147 ?_
  refine g_getA (pc := 148) hC fo_St_37 (ob_St hV hst) rfl d_St_measure_148 ?_
  refine g_iload_n (pc := 151) hC (i := 3) (x := x3) rfl rfl d_St_measure_151 ?_
  refine g_iald (pc := 152) hC (ar_St_8 hV hst) d_St_measure_152 h (fun h => ?_)
  refine g_leti h (fun y153 h => ?_)
  refine s_istore (pc := 153) hC (i := 5) (by decide) d_St_measure_153 (lv2 := [some (.ref (V.2.2.1 st 0)), some (.ref (V.2.2.1 tx 0)), some (.int x2), some (.int x3), none, some (.int y153)]) rfl ?_
  refine g_iload (pc := 155) hC (i := 5) (x := y153) rfl d_St_measure_155 ?_
  refine g_if_lt (pc := 157) hC (tgt := 198) (by decide) d_St_measure_157 h (fun h => ?_) (fun h => ?_)
  · refine s_iinc (pc := 198) hC (i := 3) (x := x3) (v := x3 + 1) rfl (by rw [kc_1]) (by decide) d_St_measure_198 (lv2 := [some (.ref (V.2.2.1 st 0)), some (.ref (V.2.2.1 tx 0)), some (.int x2), some (.int (x3 + 1)), none, some (.int y153)]) rfl ?_
    refine g_goto (pc := 201) hC (tgt := 93) (by decide) d_St_measure_201 ?_
    refine g_le (lv2 := [some (.ref (V.2.2.1 st 0)), some (.ref (V.2.2.1 tx 0)), some (.int x2), some (.int (x3 + 1)), none, none]) (⟨rfl, ⟨rfl, ⟨rfl, ⟨rfl, trivial⟩⟩⟩⟩) ?_
    exact hk93 x2 (x3 + 1) S146 h
  · refine g_aload_n (pc := 160) hC (i := 0) (x := (V.2.2.1 st 0)) rfl rfl d_St_measure_160 ?_
    refine g_getA (pc := 161) hC fo_St_49 (ob_St hV hst) rfl d_St_measure_161 ?_
    refine g_iload_n (pc := 164) hC (i := 3) (x := x3) rfl rfl d_St_measure_164 ?_
    refine g_iald (pc := 165) hC (ar_St_12 hV hst) d_St_measure_165 h (fun h => ?_)
    refine g_if_le (pc := 166) hC (tgt := 198) (by decide) d_St_measure_166 h (fun h => ?_) (fun h => ?_)
    · refine s_iinc (pc := 198) hC (i := 3) (x := x3) (v := x3 + 1) rfl (by rw [kc_1]) (by decide) d_St_measure_198 (lv2 := [some (.ref (V.2.2.1 st 0)), some (.ref (V.2.2.1 tx 0)), some (.int x2), some (.int (x3 + 1)), none, some (.int y153)]) rfl ?_
      refine g_goto (pc := 201) hC (tgt := 93) (by decide) d_St_measure_201 ?_
      refine g_le (lv2 := [some (.ref (V.2.2.1 st 0)), some (.ref (V.2.2.1 tx 0)), some (.int x2), some (.int (x3 + 1)), none, none]) (⟨rfl, ⟨rfl, ⟨rfl, ⟨rfl, trivial⟩⟩⟩⟩) ?_
      exact hk93 x2 (x3 + 1) S146 h
    · refine g_aload_n (pc := 169) hC (i := 0) (x := (V.2.2.1 st 0)) rfl rfl d_St_measure_169 ?_
      refine g_getA (pc := 170) hC fo_St_40 (ob_St hV hst) rfl d_St_measure_170 ?_
      refine g_iload (pc := 173) hC (i := 5) (x := y153) rfl d_St_measure_173 ?_
      refine g_dup2 (pc := 175) hC rfl rfl d_St_measure_175 ?_
      refine g_iald (pc := 176) hC (ar_St_9 hV hst) d_St_measure_176 h (fun h => ?_)
      refine g_aload_n (pc := 177) hC (i := 0) (x := (V.2.2.1 st 0)) rfl rfl d_St_measure_177 ?_
      refine g_getA (pc := 178) hC fo_St_49 (ob_St hV hst) rfl d_St_measure_178 ?_
      refine g_iload_n (pc := 181) hC (i := 3) (x := x3) rfl rfl d_St_measure_181 ?_
      refine g_iald (pc := 182) hC (ar_St_12 hV hst) d_St_measure_182 h (fun h => ?_)
      refine g_iadd (pc := 183) hC d_St_measure_183 ?_
      refine g_iast (pc := 184) hC (ar_St_9 hV hst) d_St_measure_184 h (fun h => ?_)
      refine g_letS h (fun S184 h => ?_)
      refine g_aload_n (pc := 185) hC (i := 0) (x := (V.2.2.1 st 0)) rfl rfl d_St_measure_185 ?_
      refine g_getA (pc := 186) hC fo_St_43 (ob_St hV hst) rfl d_St_measure_186 ?_
      refine g_iload (pc := 189) hC (i := 5) (x := y153) rfl d_St_measure_189 ?_
      refine g_dup2 (pc := 191) hC rfl rfl d_St_measure_191 ?_
      refine g_iald (pc := 192) hC (ar_St_10 hV hst) d_St_measure_192 h (fun h => ?_)
      refine g_iconst (pc := 193) hC kc_1 d_St_measure_193 ?_
      refine g_iload_n (pc := 194) hC (i := 3) (x := x3) rfl rfl d_St_measure_194 ?_
      refine g_ishl (pc := 195) hC d_St_measure_195 ?_
      refine g_ior (pc := 196) hC d_St_measure_196 ?_
      refine g_iast (pc := 197) hC (ar_St_10 hV hst) d_St_measure_197 h (fun h => ?_)
      refine g_letS h (fun S197 h => ?_)
      refine s_iinc (pc := 198) hC (i := 3) (x := x3) (v := x3 + 1) rfl (by rw [kc_1]) (by decide) d_St_measure_198 (lv2 := [some (.ref (V.2.2.1 st 0)), some (.ref (V.2.2.1 tx 0)), some (.int x2), some (.int (x3 + 1)), none, some (.int y153)]) rfl ?_
      refine g_goto (pc := 201) hC (tgt := 93) (by decide) d_St_measure_201 ?_
      refine g_le (lv2 := [some (.ref (V.2.2.1 st 0)), some (.ref (V.2.2.1 tx 0)), some (.int x2), some (.int (x3 + 1)), none, none]) (⟨rfl, ⟨rfl, ⟨rfl, ⟨rfl, trivial⟩⟩⟩⟩) ?_
      exact hk93 x2 (x3 + 1) S197 h
set_option maxRecDepth 20000 in
theorem w_St_measure_b93 {X : CX} {V : WV} {st : Nat} {tx : Nat} (hV : IsC V) (hst : isSt st) (htx : isTx tx) {z : Mem} (hC : Ck X V bc_St_measure 6 "SecretWells$State" none 1 24) (k93 : Int32 → Int32 → Mem → Option (Mem)) (hk93 : ∀ (x2 : Int32) (x3 : Int32) (S : Mem), k93 x2 x3 S = some z → G X V 6 (QV X V z) 93 [some (.ref (V.2.2.1 st 0)), some (.ref (V.2.2.1 tx 0)), some (.int x2), some (.int x3), none, none] [] S) (x2 : Int32) (x3 : Int32) (S : Mem) (h : f_St_measure_b93 st tx k93 x2 x3 S = some z) : G X V 6 (QV X V z) 93 [some (.ref (V.2.2.1 st 0)), some (.ref (V.2.2.1 tx 0)), some (.int x2), some (.int x3), none, none] [] S := by
  unfold f_St_measure_b93 at h
  refine g_iload_n (pc := 93) hC (i := 3) (x := x3) rfl rfl d_St_measure_93 ?_
  refine g_aload_n (pc := 94) hC (i := 1) (x := (V.2.2.1 tx 0)) rfl rfl d_St_measure_94 ?_
  refine g_getI (pc := 95) hC fo_St_95 (ob_Tx hV htx) rfl d_St_measure_95 ?_
  refine g_icmp_ge (pc := 98) hC (tgt := 204) (by decide) d_St_measure_98 h (fun h => ?_) (fun h => ?_)
  · exact g_vW (pc := 204) hC d_St_measure_204 h
  · refine g_aload_n (pc := 101) hC (i := 0) (x := (V.2.2.1 st 0)) rfl rfl d_St_measure_101 ?_
    refine g_aload_n (pc := 102) hC (i := 1) (x := (V.2.2.1 tx 0)) rfl rfl d_St_measure_102 ?_
    refine g_iload_n (pc := 103) hC (i := 3) (x := x3) rfl rfl d_St_measure_103 ?_
    obtain ⟨q104, hq104, h⟩ := Option.bind_eq_some_iff.mp h
    refine g_vi (pc := 104) hC (As := [.ref (V.2.2.1 tx 0), .int x3]) (st := []) mt_St_knowers lk_St_98 rfl (ob_St hV hst) (Nat.le_of_ble_eq_true rfl) ⟨Nat.le_of_ble_eq_true rfl, Nat.le_of_ble_eq_true rfl⟩ rfl d_St_measure_104 (c_St_knowers hV hst htx hq104) ?_
    refine g_aload_n (pc := 107) hC (i := 0) (x := (V.2.2.1 st 0)) rfl rfl d_St_measure_107 ?_
    refine g_getI (pc := 108) hC fo_St_15 (ob_St hV hst) rfl d_St_measure_108 ?_
    refine g_iand (pc := 111) hC d_St_measure_111 ?_
    obtain ⟨q112, hq112, h⟩ := Option.bind_eq_some_iff.mp h
    refine g_si (pc := 112) hC (As := [.int (q104 &&& (S.1 st 1))]) (st := []) mt_JInt_bitCount lk_St_79 (Nat.le_of_ble_eq_true rfl) ⟨Nat.le_of_ble_eq_true rfl, Nat.le_of_ble_eq_true rfl⟩ rfl d_St_measure_112 (c_JInt_bitCount (IsC.ok hV) hq112) ?_
    refine s_istore (pc := 115) hC (i := 4) (by decide) d_St_measure_115 (lv2 := [some (.ref (V.2.2.1 st 0)), some (.ref (V.2.2.1 tx 0)), some (.int x2), some (.int x3), some (.int q112), none]) rfl ?_
    refine g_aload_n (pc := 117) hC (i := 0) (x := (V.2.2.1 st 0)) rfl rfl d_St_measure_117 ?_
    refine g_getA (pc := 118) hC fo_St_49 (ob_St hV hst) rfl d_St_measure_118 ?_
    refine g_iload_n (pc := 121) hC (i := 3) (x := x3) rfl rfl d_St_measure_121 ?_
    refine g_aload_n (pc := 122) hC (i := 1) (x := (V.2.2.1 tx 0)) rfl rfl d_St_measure_122 ?_
    refine g_iload_n (pc := 123) hC (i := 3) (x := x3) rfl rfl d_St_measure_123 ?_
    obtain ⟨q124, hq124, h⟩ := Option.bind_eq_some_iff.mp h
    refine g_vi (pc := 124) hC (As := [.int x3]) (st := [.int x3, .ref (V.2.2.1 st (12 + 1))]) mt_Tx_isLie lk_St_102 rfl (ob_Tx hV htx) (Nat.le_of_ble_eq_true rfl) ⟨Nat.le_of_ble_eq_true rfl, Nat.le_of_ble_eq_true rfl⟩ rfl d_St_measure_124 (c_Tx_isLie hV htx hq124) ?_
    refine g_if_eq (pc := 127) hC (tgt := 134) (by decide) d_St_measure_127 h (fun h => ?_) (fun h => ?_)
    · refine g_aload_n (pc := 134) hC (i := 1) (x := (V.2.2.1 tx 0)) rfl rfl d_St_measure_134 ?_
      refine g_getA (pc := 135) hC fo_St_105 (ob_Tx hV htx) rfl d_St_measure_135 ?_
      refine g_iload_n (pc := 138) hC (i := 3) (x := x3) rfl rfl d_St_measure_138 ?_
      refine g_iald (pc := 139) hC (ar_Tx_13 hV htx) d_St_measure_139 h (fun h => ?_)
      refine g_iload (pc := 140) hC (i := 4) (x := q112) rfl d_St_measure_140 ?_
      refine g_iload_n (pc := 142) hC (i := 2) (x := x2) rfl rfl d_St_measure_142 ?_
      obtain ⟨q143, hq143, h⟩ := Option.bind_eq_some_iff.mp h
      refine g_si (pc := 143) hC (As := [.int (S.2.1 tx 13 x3.toNatClampNeg), .int q112, .int x2]) (st := [.int x3, .ref (V.2.2.1 st (12 + 1))]) mt_St_share lk_St_108 (Nat.le_of_ble_eq_true rfl) ⟨Nat.le_of_ble_eq_true rfl, Nat.le_of_ble_eq_true rfl⟩ rfl d_St_measure_143 (c_St_share (IsC.ok hV) hq143) ?_
      refine g_le (lv2 := [some (.ref (V.2.2.1 st 0)), some (.ref (V.2.2.1 tx 0)), some (.int x2), some (.int x3), none, none]) (⟨rfl, ⟨rfl, ⟨rfl, ⟨rfl, trivial⟩⟩⟩⟩) ?_
      exact w_St_measure_b146 hV hst htx hC k93 hk93 x2 x3 q143 x3 S h
    · refine g_iconst (pc := 130) hC kc_0 d_St_measure_130 ?_
      refine g_goto (pc := 131) hC (tgt := 146) (by decide) d_St_measure_131 ?_
      refine g_le (lv2 := [some (.ref (V.2.2.1 st 0)), some (.ref (V.2.2.1 tx 0)), some (.int x2), some (.int x3), none, none]) (⟨rfl, ⟨rfl, ⟨rfl, ⟨rfl, trivial⟩⟩⟩⟩) ?_
      exact w_St_measure_b146 hV hst htx hC k93 hk93 x2 x3 0 x3 S h
theorem w_St_measure_l93 {X : CX} {V : WV} {st : Nat} {tx : Nat} (hV : IsC V) (hst : isSt st) (htx : isTx tx) {z : Mem} (hC : Ck X V bc_St_measure 6 "SecretWells$State" none 1 24) : ∀ (n : Nat) (x2 : Int32) (x3 : Int32) (S : Mem), f_St_measure_l93 st tx n x2 x3 S = some z → G X V 6 (QV X V z) 93 [some (.ref (V.2.2.1 st 0)), some (.ref (V.2.2.1 tx 0)), some (.int x2), some (.int x3), none, none] [] S := by
  intro n
  induction n with
  | zero =>
    intro x2 x3 S h
    have h : (none : Option (Mem)) = some z := h
    cases h
  | succ n ih =>
    intro x2 x3 S h
    exact w_St_measure_b93 hV hst htx hC (f_St_measure_l93 st tx n) ih x2 x3 S h
set_option maxRecDepth 20000 in
theorem w_St_measure_b52 {X : CX} {V : WV} {st : Nat} {tx : Nat} (hV : IsC V) (hst : isSt st) (htx : isTx tx) {z : Mem} (hC : Ck X V bc_St_measure 6 "SecretWells$State" none 1 24) (k52 : Int32 → Int32 → Mem → Option (Mem)) (hk52 : ∀ (x2 : Int32) (x3 : Int32) (S : Mem), k52 x2 x3 S = some z → G X V 6 (QV X V z) 52 [some (.ref (V.2.2.1 st 0)), some (.ref (V.2.2.1 tx 0)), some (.int x2), some (.int x3), none, none] [] S) (x2 : Int32) (x3 : Int32) (S : Mem) (h : f_St_measure_b52 st tx k52 x2 x3 S = some z) : G X V 6 (QV X V z) 52 [some (.ref (V.2.2.1 st 0)), some (.ref (V.2.2.1 tx 0)), some (.int x2), some (.int x3), none, none] [] S := by
  unfold f_St_measure_b52 at h
  refine g_iload_n (pc := 52) hC (i := 3) (x := x3) rfl rfl d_St_measure_52 ?_
  refine g_aload_n (pc := 53) hC (i := 1) (x := (V.2.2.1 tx 0)) rfl rfl d_St_measure_53 ?_
  refine g_getI (pc := 54) hC fo_St_52 (ob_Tx hV htx) rfl d_St_measure_54 ?_
  refine g_icmp_ge (pc := 57) hC (tgt := 91) (by decide) d_St_measure_57 h (fun h => ?_) (fun h => ?_)
  · refine g_iconst (pc := 91) hC kc_0 d_St_measure_91 ?_
    refine s_istore_n (pc := 92) hC (i := 3) rfl (by decide) d_St_measure_92 (lv2 := [some (.ref (V.2.2.1 st 0)), some (.ref (V.2.2.1 tx 0)), some (.int x2), some (.int 0), none, none]) rfl ?_
    exact w_St_measure_l93 hV hst htx hC 5000 x2 0 S h
  · refine g_aload_n (pc := 60) hC (i := 0) (x := (V.2.2.1 st 0)) rfl rfl d_St_measure_60 ?_
    refine g_iload_n (pc := 61) hC (i := 3) (x := x3) rfl rfl d_St_measure_61 ?_
    obtain ⟨q62, hq62, h⟩ := Option.bind_eq_some_iff.mp h
    refine g_vi (pc := 62) hC (As := [.int x3]) (st := []) mt_St_isAlive lk_St_91 rfl (ob_St hV hst) (Nat.le_of_ble_eq_true rfl) ⟨Nat.le_of_ble_eq_true rfl, Nat.le_of_ble_eq_true rfl⟩ rfl d_St_measure_62 (c_St_isAlive hV hst hq62) ?_
    refine g_if_eq (pc := 65) hC (tgt := 85) (by decide) d_St_measure_65 h (fun h => ?_) (fun h => ?_)
    · refine s_iinc (pc := 85) hC (i := 3) (x := x3) (v := x3 + 1) rfl (by rw [kc_1]) (by decide) d_St_measure_85 (lv2 := [some (.ref (V.2.2.1 st 0)), some (.ref (V.2.2.1 tx 0)), some (.int x2), some (.int (x3 + 1)), none, none]) rfl ?_
      refine g_goto (pc := 88) hC (tgt := 52) (by decide) d_St_measure_88 ?_
      exact hk52 x2 (x3 + 1) S h
    · refine g_aload_n (pc := 68) hC (i := 0) (x := (V.2.2.1 st 0)) rfl rfl d_St_measure_68 ?_
      refine g_getA (pc := 69) hC fo_St_46 (ob_St hV hst) rfl d_St_measure_69 ?_
      refine g_aload_n (pc := 72) hC (i := 0) (x := (V.2.2.1 st 0)) rfl rfl d_St_measure_72 ?_
      refine g_getA (pc := 73) hC fo_St_28 (ob_St hV hst) rfl d_St_measure_73 ?_
      refine g_iload_n (pc := 76) hC (i := 3) (x := x3) rfl rfl d_St_measure_76 ?_
      refine g_iald (pc := 77) hC (ar_St_5 hV hst) d_St_measure_77 h (fun h => ?_)
      refine g_dup2 (pc := 78) hC rfl rfl d_St_measure_78 ?_
      refine g_iald (pc := 79) hC (ar_St_11 hV hst) d_St_measure_79 h (fun h => ?_)
      refine g_iconst (pc := 80) hC kc_1 d_St_measure_80 ?_
      refine g_iload_n (pc := 81) hC (i := 3) (x := x3) rfl rfl d_St_measure_81 ?_
      refine g_ishl (pc := 82) hC d_St_measure_82 ?_
      refine g_ior (pc := 83) hC d_St_measure_83 ?_
      refine g_iast (pc := 84) hC (ar_St_11 hV hst) d_St_measure_84 h (fun h => ?_)
      refine g_letS h (fun S84 h => ?_)
      refine s_iinc (pc := 85) hC (i := 3) (x := x3) (v := x3 + 1) rfl (by rw [kc_1]) (by decide) d_St_measure_85 (lv2 := [some (.ref (V.2.2.1 st 0)), some (.ref (V.2.2.1 tx 0)), some (.int x2), some (.int (x3 + 1)), none, none]) rfl ?_
      refine g_goto (pc := 88) hC (tgt := 52) (by decide) d_St_measure_88 ?_
      exact hk52 x2 (x3 + 1) S84 h
theorem w_St_measure_l52 {X : CX} {V : WV} {st : Nat} {tx : Nat} (hV : IsC V) (hst : isSt st) (htx : isTx tx) {z : Mem} (hC : Ck X V bc_St_measure 6 "SecretWells$State" none 1 24) : ∀ (n : Nat) (x2 : Int32) (x3 : Int32) (S : Mem), f_St_measure_l52 st tx n x2 x3 S = some z → G X V 6 (QV X V z) 52 [some (.ref (V.2.2.1 st 0)), some (.ref (V.2.2.1 tx 0)), some (.int x2), some (.int x3), none, none] [] S := by
  intro n
  induction n with
  | zero =>
    intro x2 x3 S h
    have h : (none : Option (Mem)) = some z := h
    cases h
  | succ n ih =>
    intro x2 x3 S h
    exact w_St_measure_b52 hV hst htx hC (f_St_measure_l52 st tx n) ih x2 x3 S h
set_option maxRecDepth 20000 in
theorem w_St_measure_b10 {X : CX} {V : WV} {st : Nat} {tx : Nat} (hV : IsC V) (hst : isSt st) (htx : isTx tx) {z : Mem} (hC : Ck X V bc_St_measure 6 "SecretWells$State" none 1 24) (k10 : Int32 → Int32 → Mem → Option (Mem)) (hk10 : ∀ (x2 : Int32) (x3 : Int32) (S : Mem), k10 x2 x3 S = some z → G X V 6 (QV X V z) 10 [some (.ref (V.2.2.1 st 0)), some (.ref (V.2.2.1 tx 0)), some (.int x2), some (.int x3), none, none] [] S) (x2 : Int32) (x3 : Int32) (S : Mem) (h : f_St_measure_b10 st tx k10 x2 x3 S = some z) : G X V 6 (QV X V z) 10 [some (.ref (V.2.2.1 st 0)), some (.ref (V.2.2.1 tx 0)), some (.int x2), some (.int x3), none, none] [] S := by
  unfold f_St_measure_b10 at h
  refine g_iload_n (pc := 10) hC (i := 3) (x := x3) rfl rfl d_St_measure_10 ?_
  refine g_aload_n (pc := 11) hC (i := 1) (x := (V.2.2.1 tx 0)) rfl rfl d_St_measure_11 ?_
  refine g_getI (pc := 12) hC fo_St_85 (ob_Tx hV htx) rfl d_St_measure_12 ?_
  refine g_icmp_ge (pc := 15) hC (tgt := 50) (by decide) d_St_measure_15 h (fun h => ?_) (fun h => ?_)
  · refine g_iconst (pc := 50) hC kc_0 d_St_measure_50 ?_
    refine s_istore_n (pc := 51) hC (i := 3) rfl (by decide) d_St_measure_51 (lv2 := [some (.ref (V.2.2.1 st 0)), some (.ref (V.2.2.1 tx 0)), some (.int x2), some (.int 0), none, none]) rfl ?_
    exact w_St_measure_l52 hV hst htx hC 5000 x2 0 S h
  · refine g_aload_n (pc := 18) hC (i := 0) (x := (V.2.2.1 st 0)) rfl rfl d_St_measure_18 ?_
    refine g_getA (pc := 19) hC fo_St_40 (ob_St hV hst) rfl d_St_measure_19 ?_
    refine g_iload_n (pc := 22) hC (i := 3) (x := x3) rfl rfl d_St_measure_22 ?_
    refine g_aload_n (pc := 23) hC (i := 1) (x := (V.2.2.1 tx 0)) rfl rfl d_St_measure_23 ?_
    refine g_getA (pc := 24) hC fo_St_88 (ob_Tx hV htx) rfl d_St_measure_24 ?_
    refine g_iload_n (pc := 27) hC (i := 3) (x := x3) rfl rfl d_St_measure_27 ?_
    refine g_iald (pc := 28) hC (ar_Tx_8 hV htx) d_St_measure_28 h (fun h => ?_)
    refine g_iast (pc := 29) hC (ar_St_9 hV hst) d_St_measure_29 h (fun h => ?_)
    refine g_letS h (fun S29 h => ?_)
    refine g_aload_n (pc := 30) hC (i := 0) (x := (V.2.2.1 st 0)) rfl rfl d_St_measure_30 ?_
    refine g_getA (pc := 31) hC fo_St_43 (ob_St hV hst) rfl d_St_measure_31 ?_
    refine g_iload_n (pc := 34) hC (i := 3) (x := x3) rfl rfl d_St_measure_34 ?_
    refine g_iconst (pc := 35) hC kc_0 d_St_measure_35 ?_
    refine g_iast (pc := 36) hC (ar_St_10 hV hst) d_St_measure_36 h (fun h => ?_)
    refine g_letS h (fun S36 h => ?_)
    refine g_aload_n (pc := 37) hC (i := 0) (x := (V.2.2.1 st 0)) rfl rfl d_St_measure_37 ?_
    refine g_getA (pc := 38) hC fo_St_46 (ob_St hV hst) rfl d_St_measure_38 ?_
    refine g_iload_n (pc := 41) hC (i := 3) (x := x3) rfl rfl d_St_measure_41 ?_
    refine g_iconst (pc := 42) hC kc_0 d_St_measure_42 ?_
    refine g_iast (pc := 43) hC (ar_St_11 hV hst) d_St_measure_43 h (fun h => ?_)
    refine g_letS h (fun S43 h => ?_)
    refine s_iinc (pc := 44) hC (i := 3) (x := x3) (v := x3 + 1) rfl (by rw [kc_1]) (by decide) d_St_measure_44 (lv2 := [some (.ref (V.2.2.1 st 0)), some (.ref (V.2.2.1 tx 0)), some (.int x2), some (.int (x3 + 1)), none, none]) rfl ?_
    refine g_goto (pc := 47) hC (tgt := 10) (by decide) d_St_measure_47 ?_
    exact hk10 x2 (x3 + 1) S43 h
theorem w_St_measure_l10 {X : CX} {V : WV} {st : Nat} {tx : Nat} (hV : IsC V) (hst : isSt st) (htx : isTx tx) {z : Mem} (hC : Ck X V bc_St_measure 6 "SecretWells$State" none 1 24) : ∀ (n : Nat) (x2 : Int32) (x3 : Int32) (S : Mem), f_St_measure_l10 st tx n x2 x3 S = some z → G X V 6 (QV X V z) 10 [some (.ref (V.2.2.1 st 0)), some (.ref (V.2.2.1 tx 0)), some (.int x2), some (.int x3), none, none] [] S := by
  intro n
  induction n with
  | zero =>
    intro x2 x3 S h
    have h : (none : Option (Mem)) = some z := h
    cases h
  | succ n ih =>
    intro x2 x3 S h
    exact w_St_measure_b10 hV hst htx hC (f_St_measure_l10 st tx n) ih x2 x3 S h
set_option maxRecDepth 20000 in
theorem w_St_measure_b0 {X : CX} {V : WV} {st : Nat} {tx : Nat} (hV : IsC V) (hst : isSt st) (htx : isTx tx) {z : Mem} (hC : Ck X V bc_St_measure 6 "SecretWells$State" none 1 24) (S : Mem) (h : f_St_measure_b0 st tx S = some z) : G X V 6 (QV X V z) 0 [some (.ref (V.2.2.1 st 0)), some (.ref (V.2.2.1 tx 0)), none, none, none, none] [] S := by
  unfold f_St_measure_b0 at h
  refine g_aload_n (pc := 0) hC (i := 0) (x := (V.2.2.1 st 0)) rfl rfl d_St_measure_0 ?_
  refine g_getI (pc := 1) hC fo_St_15 (ob_St hV hst) rfl d_St_measure_1 ?_
  obtain ⟨q4, hq4, h⟩ := Option.bind_eq_some_iff.mp h
  refine g_si (pc := 4) hC (As := [.int (S.1 st 1)]) (st := []) mt_JInt_bitCount lk_St_79 (Nat.le_of_ble_eq_true rfl) ⟨Nat.le_of_ble_eq_true rfl, Nat.le_of_ble_eq_true rfl⟩ rfl d_St_measure_4 (c_JInt_bitCount (IsC.ok hV) hq4) ?_
  refine s_istore_n (pc := 7) hC (i := 2) rfl (by decide) d_St_measure_7 (lv2 := [some (.ref (V.2.2.1 st 0)), some (.ref (V.2.2.1 tx 0)), some (.int q4), none, none, none]) rfl ?_
  refine g_iconst (pc := 8) hC kc_0 d_St_measure_8 ?_
  refine s_istore_n (pc := 9) hC (i := 3) rfl (by decide) d_St_measure_9 (lv2 := [some (.ref (V.2.2.1 st 0)), some (.ref (V.2.2.1 tx 0)), some (.int q4), some (.int 0), none, none]) rfl ?_
  exact w_St_measure_l10 hV hst htx hC 5000 q4 0 S h
theorem c_St_measure {V : WV} {l : Launch} (hV : IsC V) {st : Nat} {tx : Nat} (hst : isSt st) (htx : isTx tx) {S : Mem} {z : Mem} (h : f_St_measure st tx S = some z) : CV V l y_St_measure bc_St_measure 6 none 1 24 [.ref (V.2.2.1 st 0), .ref (V.2.2.1 tx 0)] S z :=
  ct_v rfl (IsC.ok hV) (Nat.le_of_ble_eq_true rfl) (fun _ _ hC => w_St_measure_b0 hV hst htx hC S h)
def f_Dy_drink_b0 (tx : Nat) (st : Nat) (x3 : Int32) (S : Mem) : Option (Mem) :=
  gIn x3 7 (
  letS (S.2.1 st 5 x3.toNatClampNeg) (fun y6 =>
  Option.bind (f_Dy_drinksNow tx st x3 S) (fun q12 =>
  letS q12.1 (fun y15 =>
  gIn y6 4 (
  if (q12.2.2.1 st 4 y6.toNatClampNeg) < y15 then
    gIn y6 4 (letS (sA q12.2 st 4 y6 0) (fun S56 =>
    gIn x3 7 (
    gIn x3 7 (letS (sA S56 st 6 x3 ((S56.2.1 st 6 x3.toNatClampNeg) + 1)) (fun S66 =>
    gIn x3 7 (
    if (S66.2.1 st 6 x3.toNatClampNeg) < (S66.1 tx 5) then
      some S66
    else
      letS (pI S66 st 1 ((S66.1 st 1) &&& (((1 : Int32) <<< (x3 &&& 31)) ^^^ (-1)))) (fun S91 =>
      Option.bind (f_St_measure st tx S91) (fun q96 =>
      some q96))))))))
  else
    gIn y6 4 (
    gIn y6 4 (letS (sA q12.2 st 4 y6 ((q12.2.2.1 st 4 y6.toNatClampNeg) - y15)) (fun S40 =>
    gIn x3 7 (letS (sA S40 st 6 x3 0) (fun S47 =>
    some S47))))))))))
def f_Dy_drink (tx : Nat) (st : Nat) (x3 : Int32) (S : Mem) : Option (Mem) := f_Dy_drink_b0 tx st x3 S
theorem d_Dy_drink_0 : decode bc_Dy_drink 0 = .ok (.aload_n 2, 1) := by decide +kernel
theorem d_Dy_drink_1 : decode bc_Dy_drink 1 = .ok (.getfield 76, 3) := by decide +kernel
theorem d_Dy_drink_4 : decode bc_Dy_drink 4 = .ok (.iload_n 3, 1) := by decide +kernel
theorem d_Dy_drink_5 : decode bc_Dy_drink 5 = .ok (.iaload, 1) := by decide +kernel
theorem d_Dy_drink_6 : decode bc_Dy_drink 6 = .ok (.istore 4, 2) := by decide +kernel
theorem d_Dy_drink_8 : decode bc_Dy_drink 8 = .ok (.aload_n 0, 1) := by decide +kernel
theorem d_Dy_drink_9 : decode bc_Dy_drink 9 = .ok (.aload_n 1, 1) := by decide +kernel
theorem d_Dy_drink_10 : decode bc_Dy_drink 10 = .ok (.aload_n 2, 1) := by decide +kernel
theorem d_Dy_drink_11 : decode bc_Dy_drink 11 = .ok (.iload_n 3, 1) := by decide +kernel
theorem d_Dy_drink_12 : decode bc_Dy_drink 12 = .ok (.invokevirtual 79, 3) := by decide +kernel
theorem d_Dy_drink_15 : decode bc_Dy_drink 15 = .ok (.istore 5, 2) := by decide +kernel
theorem d_Dy_drink_17 : decode bc_Dy_drink 17 = .ok (.aload_n 2, 1) := by decide +kernel
theorem d_Dy_drink_18 : decode bc_Dy_drink 18 = .ok (.getfield 28, 3) := by decide +kernel
theorem d_Dy_drink_21 : decode bc_Dy_drink 21 = .ok (.iload 4, 2) := by decide +kernel
theorem d_Dy_drink_23 : decode bc_Dy_drink 23 = .ok (.iaload, 1) := by decide +kernel
theorem d_Dy_drink_24 : decode bc_Dy_drink 24 = .ok (.iload 5, 2) := by decide +kernel
theorem d_Dy_drink_26 : decode bc_Dy_drink 26 = .ok (.if_icmp .lt 23, 3) := by decide +kernel
theorem d_Dy_drink_29 : decode bc_Dy_drink 29 = .ok (.aload_n 2, 1) := by decide +kernel
theorem d_Dy_drink_30 : decode bc_Dy_drink 30 = .ok (.getfield 28, 3) := by decide +kernel
theorem d_Dy_drink_33 : decode bc_Dy_drink 33 = .ok (.iload 4, 2) := by decide +kernel
theorem d_Dy_drink_35 : decode bc_Dy_drink 35 = .ok (.dup2, 1) := by decide +kernel
theorem d_Dy_drink_36 : decode bc_Dy_drink 36 = .ok (.iaload, 1) := by decide +kernel
theorem d_Dy_drink_37 : decode bc_Dy_drink 37 = .ok (.iload 5, 2) := by decide +kernel
theorem d_Dy_drink_39 : decode bc_Dy_drink 39 = .ok (.isub, 1) := by decide +kernel
theorem d_Dy_drink_40 : decode bc_Dy_drink 40 = .ok (.iastore, 1) := by decide +kernel
theorem d_Dy_drink_41 : decode bc_Dy_drink 41 = .ok (.aload_n 2, 1) := by decide +kernel
theorem d_Dy_drink_42 : decode bc_Dy_drink 42 = .ok (.getfield 82, 3) := by decide +kernel
theorem d_Dy_drink_45 : decode bc_Dy_drink 45 = .ok (.iload_n 3, 1) := by decide +kernel
theorem d_Dy_drink_46 : decode bc_Dy_drink 46 = .ok (.iconst 0, 1) := by decide +kernel
theorem d_Dy_drink_47 : decode bc_Dy_drink 47 = .ok (.iastore, 1) := by decide +kernel
theorem d_Dy_drink_48 : decode bc_Dy_drink 48 = .ok (.return_, 1) := by decide +kernel
theorem d_Dy_drink_49 : decode bc_Dy_drink 49 = .ok (.aload_n 2, 1) := by decide +kernel
theorem d_Dy_drink_50 : decode bc_Dy_drink 50 = .ok (.getfield 28, 3) := by decide +kernel
theorem d_Dy_drink_53 : decode bc_Dy_drink 53 = .ok (.iload 4, 2) := by decide +kernel
theorem d_Dy_drink_55 : decode bc_Dy_drink 55 = .ok (.iconst 0, 1) := by decide +kernel
theorem d_Dy_drink_56 : decode bc_Dy_drink 56 = .ok (.iastore, 1) := by decide +kernel
theorem d_Dy_drink_57 : decode bc_Dy_drink 57 = .ok (.aload_n 2, 1) := by decide +kernel
theorem d_Dy_drink_58 : decode bc_Dy_drink 58 = .ok (.getfield 82, 3) := by decide +kernel
theorem d_Dy_drink_61 : decode bc_Dy_drink 61 = .ok (.iload_n 3, 1) := by decide +kernel
theorem d_Dy_drink_62 : decode bc_Dy_drink 62 = .ok (.dup2, 1) := by decide +kernel
theorem d_Dy_drink_63 : decode bc_Dy_drink 63 = .ok (.iaload, 1) := by decide +kernel
theorem d_Dy_drink_64 : decode bc_Dy_drink 64 = .ok (.iconst 1, 1) := by decide +kernel
theorem d_Dy_drink_65 : decode bc_Dy_drink 65 = .ok (.iadd, 1) := by decide +kernel
theorem d_Dy_drink_66 : decode bc_Dy_drink 66 = .ok (.iastore, 1) := by decide +kernel
theorem d_Dy_drink_67 : decode bc_Dy_drink 67 = .ok (.aload_n 2, 1) := by decide +kernel
theorem d_Dy_drink_68 : decode bc_Dy_drink 68 = .ok (.getfield 82, 3) := by decide +kernel
theorem d_Dy_drink_71 : decode bc_Dy_drink 71 = .ok (.iload_n 3, 1) := by decide +kernel
theorem d_Dy_drink_72 : decode bc_Dy_drink 72 = .ok (.iaload, 1) := by decide +kernel
theorem d_Dy_drink_73 : decode bc_Dy_drink 73 = .ok (.aload_n 1, 1) := by decide +kernel
theorem d_Dy_drink_74 : decode bc_Dy_drink 74 = .ok (.getfield 85, 3) := by decide +kernel
theorem d_Dy_drink_77 : decode bc_Dy_drink 77 = .ok (.if_icmp .lt 22, 3) := by decide +kernel
theorem d_Dy_drink_80 : decode bc_Dy_drink 80 = .ok (.aload_n 2, 1) := by decide +kernel
theorem d_Dy_drink_81 : decode bc_Dy_drink 81 = .ok (.dup, 1) := by decide +kernel
theorem d_Dy_drink_82 : decode bc_Dy_drink 82 = .ok (.getfield 87, 3) := by decide +kernel
theorem d_Dy_drink_85 : decode bc_Dy_drink 85 = .ok (.iconst 1, 1) := by decide +kernel
theorem d_Dy_drink_86 : decode bc_Dy_drink 86 = .ok (.iload_n 3, 1) := by decide +kernel
theorem d_Dy_drink_87 : decode bc_Dy_drink 87 = .ok (.ishl, 1) := by decide +kernel
theorem d_Dy_drink_88 : decode bc_Dy_drink 88 = .ok (.iconst (-1), 1) := by decide +kernel
theorem d_Dy_drink_89 : decode bc_Dy_drink 89 = .ok (.ixor, 1) := by decide +kernel
theorem d_Dy_drink_90 : decode bc_Dy_drink 90 = .ok (.iand, 1) := by decide +kernel
theorem d_Dy_drink_91 : decode bc_Dy_drink 91 = .ok (.putfield 87, 3) := by decide +kernel
theorem d_Dy_drink_94 : decode bc_Dy_drink 94 = .ok (.aload_n 2, 1) := by decide +kernel
theorem d_Dy_drink_95 : decode bc_Dy_drink 95 = .ok (.aload_n 1, 1) := by decide +kernel
theorem d_Dy_drink_96 : decode bc_Dy_drink 96 = .ok (.invokevirtual 90, 3) := by decide +kernel
theorem d_Dy_drink_99 : decode bc_Dy_drink 99 = .ok (.return_, 1) := by decide +kernel
set_option maxRecDepth 20000 in
theorem w_Dy_drink_b0 {X : CX} {V : WV} {tx : Nat} {st : Nat} (hV : IsC V) (htx : isTx tx) (hst : isSt st) {z : Mem} (hC : Ck X V bc_Dy_drink 6 "SecretWells$Days" none 3 73) (x3 : Int32) (S : Mem) (h : f_Dy_drink_b0 tx st x3 S = some z) : G X V 6 (QV X V z) 0 [some (.ref (V.2.2.1 6 0)), some (.ref (V.2.2.1 tx 0)), some (.ref (V.2.2.1 st 0)), some (.int x3), none, none] [] S := by
  unfold f_Dy_drink_b0 at h
  refine g_aload_n (pc := 0) hC (i := 2) (x := (V.2.2.1 st 0)) rfl rfl d_Dy_drink_0 ?_
  refine g_getA (pc := 1) hC fo_Dy_76 (ob_St hV hst) rfl d_Dy_drink_1 ?_
  refine g_iload_n (pc := 4) hC (i := 3) (x := x3) rfl rfl d_Dy_drink_4 ?_
  refine g_iald (pc := 5) hC (ar_St_5 hV hst) d_Dy_drink_5 h (fun h => ?_)
  refine g_leti h (fun y6 h => ?_)
  refine s_istore (pc := 6) hC (i := 4) (by decide) d_Dy_drink_6 (lv2 := [some (.ref (V.2.2.1 6 0)), some (.ref (V.2.2.1 tx 0)), some (.ref (V.2.2.1 st 0)), some (.int x3), some (.int y6), none]) rfl ?_
  refine g_aload_n (pc := 8) hC (i := 0) (x := (V.2.2.1 6 0)) rfl rfl d_Dy_drink_8 ?_
  refine g_aload_n (pc := 9) hC (i := 1) (x := (V.2.2.1 tx 0)) rfl rfl d_Dy_drink_9 ?_
  refine g_aload_n (pc := 10) hC (i := 2) (x := (V.2.2.1 st 0)) rfl rfl d_Dy_drink_10 ?_
  refine g_iload_n (pc := 11) hC (i := 3) (x := x3) rfl rfl d_Dy_drink_11 ?_
  obtain ⟨q12, hq12, h⟩ := Option.bind_eq_some_iff.mp h
  refine g_vi (pc := 12) hC (As := [.ref (V.2.2.1 tx 0), .ref (V.2.2.1 st 0), .int x3]) (st := []) mt_Dy_drinksNow lk_Dy_79 rfl (ob_Dy hV) (Nat.le_of_ble_eq_true rfl) ⟨Nat.le_of_ble_eq_true rfl, Nat.le_of_ble_eq_true rfl⟩ rfl d_Dy_drink_12 (c_Dy_drinksNow hV htx hst hq12) ?_
  refine g_leti h (fun y15 h => ?_)
  refine s_istore (pc := 15) hC (i := 5) (by decide) d_Dy_drink_15 (lv2 := [some (.ref (V.2.2.1 6 0)), some (.ref (V.2.2.1 tx 0)), some (.ref (V.2.2.1 st 0)), some (.int x3), some (.int y6), some (.int y15)]) rfl ?_
  refine g_aload_n (pc := 17) hC (i := 2) (x := (V.2.2.1 st 0)) rfl rfl d_Dy_drink_17 ?_
  refine g_getA (pc := 18) hC fo_Dy_28 (ob_St hV hst) rfl d_Dy_drink_18 ?_
  refine g_iload (pc := 21) hC (i := 4) (x := y6) rfl d_Dy_drink_21 ?_
  refine g_iald (pc := 23) hC (ar_St_4 hV hst) d_Dy_drink_23 h (fun h => ?_)
  refine g_iload (pc := 24) hC (i := 5) (x := y15) rfl d_Dy_drink_24 ?_
  refine g_icmp_lt (pc := 26) hC (tgt := 49) (by decide) d_Dy_drink_26 h (fun h => ?_) (fun h => ?_)
  · refine g_aload_n (pc := 49) hC (i := 2) (x := (V.2.2.1 st 0)) rfl rfl d_Dy_drink_49 ?_
    refine g_getA (pc := 50) hC fo_Dy_28 (ob_St hV hst) rfl d_Dy_drink_50 ?_
    refine g_iload (pc := 53) hC (i := 4) (x := y6) rfl d_Dy_drink_53 ?_
    refine g_iconst (pc := 55) hC kc_0 d_Dy_drink_55 ?_
    refine g_iast (pc := 56) hC (ar_St_4 hV hst) d_Dy_drink_56 h (fun h => ?_)
    refine g_letS h (fun S56 h => ?_)
    refine g_aload_n (pc := 57) hC (i := 2) (x := (V.2.2.1 st 0)) rfl rfl d_Dy_drink_57 ?_
    refine g_getA (pc := 58) hC fo_Dy_82 (ob_St hV hst) rfl d_Dy_drink_58 ?_
    refine g_iload_n (pc := 61) hC (i := 3) (x := x3) rfl rfl d_Dy_drink_61 ?_
    refine g_dup2 (pc := 62) hC rfl rfl d_Dy_drink_62 ?_
    refine g_iald (pc := 63) hC (ar_St_6 hV hst) d_Dy_drink_63 h (fun h => ?_)
    refine g_iconst (pc := 64) hC kc_1 d_Dy_drink_64 ?_
    refine g_iadd (pc := 65) hC d_Dy_drink_65 ?_
    refine g_iast (pc := 66) hC (ar_St_6 hV hst) d_Dy_drink_66 h (fun h => ?_)
    refine g_letS h (fun S66 h => ?_)
    refine g_aload_n (pc := 67) hC (i := 2) (x := (V.2.2.1 st 0)) rfl rfl d_Dy_drink_67 ?_
    refine g_getA (pc := 68) hC fo_Dy_82 (ob_St hV hst) rfl d_Dy_drink_68 ?_
    refine g_iload_n (pc := 71) hC (i := 3) (x := x3) rfl rfl d_Dy_drink_71 ?_
    refine g_iald (pc := 72) hC (ar_St_6 hV hst) d_Dy_drink_72 h (fun h => ?_)
    refine g_aload_n (pc := 73) hC (i := 1) (x := (V.2.2.1 tx 0)) rfl rfl d_Dy_drink_73 ?_
    refine g_getI (pc := 74) hC fo_Dy_85 (ob_Tx hV htx) rfl d_Dy_drink_74 ?_
    refine g_icmp_lt (pc := 77) hC (tgt := 99) (by decide) d_Dy_drink_77 h (fun h => ?_) (fun h => ?_)
    · exact g_vW (pc := 99) hC d_Dy_drink_99 h
    · refine g_aload_n (pc := 80) hC (i := 2) (x := (V.2.2.1 st 0)) rfl rfl d_Dy_drink_80 ?_
      refine g_dup (pc := 81) hC rfl d_Dy_drink_81 ?_
      refine g_getI (pc := 82) hC fo_Dy_87 (ob_St hV hst) rfl d_Dy_drink_82 ?_
      refine g_iconst (pc := 85) hC kc_1 d_Dy_drink_85 ?_
      refine g_iload_n (pc := 86) hC (i := 3) (x := x3) rfl rfl d_Dy_drink_86 ?_
      refine g_ishl (pc := 87) hC d_Dy_drink_87 ?_
      refine g_iconst (pc := 88) hC kc_m1 d_Dy_drink_88 ?_
      refine g_ixor (pc := 89) hC d_Dy_drink_89 ?_
      refine g_iand (pc := 90) hC d_Dy_drink_90 ?_
      refine g_putI (pc := 91) hC po_Dy_87 (ob_St hV hst) rfl rfl rfl d_Dy_drink_91 ?_
      refine g_letS h (fun S91 h => ?_)
      refine g_aload_n (pc := 94) hC (i := 2) (x := (V.2.2.1 st 0)) rfl rfl d_Dy_drink_94 ?_
      refine g_aload_n (pc := 95) hC (i := 1) (x := (V.2.2.1 tx 0)) rfl rfl d_Dy_drink_95 ?_
      obtain ⟨q96, hq96, h⟩ := Option.bind_eq_some_iff.mp h
      refine g_vv (pc := 96) hC (As := [.ref (V.2.2.1 tx 0)]) (st := []) mt_St_measure lk_Dy_90 rfl (ob_St hV hst) (Nat.le_of_ble_eq_true rfl) ⟨Nat.le_of_ble_eq_true rfl, Nat.le_of_ble_eq_true rfl⟩ rfl d_Dy_drink_96 (c_St_measure hV hst htx hq96) ?_
      exact g_vW (pc := 99) hC d_Dy_drink_99 h
  · refine g_aload_n (pc := 29) hC (i := 2) (x := (V.2.2.1 st 0)) rfl rfl d_Dy_drink_29 ?_
    refine g_getA (pc := 30) hC fo_Dy_28 (ob_St hV hst) rfl d_Dy_drink_30 ?_
    refine g_iload (pc := 33) hC (i := 4) (x := y6) rfl d_Dy_drink_33 ?_
    refine g_dup2 (pc := 35) hC rfl rfl d_Dy_drink_35 ?_
    refine g_iald (pc := 36) hC (ar_St_4 hV hst) d_Dy_drink_36 h (fun h => ?_)
    refine g_iload (pc := 37) hC (i := 5) (x := y15) rfl d_Dy_drink_37 ?_
    refine g_isub (pc := 39) hC d_Dy_drink_39 ?_
    refine g_iast (pc := 40) hC (ar_St_4 hV hst) d_Dy_drink_40 h (fun h => ?_)
    refine g_letS h (fun S40 h => ?_)
    refine g_aload_n (pc := 41) hC (i := 2) (x := (V.2.2.1 st 0)) rfl rfl d_Dy_drink_41 ?_
    refine g_getA (pc := 42) hC fo_Dy_82 (ob_St hV hst) rfl d_Dy_drink_42 ?_
    refine g_iload_n (pc := 45) hC (i := 3) (x := x3) rfl rfl d_Dy_drink_45 ?_
    refine g_iconst (pc := 46) hC kc_0 d_Dy_drink_46 ?_
    refine g_iast (pc := 47) hC (ar_St_6 hV hst) d_Dy_drink_47 h (fun h => ?_)
    refine g_letS h (fun S47 h => ?_)
    exact g_vW (pc := 48) hC d_Dy_drink_48 h
theorem c_Dy_drink {V : WV} {l : Launch} (hV : IsC V) {tx : Nat} {st : Nat} (htx : isTx tx) (hst : isSt st) {x3 : Int32} {S : Mem} {z : Mem} (h : f_Dy_drink tx st x3 S = some z) : CV V l y_Dy_drink bc_Dy_drink 6 none 3 73 [.ref (V.2.2.1 6 0), .ref (V.2.2.1 tx 0), .ref (V.2.2.1 st 0), .int x3] S z :=
  ct_v rfl (IsC.ok hV) (Nat.le_of_ble_eq_true rfl) (fun _ _ hC => w_Dy_drink_b0 hV htx hst hC x3 S h)
def f_St_isCut_b0 (st : Nat) (S : Mem) (x1 : Int32) : Option (Int32) :=
  if (((S.1 st 2) >>> (x1 &&& 31)) &&& 1) = 0 then
    some 0
  else
    some 1
def f_St_isCut (st : Nat) (x1 : Int32) (S : Mem) : Option (Int32) := f_St_isCut_b0 st S x1
theorem d_St_isCut_0 : decode bc_St_isCut 0 = .ok (.aload_n 0, 1) := by decide +kernel
theorem d_St_isCut_1 : decode bc_St_isCut 1 = .ok (.getfield 18, 3) := by decide +kernel
theorem d_St_isCut_4 : decode bc_St_isCut 4 = .ok (.iload_n 1, 1) := by decide +kernel
theorem d_St_isCut_5 : decode bc_St_isCut 5 = .ok (.ishr, 1) := by decide +kernel
theorem d_St_isCut_6 : decode bc_St_isCut 6 = .ok (.iconst 1, 1) := by decide +kernel
theorem d_St_isCut_7 : decode bc_St_isCut 7 = .ok (.iand, 1) := by decide +kernel
theorem d_St_isCut_8 : decode bc_St_isCut 8 = .ok (.ifCond .eq 7, 3) := by decide +kernel
theorem d_St_isCut_11 : decode bc_St_isCut 11 = .ok (.iconst 1, 1) := by decide +kernel
theorem d_St_isCut_12 : decode bc_St_isCut 12 = .ok (.goto 4, 3) := by decide +kernel
theorem d_St_isCut_15 : decode bc_St_isCut 15 = .ok (.iconst 0, 1) := by decide +kernel
theorem d_St_isCut_16 : decode bc_St_isCut 16 = .ok (.ireturn, 1) := by decide +kernel
set_option maxRecDepth 20000 in
theorem w_St_isCut_b0 {X : CX} {V : WV} {st : Nat} (hV : IsC V) (hst : isSt st) {S : Mem} {z : Int32} (hC : Ck X V bc_St_isCut 2 "SecretWells$State" (some .boolean) 0 0) (x1 : Int32) (h : f_St_isCut_b0 st S x1 = some z) : G X V 2 (QI X V z S) 0 [some (.ref (V.2.2.1 st 0)), some (.int x1)] [] S := by
  unfold f_St_isCut_b0 at h
  refine g_aload_n (pc := 0) hC (i := 0) (x := (V.2.2.1 st 0)) rfl rfl d_St_isCut_0 ?_
  refine g_getI (pc := 1) hC fo_St_18 (ob_St hV hst) rfl d_St_isCut_1 ?_
  refine g_iload_n (pc := 4) hC (i := 1) (x := x1) rfl rfl d_St_isCut_4 ?_
  refine g_ishr (pc := 5) hC d_St_isCut_5 ?_
  refine g_iconst (pc := 6) hC kc_1 d_St_isCut_6 ?_
  refine g_iand (pc := 7) hC d_St_isCut_7 ?_
  refine g_if_eq (pc := 8) hC (tgt := 15) (by decide) d_St_isCut_8 h (fun h => ?_) (fun h => ?_)
  · refine g_iconst (pc := 15) hC kc_0 d_St_isCut_15 ?_
    exact g_iN (pc := 16) hC rfl d_St_isCut_16 h
  · refine g_iconst (pc := 11) hC kc_1 d_St_isCut_11 ?_
    refine g_goto (pc := 12) hC (tgt := 16) (by decide) d_St_isCut_12 ?_
    exact g_iN (pc := 16) hC rfl d_St_isCut_16 h
theorem c_St_isCut {V : WV} {l : Launch} (hV : IsC V) {st : Nat} (hst : isSt st) {x1 : Int32} {S : Mem} {z : Int32} (h : f_St_isCut st x1 S = some z) : CI V l y_St_isCut bc_St_isCut 2 (some .boolean) 0 0 [.ref (V.2.2.1 st 0), .int x1] S z S :=
  ct_i rfl (IsC.ok hV) (Nat.le_of_ble_eq_true rfl) (fun _ _ hC => w_St_isCut_b0 hV hst hC x1 h)
def f_Dy_tellsNow_b0 (tx : Nat) (st : Nat) (x3 : Int32) (x4 : Int32) (S : Mem) : Option (Int32 × Mem) :=
  gIn x3 12 (
  letS (S.2.1 tx 15 x3.toNatClampNeg) (fun y6 =>
  gIn y6 7 (
  gIn 3 8 (letS (sA S 6 0 3 (S.2.1 st 6 y6.toNatClampNeg)) (fun S20 =>
  gIn y6 7 (
  Option.bind (f_JInt_bitCount (S20.2.1 st 7 y6.toNatClampNeg)) (fun q33 =>
  gIn 4 8 (letS (sA S20 6 0 4 q33) (fun S36 =>
  gIn x4 8 (
  gIn 5 8 (letS (sA S36 6 0 5 (S36.2.1 tx 13 x4.toNatClampNeg)) (fun S49 =>
  gIn 7 8 (letS (sA S49 6 0 7 x3) (fun S57 =>
  gIn y6 7 (
  Option.bind (f_Dy_look st (S57.2.1 st 5 y6.toNatClampNeg) S57) (fun q67 =>
  Option.bind (f_Lw_value (tx + 2) 100 q67) (fun q80 =>
  some (q80.1, q80.2))))))))))))))))))
def f_Dy_tellsNow (tx : Nat) (st : Nat) (x3 : Int32) (x4 : Int32) (S : Mem) : Option (Int32 × Mem) := f_Dy_tellsNow_b0 tx st x3 x4 S
theorem d_Dy_tellsNow_0 : decode bc_Dy_tellsNow 0 = .ok (.aload_n 1, 1) := by decide +kernel
theorem d_Dy_tellsNow_1 : decode bc_Dy_tellsNow 1 = .ok (.getfield 93, 3) := by decide +kernel
theorem d_Dy_tellsNow_4 : decode bc_Dy_tellsNow 4 = .ok (.iload_n 3, 1) := by decide +kernel
theorem d_Dy_tellsNow_5 : decode bc_Dy_tellsNow 5 = .ok (.iaload, 1) := by decide +kernel
theorem d_Dy_tellsNow_6 : decode bc_Dy_tellsNow 6 = .ok (.istore 5, 2) := by decide +kernel
theorem d_Dy_tellsNow_8 : decode bc_Dy_tellsNow 8 = .ok (.aload_n 0, 1) := by decide +kernel
theorem d_Dy_tellsNow_9 : decode bc_Dy_tellsNow 9 = .ok (.getfield 9, 3) := by decide +kernel
theorem d_Dy_tellsNow_12 : decode bc_Dy_tellsNow 12 = .ok (.iconst 3, 1) := by decide +kernel
theorem d_Dy_tellsNow_13 : decode bc_Dy_tellsNow 13 = .ok (.aload_n 2, 1) := by decide +kernel
theorem d_Dy_tellsNow_14 : decode bc_Dy_tellsNow 14 = .ok (.getfield 82, 3) := by decide +kernel
theorem d_Dy_tellsNow_17 : decode bc_Dy_tellsNow 17 = .ok (.iload 5, 2) := by decide +kernel
theorem d_Dy_tellsNow_19 : decode bc_Dy_tellsNow 19 = .ok (.iaload, 1) := by decide +kernel
theorem d_Dy_tellsNow_20 : decode bc_Dy_tellsNow 20 = .ok (.iastore, 1) := by decide +kernel
theorem d_Dy_tellsNow_21 : decode bc_Dy_tellsNow 21 = .ok (.aload_n 0, 1) := by decide +kernel
theorem d_Dy_tellsNow_22 : decode bc_Dy_tellsNow 22 = .ok (.getfield 9, 3) := by decide +kernel
theorem d_Dy_tellsNow_25 : decode bc_Dy_tellsNow 25 = .ok (.iconst 4, 1) := by decide +kernel
theorem d_Dy_tellsNow_26 : decode bc_Dy_tellsNow 26 = .ok (.aload_n 2, 1) := by decide +kernel
theorem d_Dy_tellsNow_27 : decode bc_Dy_tellsNow 27 = .ok (.getfield 53, 3) := by decide +kernel
theorem d_Dy_tellsNow_30 : decode bc_Dy_tellsNow 30 = .ok (.iload 5, 2) := by decide +kernel
theorem d_Dy_tellsNow_32 : decode bc_Dy_tellsNow 32 = .ok (.iaload, 1) := by decide +kernel
theorem d_Dy_tellsNow_33 : decode bc_Dy_tellsNow 33 = .ok (.invokestatic 116, 3) := by decide +kernel
theorem d_Dy_tellsNow_36 : decode bc_Dy_tellsNow 36 = .ok (.iastore, 1) := by decide +kernel
theorem d_Dy_tellsNow_37 : decode bc_Dy_tellsNow 37 = .ok (.aload_n 0, 1) := by decide +kernel
theorem d_Dy_tellsNow_38 : decode bc_Dy_tellsNow 38 = .ok (.getfield 9, 3) := by decide +kernel
theorem d_Dy_tellsNow_41 : decode bc_Dy_tellsNow 41 = .ok (.iconst 5, 1) := by decide +kernel
theorem d_Dy_tellsNow_42 : decode bc_Dy_tellsNow 42 = .ok (.aload_n 1, 1) := by decide +kernel
theorem d_Dy_tellsNow_43 : decode bc_Dy_tellsNow 43 = .ok (.getfield 146, 3) := by decide +kernel
theorem d_Dy_tellsNow_46 : decode bc_Dy_tellsNow 46 = .ok (.iload 4, 2) := by decide +kernel
theorem d_Dy_tellsNow_48 : decode bc_Dy_tellsNow 48 = .ok (.iaload, 1) := by decide +kernel
theorem d_Dy_tellsNow_49 : decode bc_Dy_tellsNow 49 = .ok (.iastore, 1) := by decide +kernel
theorem d_Dy_tellsNow_50 : decode bc_Dy_tellsNow 50 = .ok (.aload_n 0, 1) := by decide +kernel
theorem d_Dy_tellsNow_51 : decode bc_Dy_tellsNow 51 = .ok (.getfield 9, 3) := by decide +kernel
theorem d_Dy_tellsNow_54 : decode bc_Dy_tellsNow 54 = .ok (.bipush 7, 2) := by decide +kernel
theorem d_Dy_tellsNow_56 : decode bc_Dy_tellsNow 56 = .ok (.iload_n 3, 1) := by decide +kernel
theorem d_Dy_tellsNow_57 : decode bc_Dy_tellsNow 57 = .ok (.iastore, 1) := by decide +kernel
theorem d_Dy_tellsNow_58 : decode bc_Dy_tellsNow 58 = .ok (.aload_n 0, 1) := by decide +kernel
theorem d_Dy_tellsNow_59 : decode bc_Dy_tellsNow 59 = .ok (.aload_n 2, 1) := by decide +kernel
theorem d_Dy_tellsNow_60 : decode bc_Dy_tellsNow 60 = .ok (.aload_n 2, 1) := by decide +kernel
theorem d_Dy_tellsNow_61 : decode bc_Dy_tellsNow 61 = .ok (.getfield 76, 3) := by decide +kernel
theorem d_Dy_tellsNow_64 : decode bc_Dy_tellsNow 64 = .ok (.iload 5, 2) := by decide +kernel
theorem d_Dy_tellsNow_66 : decode bc_Dy_tellsNow 66 = .ok (.iaload, 1) := by decide +kernel
theorem d_Dy_tellsNow_67 : decode bc_Dy_tellsNow 67 = .ok (.invokevirtual 122, 3) := by decide +kernel
theorem d_Dy_tellsNow_70 : decode bc_Dy_tellsNow 70 = .ok (.aload_n 1, 1) := by decide +kernel
theorem d_Dy_tellsNow_71 : decode bc_Dy_tellsNow 71 = .ok (.getfield 149, 3) := by decide +kernel
theorem d_Dy_tellsNow_74 : decode bc_Dy_tellsNow 74 = .ok (.aload_n 0, 1) := by decide +kernel
theorem d_Dy_tellsNow_75 : decode bc_Dy_tellsNow 75 = .ok (.getfield 9, 3) := by decide +kernel
theorem d_Dy_tellsNow_78 : decode bc_Dy_tellsNow 78 = .ok (.bipush 100, 2) := by decide +kernel
theorem d_Dy_tellsNow_80 : decode bc_Dy_tellsNow 80 = .ok (.invokevirtual 130, 3) := by decide +kernel
theorem d_Dy_tellsNow_83 : decode bc_Dy_tellsNow 83 = .ok (.ireturn, 1) := by decide +kernel
set_option maxRecDepth 20000 in
theorem w_Dy_tellsNow_b0 {X : CX} {V : WV} {tx : Nat} {st : Nat} (hV : IsC V) (htx : isTx tx) (hst : isSt st) {z : Int32 × Mem} (hC : Ck X V bc_Dy_tellsNow 6 "SecretWells$Days" (some .int) 2 50) (x3 : Int32) (x4 : Int32) (S : Mem) (h : f_Dy_tellsNow_b0 tx st x3 x4 S = some z) : G X V 6 (QI X V z.1 z.2) 0 [some (.ref (V.2.2.1 6 0)), some (.ref (V.2.2.1 tx 0)), some (.ref (V.2.2.1 st 0)), some (.int x3), some (.int x4), none] [] S := by
  unfold f_Dy_tellsNow_b0 at h
  refine g_aload_n (pc := 0) hC (i := 1) (x := (V.2.2.1 tx 0)) rfl rfl d_Dy_tellsNow_0 ?_
  refine g_getA (pc := 1) hC fo_Dy_93 (ob_Tx hV htx) rfl d_Dy_tellsNow_1 ?_
  refine g_iload_n (pc := 4) hC (i := 3) (x := x3) rfl rfl d_Dy_tellsNow_4 ?_
  refine g_iald (pc := 5) hC (ar_Tx_15 hV htx) d_Dy_tellsNow_5 h (fun h => ?_)
  refine g_leti h (fun y6 h => ?_)
  refine s_istore (pc := 6) hC (i := 5) (by decide) d_Dy_tellsNow_6 (lv2 := [some (.ref (V.2.2.1 6 0)), some (.ref (V.2.2.1 tx 0)), some (.ref (V.2.2.1 st 0)), some (.int x3), some (.int x4), some (.int y6)]) rfl ?_
  refine g_aload_n (pc := 8) hC (i := 0) (x := (V.2.2.1 6 0)) rfl rfl d_Dy_tellsNow_8 ?_
  refine g_getA (pc := 9) hC fo_Dy_9 (ob_Dy hV) rfl d_Dy_tellsNow_9 ?_
  refine g_iconst (pc := 12) hC kc_3 d_Dy_tellsNow_12 ?_
  refine g_aload_n (pc := 13) hC (i := 2) (x := (V.2.2.1 st 0)) rfl rfl d_Dy_tellsNow_13 ?_
  refine g_getA (pc := 14) hC fo_Dy_82 (ob_St hV hst) rfl d_Dy_tellsNow_14 ?_
  refine g_iload (pc := 17) hC (i := 5) (x := y6) rfl d_Dy_tellsNow_17 ?_
  refine g_iald (pc := 19) hC (ar_St_6 hV hst) d_Dy_tellsNow_19 h (fun h => ?_)
  refine g_iast (pc := 20) hC (ar_Dy_0 hV) d_Dy_tellsNow_20 h (fun h => ?_)
  refine g_letS h (fun S20 h => ?_)
  refine g_aload_n (pc := 21) hC (i := 0) (x := (V.2.2.1 6 0)) rfl rfl d_Dy_tellsNow_21 ?_
  refine g_getA (pc := 22) hC fo_Dy_9 (ob_Dy hV) rfl d_Dy_tellsNow_22 ?_
  refine g_iconst (pc := 25) hC kc_4 d_Dy_tellsNow_25 ?_
  refine g_aload_n (pc := 26) hC (i := 2) (x := (V.2.2.1 st 0)) rfl rfl d_Dy_tellsNow_26 ?_
  refine g_getA (pc := 27) hC fo_Dy_53 (ob_St hV hst) rfl d_Dy_tellsNow_27 ?_
  refine g_iload (pc := 30) hC (i := 5) (x := y6) rfl d_Dy_tellsNow_30 ?_
  refine g_iald (pc := 32) hC (ar_St_7 hV hst) d_Dy_tellsNow_32 h (fun h => ?_)
  obtain ⟨q33, hq33, h⟩ := Option.bind_eq_some_iff.mp h
  refine g_si (pc := 33) hC (As := [.int (S20.2.1 st 7 y6.toNatClampNeg)]) (st := [.int 4, .ref (V.2.2.1 6 (0 + 1))]) mt_JInt_bitCount lk_Dy_116 (Nat.le_of_ble_eq_true rfl) ⟨Nat.le_of_ble_eq_true rfl, Nat.le_of_ble_eq_true rfl⟩ rfl d_Dy_tellsNow_33 (c_JInt_bitCount (IsC.ok hV) hq33) ?_
  refine g_iast (pc := 36) hC (ar_Dy_0 hV) d_Dy_tellsNow_36 h (fun h => ?_)
  refine g_letS h (fun S36 h => ?_)
  refine g_aload_n (pc := 37) hC (i := 0) (x := (V.2.2.1 6 0)) rfl rfl d_Dy_tellsNow_37 ?_
  refine g_getA (pc := 38) hC fo_Dy_9 (ob_Dy hV) rfl d_Dy_tellsNow_38 ?_
  refine g_iconst (pc := 41) hC kc_5 d_Dy_tellsNow_41 ?_
  refine g_aload_n (pc := 42) hC (i := 1) (x := (V.2.2.1 tx 0)) rfl rfl d_Dy_tellsNow_42 ?_
  refine g_getA (pc := 43) hC fo_Dy_146 (ob_Tx hV htx) rfl d_Dy_tellsNow_43 ?_
  refine g_iload (pc := 46) hC (i := 4) (x := x4) rfl d_Dy_tellsNow_46 ?_
  refine g_iald (pc := 48) hC (ar_Tx_13 hV htx) d_Dy_tellsNow_48 h (fun h => ?_)
  refine g_iast (pc := 49) hC (ar_Dy_0 hV) d_Dy_tellsNow_49 h (fun h => ?_)
  refine g_letS h (fun S49 h => ?_)
  refine g_aload_n (pc := 50) hC (i := 0) (x := (V.2.2.1 6 0)) rfl rfl d_Dy_tellsNow_50 ?_
  refine g_getA (pc := 51) hC fo_Dy_9 (ob_Dy hV) rfl d_Dy_tellsNow_51 ?_
  refine g_bipush (pc := 54) hC kb_7 d_Dy_tellsNow_54 ?_
  refine g_iload_n (pc := 56) hC (i := 3) (x := x3) rfl rfl d_Dy_tellsNow_56 ?_
  refine g_iast (pc := 57) hC (ar_Dy_0 hV) d_Dy_tellsNow_57 h (fun h => ?_)
  refine g_letS h (fun S57 h => ?_)
  refine g_aload_n (pc := 58) hC (i := 0) (x := (V.2.2.1 6 0)) rfl rfl d_Dy_tellsNow_58 ?_
  refine g_aload_n (pc := 59) hC (i := 2) (x := (V.2.2.1 st 0)) rfl rfl d_Dy_tellsNow_59 ?_
  refine g_aload_n (pc := 60) hC (i := 2) (x := (V.2.2.1 st 0)) rfl rfl d_Dy_tellsNow_60 ?_
  refine g_getA (pc := 61) hC fo_Dy_76 (ob_St hV hst) rfl d_Dy_tellsNow_61 ?_
  refine g_iload (pc := 64) hC (i := 5) (x := y6) rfl d_Dy_tellsNow_64 ?_
  refine g_iald (pc := 66) hC (ar_St_5 hV hst) d_Dy_tellsNow_66 h (fun h => ?_)
  obtain ⟨q67, hq67, h⟩ := Option.bind_eq_some_iff.mp h
  refine g_vv (pc := 67) hC (As := [.ref (V.2.2.1 st 0), .int (S57.2.1 st 5 y6.toNatClampNeg)]) (st := []) mt_Dy_look lk_Dy_122 rfl (ob_Dy hV) (Nat.le_of_ble_eq_true rfl) ⟨Nat.le_of_ble_eq_true rfl, Nat.le_of_ble_eq_true rfl⟩ rfl d_Dy_tellsNow_67 (c_Dy_look hV hst hq67) ?_
  refine g_aload_n (pc := 70) hC (i := 1) (x := (V.2.2.1 tx 0)) rfl rfl d_Dy_tellsNow_70 ?_
  refine g_getC (pc := 71) hC (j := tx + 2) fo_Dy_149 (ob_Tx hV htx) rfl d_Dy_tellsNow_71 ?_
  refine g_aload_n (pc := 74) hC (i := 0) (x := (V.2.2.1 6 0)) rfl rfl d_Dy_tellsNow_74 ?_
  refine g_getA (pc := 75) hC fo_Dy_9 (ob_Dy hV) rfl d_Dy_tellsNow_75 ?_
  refine g_bipush (pc := 78) hC kb_100 d_Dy_tellsNow_78 ?_
  obtain ⟨q80, hq80, h⟩ := Option.bind_eq_some_iff.mp h
  refine g_vi (pc := 80) hC (As := [.ref (V.2.2.1 6 (0 + 1)), .int 100]) (st := []) mt_Lw_value lk_Dy_130 rfl (ob_Lw hV (tx_2 htx)) (Nat.le_of_ble_eq_true rfl) ⟨Nat.le_of_ble_eq_true rfl, Nat.le_of_ble_eq_true rfl⟩ rfl d_Dy_tellsNow_80 (c_Lw_value hV (tx_2 htx) hq80) ?_
  exact g_iW (pc := 83) hC rfl d_Dy_tellsNow_83 h
theorem c_Dy_tellsNow {V : WV} {l : Launch} (hV : IsC V) {tx : Nat} {st : Nat} (htx : isTx tx) (hst : isSt st) {x3 : Int32} {x4 : Int32} {S : Mem} {z : Int32 × Mem} (h : f_Dy_tellsNow tx st x3 x4 S = some z) : CI V l y_Dy_tellsNow bc_Dy_tellsNow 6 (some .int) 2 50 [.ref (V.2.2.1 6 0), .ref (V.2.2.1 tx 0), .ref (V.2.2.1 st 0), .int x3, .int x4] S z.1 z.2 :=
  ct_i rfl (IsC.ok hV) (Nat.le_of_ble_eq_true rfl) (fun _ _ hC => w_Dy_tellsNow_b0 hV htx hst hC x3 x4 S h)
def f_Dy_stirred_b0 (x0 : Int32) (x1 : Int32) : Option (Int32) :=
  letS (((x0 ^^^ x1) * 1103515245) + 12345) (fun y10 =>
  some (y10 ^^^ (jUshr y10 15)))
def f_Dy_stirred (x0 : Int32) (x1 : Int32) : Option (Int32) := f_Dy_stirred_b0  x0 x1
theorem d_Dy_stirred_0 : decode bc_Dy_stirred 0 = .ok (.iload_n 0, 1) := by decide +kernel
theorem d_Dy_stirred_1 : decode bc_Dy_stirred 1 = .ok (.iload_n 1, 1) := by decide +kernel
theorem d_Dy_stirred_2 : decode bc_Dy_stirred 2 = .ok (.ixor, 1) := by decide +kernel
theorem d_Dy_stirred_3 : decode bc_Dy_stirred 3 = .ok (.ldc 158, 2) := by decide +kernel
theorem d_Dy_stirred_5 : decode bc_Dy_stirred 5 = .ok (.imul, 1) := by decide +kernel
theorem d_Dy_stirred_6 : decode bc_Dy_stirred 6 = .ok (.sipush 12345, 3) := by decide +kernel
theorem d_Dy_stirred_9 : decode bc_Dy_stirred 9 = .ok (.iadd, 1) := by decide +kernel
theorem d_Dy_stirred_10 : decode bc_Dy_stirred 10 = .ok (.istore_n 2, 1) := by decide +kernel
theorem d_Dy_stirred_11 : decode bc_Dy_stirred 11 = .ok (.iload_n 2, 1) := by decide +kernel
theorem d_Dy_stirred_12 : decode bc_Dy_stirred 12 = .ok (.iload_n 2, 1) := by decide +kernel
theorem d_Dy_stirred_13 : decode bc_Dy_stirred 13 = .ok (.bipush 15, 2) := by decide +kernel
theorem d_Dy_stirred_15 : decode bc_Dy_stirred 15 = .ok (.iushr, 1) := by decide +kernel
theorem d_Dy_stirred_16 : decode bc_Dy_stirred 16 = .ok (.ixor, 1) := by decide +kernel
theorem d_Dy_stirred_17 : decode bc_Dy_stirred 17 = .ok (.ireturn, 1) := by decide +kernel
set_option maxRecDepth 20000 in
theorem w_Dy_stirred_b0 {X : CX} {V : WV} (hVO : VOk V) {S : Mem} {z : Int32} (hC : Ck X V bc_Dy_stirred 3 "SecretWells$Days" (some .int) 0 0) (x0 : Int32) (x1 : Int32) (h : f_Dy_stirred_b0  x0 x1 = some z) : G X V 3 (QI X V z S) 0 [some (.int x0), some (.int x1), none] [] S := by
  unfold f_Dy_stirred_b0 at h
  refine g_iload_n (pc := 0) hC (i := 0) (x := x0) rfl rfl d_Dy_stirred_0 ?_
  refine g_iload_n (pc := 1) hC (i := 1) (x := x1) rfl rfl d_Dy_stirred_1 ?_
  refine g_ixor (pc := 2) hC d_Dy_stirred_2 ?_
  refine g_ldc (pc := 3) hC q_Dy_k158 d_Dy_stirred_3 ?_
  refine g_imul (pc := 5) hC d_Dy_stirred_5 ?_
  refine g_sipush (pc := 6) hC ks_12345 d_Dy_stirred_6 ?_
  refine g_iadd (pc := 9) hC d_Dy_stirred_9 ?_
  refine g_leti h (fun y10 h => ?_)
  refine s_istore_n (pc := 10) hC (i := 2) rfl (by decide) d_Dy_stirred_10 (lv2 := [some (.int x0), some (.int x1), some (.int y10)]) rfl ?_
  refine g_iload_n (pc := 11) hC (i := 2) (x := y10) rfl rfl d_Dy_stirred_11 ?_
  refine g_iload_n (pc := 12) hC (i := 2) (x := y10) rfl rfl d_Dy_stirred_12 ?_
  refine g_bipush (pc := 13) hC kb_15 d_Dy_stirred_13 ?_
  refine g_iushr (pc := 15) hC d_Dy_stirred_15 ?_
  refine g_ixor (pc := 16) hC d_Dy_stirred_16 ?_
  exact g_iN (pc := 17) hC rfl d_Dy_stirred_17 h
theorem c_Dy_stirred {V : WV} {l : Launch} (hVO : VOk V) {x0 : Int32} {x1 : Int32} {S : Mem} {z : Int32} (h : f_Dy_stirred x0 x1 = some z) : CI V l y_Dy_stirred bc_Dy_stirred 3 (some .int) 0 0 [.int x0, .int x1] S z S :=
  ct_i rfl hVO (Nat.le_of_ble_eq_true rfl) (fun _ _ hC => w_Dy_stirred_b0 hVO hC x0 x1 h)
def f_Dy_lot_b0 (x0 : Int32) (x1 : Int32) (x2 : Int32) : Option (Int32) :=
  Option.bind (f_Dy_stirred x1 49) (fun q3 =>
  Option.bind (f_Dy_stirred q3 x2) (fun q7 =>
  if 1 ≤ x0 then
    gNz x0 (
    some ((jUshr q7 1) - (jUshr q7 1) / x0 * x0))
  else
    some 0))
def f_Dy_lot (x0 : Int32) (x1 : Int32) (x2 : Int32) : Option (Int32) := f_Dy_lot_b0  x0 x1 x2
theorem d_Dy_lot_0 : decode bc_Dy_lot 0 = .ok (.iload_n 1, 1) := by decide +kernel
theorem d_Dy_lot_1 : decode bc_Dy_lot 1 = .ok (.bipush 49, 2) := by decide +kernel
theorem d_Dy_lot_3 : decode bc_Dy_lot 3 = .ok (.invokestatic 155, 3) := by decide +kernel
theorem d_Dy_lot_6 : decode bc_Dy_lot 6 = .ok (.iload_n 2, 1) := by decide +kernel
theorem d_Dy_lot_7 : decode bc_Dy_lot 7 = .ok (.invokestatic 155, 3) := by decide +kernel
theorem d_Dy_lot_10 : decode bc_Dy_lot 10 = .ok (.istore_n 3, 1) := by decide +kernel
theorem d_Dy_lot_11 : decode bc_Dy_lot 11 = .ok (.iload_n 0, 1) := by decide +kernel
theorem d_Dy_lot_12 : decode bc_Dy_lot 12 = .ok (.iconst 1, 1) := by decide +kernel
theorem d_Dy_lot_13 : decode bc_Dy_lot 13 = .ok (.if_icmp .ge 7, 3) := by decide +kernel
theorem d_Dy_lot_16 : decode bc_Dy_lot 16 = .ok (.iconst 0, 1) := by decide +kernel
theorem d_Dy_lot_17 : decode bc_Dy_lot 17 = .ok (.goto 8, 3) := by decide +kernel
theorem d_Dy_lot_20 : decode bc_Dy_lot 20 = .ok (.iload_n 3, 1) := by decide +kernel
theorem d_Dy_lot_21 : decode bc_Dy_lot 21 = .ok (.iconst 1, 1) := by decide +kernel
theorem d_Dy_lot_22 : decode bc_Dy_lot 22 = .ok (.iushr, 1) := by decide +kernel
theorem d_Dy_lot_23 : decode bc_Dy_lot 23 = .ok (.iload_n 0, 1) := by decide +kernel
theorem d_Dy_lot_24 : decode bc_Dy_lot 24 = .ok (.irem, 1) := by decide +kernel
theorem d_Dy_lot_25 : decode bc_Dy_lot 25 = .ok (.ireturn, 1) := by decide +kernel
set_option maxRecDepth 20000 in
theorem w_Dy_lot_b0 {X : CX} {V : WV} (hVO : VOk V) {S : Mem} {z : Int32} (hC : Ck X V bc_Dy_lot 4 "SecretWells$Days" (some .int) 1 22) (x0 : Int32) (x1 : Int32) (x2 : Int32) (h : f_Dy_lot_b0  x0 x1 x2 = some z) : G X V 4 (QI X V z S) 0 [some (.int x0), some (.int x1), some (.int x2), none] [] S := by
  unfold f_Dy_lot_b0 at h
  refine g_iload_n (pc := 0) hC (i := 1) (x := x1) rfl rfl d_Dy_lot_0 ?_
  refine g_bipush (pc := 1) hC kb_49 d_Dy_lot_1 ?_
  obtain ⟨q3, hq3, h⟩ := Option.bind_eq_some_iff.mp h
  refine g_si (pc := 3) hC (As := [.int x1, .int 49]) (st := []) mt_Dy_stirred lk_Dy_155 (Nat.le_of_ble_eq_true rfl) ⟨Nat.le_of_ble_eq_true rfl, Nat.le_of_ble_eq_true rfl⟩ rfl d_Dy_lot_3 (c_Dy_stirred hVO hq3) ?_
  refine g_iload_n (pc := 6) hC (i := 2) (x := x2) rfl rfl d_Dy_lot_6 ?_
  obtain ⟨q7, hq7, h⟩ := Option.bind_eq_some_iff.mp h
  refine g_si (pc := 7) hC (As := [.int q3, .int x2]) (st := []) mt_Dy_stirred lk_Dy_155 (Nat.le_of_ble_eq_true rfl) ⟨Nat.le_of_ble_eq_true rfl, Nat.le_of_ble_eq_true rfl⟩ rfl d_Dy_lot_7 (c_Dy_stirred hVO hq7) ?_
  refine s_istore_n (pc := 10) hC (i := 3) rfl (by decide) d_Dy_lot_10 (lv2 := [some (.int x0), some (.int x1), some (.int x2), some (.int q7)]) rfl ?_
  refine g_iload_n (pc := 11) hC (i := 0) (x := x0) rfl rfl d_Dy_lot_11 ?_
  refine g_iconst (pc := 12) hC kc_1 d_Dy_lot_12 ?_
  refine g_icmp_ge (pc := 13) hC (tgt := 20) (by decide) d_Dy_lot_13 h (fun h => ?_) (fun h => ?_)
  · refine g_iload_n (pc := 20) hC (i := 3) (x := q7) rfl rfl d_Dy_lot_20 ?_
    refine g_iconst (pc := 21) hC kc_1 d_Dy_lot_21 ?_
    refine g_iushr (pc := 22) hC d_Dy_lot_22 ?_
    refine g_iload_n (pc := 23) hC (i := 0) (x := x0) rfl rfl d_Dy_lot_23 ?_
    refine g_irem (pc := 24) hC d_Dy_lot_24 h (fun h => ?_)
    exact g_iN (pc := 25) hC rfl d_Dy_lot_25 h
  · refine g_iconst (pc := 16) hC kc_0 d_Dy_lot_16 ?_
    refine g_goto (pc := 17) hC (tgt := 25) (by decide) d_Dy_lot_17 ?_
    exact g_iN (pc := 25) hC rfl d_Dy_lot_25 h
theorem c_Dy_lot {V : WV} {l : Launch} (hVO : VOk V) {x0 : Int32} {x1 : Int32} {x2 : Int32} {S : Mem} {z : Int32} (h : f_Dy_lot x0 x1 x2 = some z) : CI V l y_Dy_lot bc_Dy_lot 4 (some .int) 1 22 [.int x0, .int x1, .int x2] S z S :=
  ct_i rfl hVO (Nat.le_of_ble_eq_true rfl) (fun _ _ hC => w_Dy_lot_b0 hVO hC x0 x1 x2 h)
def f_Dy_talk_b70 (tx : Nat) (st : Nat) (k70 : Int32 → Int32 → Int32 → Int32 → Int32 → Mem → Option (Mem)) (x3 : Int32) (x4 : Int32) (x6 : Int32) (x7 : Int32) (x8 : Int32) (S : Mem) : Option (Mem) :=
  if (S.1 tx 2) ≤ x8 then
    some S
  else
    if ((x7 >>> (x8 &&& 31)) &&& 1) = 0 then
      k70 x3 x4 x6 x7 (x8 + 1) S
    else
      Option.bind (f_Dy_tellsNow tx st x3 x8 S) (fun q98 =>
      letS q98.1 (fun y101 =>
      Option.bind (f_Dy_lot 100 x4 (((128 * (q98.2.1 st 0)) + (8 * x3)) + x8)) (fun q123 =>
      if y101 ≤ q123 then
        k70 x3 x4 x6 x7 (x8 + 1) q98.2
      else
        gIn x6 7 (
        gIn x6 7 (letS (sA q98.2 st 7 x6 ((q98.2.2.1 st 7 x6.toNatClampNeg) ||| ((1 : Int32) <<< (x8 &&& 31)))) (fun S144 =>
        Option.bind (f_St_measure st tx S144) (fun q147 =>
        k70 x3 x4 x6 x7 (x8 + 1) q147)))))))
def f_Dy_talk_l70 (tx : Nat) (st : Nat) : Nat → Int32 → Int32 → Int32 → Int32 → Int32 → Mem → Option (Mem)
  | 0 => fun _ _ _ _ _ _ => none
  | n + 1 => f_Dy_talk_b70 tx st (f_Dy_talk_l70 tx st n)
def f_Dy_talk_b0 (tx : Nat) (st : Nat) (x3 : Int32) (x4 : Int32) (S : Mem) : Option (Mem) :=
  gIn x3 12 (
  letS (S.2.1 tx 15 x3.toNatClampNeg) (fun y6 =>
  gIn x3 12 (
  letS (S.2.1 tx 16 x3.toNatClampNeg) (fun y14 =>
  gIn y6 7 (
  gIn y14 7 (
  letS ((S.2.1 6 1 y6.toNatClampNeg) &&& ((S.2.1 st 7 y14.toNatClampNeg) ^^^ (-1))) (fun y33 =>
  if y33 = 0 then
    some S
  else
    Option.bind (f_St_isCut st x3 S) (fun q42 =>
    if q42 = 0 then
      Option.bind (f_St_isAlive st y6 S) (fun q51 =>
      if q51 = 0 then
        some S
      else
        Option.bind (f_St_isAlive st y14 S) (fun q60 =>
        if q60 = 0 then
          some S
        else
          f_Dy_talk_l70 tx st 5000 x3 x4 y14 y33 0 S))
    else
      some S))))))))
def f_Dy_talk (tx : Nat) (st : Nat) (x3 : Int32) (x4 : Int32) (S : Mem) : Option (Mem) := f_Dy_talk_b0 tx st x3 x4 S
theorem d_Dy_talk_0 : decode bc_Dy_talk 0 = .ok (.aload_n 1, 1) := by decide +kernel
theorem d_Dy_talk_1 : decode bc_Dy_talk 1 = .ok (.getfield 93, 3) := by decide +kernel
theorem d_Dy_talk_4 : decode bc_Dy_talk 4 = .ok (.iload_n 3, 1) := by decide +kernel
theorem d_Dy_talk_5 : decode bc_Dy_talk 5 = .ok (.iaload, 1) := by decide +kernel
theorem d_Dy_talk_6 : decode bc_Dy_talk 6 = .ok (.istore 5, 2) := by decide +kernel
theorem d_Dy_talk_8 : decode bc_Dy_talk 8 = .ok (.aload_n 1, 1) := by decide +kernel
theorem d_Dy_talk_9 : decode bc_Dy_talk 9 = .ok (.getfield 96, 3) := by decide +kernel
theorem d_Dy_talk_12 : decode bc_Dy_talk 12 = .ok (.iload_n 3, 1) := by decide +kernel
theorem d_Dy_talk_13 : decode bc_Dy_talk 13 = .ok (.iaload, 1) := by decide +kernel
theorem d_Dy_talk_14 : decode bc_Dy_talk 14 = .ok (.istore 6, 2) := by decide +kernel
theorem d_Dy_talk_16 : decode bc_Dy_talk 16 = .ok (.aload_n 0, 1) := by decide +kernel
theorem d_Dy_talk_17 : decode bc_Dy_talk 17 = .ok (.getfield 15, 3) := by decide +kernel
theorem d_Dy_talk_20 : decode bc_Dy_talk 20 = .ok (.iload 5, 2) := by decide +kernel
theorem d_Dy_talk_22 : decode bc_Dy_talk 22 = .ok (.iaload, 1) := by decide +kernel
theorem d_Dy_talk_23 : decode bc_Dy_talk 23 = .ok (.aload_n 2, 1) := by decide +kernel
theorem d_Dy_talk_24 : decode bc_Dy_talk 24 = .ok (.getfield 53, 3) := by decide +kernel
theorem d_Dy_talk_27 : decode bc_Dy_talk 27 = .ok (.iload 6, 2) := by decide +kernel
theorem d_Dy_talk_29 : decode bc_Dy_talk 29 = .ok (.iaload, 1) := by decide +kernel
theorem d_Dy_talk_30 : decode bc_Dy_talk 30 = .ok (.iconst (-1), 1) := by decide +kernel
theorem d_Dy_talk_31 : decode bc_Dy_talk 31 = .ok (.ixor, 1) := by decide +kernel
theorem d_Dy_talk_32 : decode bc_Dy_talk 32 = .ok (.iand, 1) := by decide +kernel
theorem d_Dy_talk_33 : decode bc_Dy_talk 33 = .ok (.istore 7, 2) := by decide +kernel
theorem d_Dy_talk_35 : decode bc_Dy_talk 35 = .ok (.iload 7, 2) := by decide +kernel
theorem d_Dy_talk_37 : decode bc_Dy_talk 37 = .ok (.ifCond .eq 29, 3) := by decide +kernel
theorem d_Dy_talk_40 : decode bc_Dy_talk 40 = .ok (.aload_n 2, 1) := by decide +kernel
theorem d_Dy_talk_41 : decode bc_Dy_talk 41 = .ok (.iload_n 3, 1) := by decide +kernel
theorem d_Dy_talk_42 : decode bc_Dy_talk 42 = .ok (.invokevirtual 99, 3) := by decide +kernel
theorem d_Dy_talk_45 : decode bc_Dy_talk 45 = .ok (.ifCond .ne 21, 3) := by decide +kernel
theorem d_Dy_talk_48 : decode bc_Dy_talk 48 = .ok (.aload_n 2, 1) := by decide +kernel
theorem d_Dy_talk_49 : decode bc_Dy_talk 49 = .ok (.iload 5, 2) := by decide +kernel
theorem d_Dy_talk_51 : decode bc_Dy_talk 51 = .ok (.invokevirtual 45, 3) := by decide +kernel
theorem d_Dy_talk_54 : decode bc_Dy_talk 54 = .ok (.ifCond .eq 12, 3) := by decide +kernel
theorem d_Dy_talk_57 : decode bc_Dy_talk 57 = .ok (.aload_n 2, 1) := by decide +kernel
theorem d_Dy_talk_58 : decode bc_Dy_talk 58 = .ok (.iload 6, 2) := by decide +kernel
theorem d_Dy_talk_60 : decode bc_Dy_talk 60 = .ok (.invokevirtual 45, 3) := by decide +kernel
theorem d_Dy_talk_63 : decode bc_Dy_talk 63 = .ok (.ifCond .ne 4, 3) := by decide +kernel
theorem d_Dy_talk_66 : decode bc_Dy_talk 66 = .ok (.return_, 1) := by decide +kernel
theorem d_Dy_talk_67 : decode bc_Dy_talk 67 = .ok (.iconst 0, 1) := by decide +kernel
theorem d_Dy_talk_68 : decode bc_Dy_talk 68 = .ok (.istore 8, 2) := by decide +kernel
theorem d_Dy_talk_70 : decode bc_Dy_talk 70 = .ok (.iload 8, 2) := by decide +kernel
theorem d_Dy_talk_72 : decode bc_Dy_talk 72 = .ok (.aload_n 1, 1) := by decide +kernel
theorem d_Dy_talk_73 : decode bc_Dy_talk 73 = .ok (.getfield 102, 3) := by decide +kernel
theorem d_Dy_talk_76 : decode bc_Dy_talk 76 = .ok (.if_icmp .ge 80, 3) := by decide +kernel
theorem d_Dy_talk_79 : decode bc_Dy_talk 79 = .ok (.iload 7, 2) := by decide +kernel
theorem d_Dy_talk_81 : decode bc_Dy_talk 81 = .ok (.iload 8, 2) := by decide +kernel
theorem d_Dy_talk_83 : decode bc_Dy_talk 83 = .ok (.ishr, 1) := by decide +kernel
theorem d_Dy_talk_84 : decode bc_Dy_talk 84 = .ok (.iconst 1, 1) := by decide +kernel
theorem d_Dy_talk_85 : decode bc_Dy_talk 85 = .ok (.iand, 1) := by decide +kernel
theorem d_Dy_talk_86 : decode bc_Dy_talk 86 = .ok (.ifCond .ne 6, 3) := by decide +kernel
theorem d_Dy_talk_89 : decode bc_Dy_talk 89 = .ok (.goto 61, 3) := by decide +kernel
theorem d_Dy_talk_92 : decode bc_Dy_talk 92 = .ok (.aload_n 0, 1) := by decide +kernel
theorem d_Dy_talk_93 : decode bc_Dy_talk 93 = .ok (.aload_n 1, 1) := by decide +kernel
theorem d_Dy_talk_94 : decode bc_Dy_talk 94 = .ok (.aload_n 2, 1) := by decide +kernel
theorem d_Dy_talk_95 : decode bc_Dy_talk 95 = .ok (.iload_n 3, 1) := by decide +kernel
theorem d_Dy_talk_96 : decode bc_Dy_talk 96 = .ok (.iload 8, 2) := by decide +kernel
theorem d_Dy_talk_98 : decode bc_Dy_talk 98 = .ok (.invokevirtual 105, 3) := by decide +kernel
theorem d_Dy_talk_101 : decode bc_Dy_talk 101 = .ok (.istore 9, 2) := by decide +kernel
theorem d_Dy_talk_103 : decode bc_Dy_talk 103 = .ok (.bipush 100, 2) := by decide +kernel
theorem d_Dy_talk_105 : decode bc_Dy_talk 105 = .ok (.iload 4, 2) := by decide +kernel
theorem d_Dy_talk_107 : decode bc_Dy_talk 107 = .ok (.sipush 128, 3) := by decide +kernel
theorem d_Dy_talk_110 : decode bc_Dy_talk 110 = .ok (.aload_n 2, 1) := by decide +kernel
theorem d_Dy_talk_111 : decode bc_Dy_talk 111 = .ok (.getfield 73, 3) := by decide +kernel
theorem d_Dy_talk_114 : decode bc_Dy_talk 114 = .ok (.imul, 1) := by decide +kernel
theorem d_Dy_talk_115 : decode bc_Dy_talk 115 = .ok (.bipush 8, 2) := by decide +kernel
theorem d_Dy_talk_117 : decode bc_Dy_talk 117 = .ok (.iload_n 3, 1) := by decide +kernel
theorem d_Dy_talk_118 : decode bc_Dy_talk 118 = .ok (.imul, 1) := by decide +kernel
theorem d_Dy_talk_119 : decode bc_Dy_talk 119 = .ok (.iadd, 1) := by decide +kernel
theorem d_Dy_talk_120 : decode bc_Dy_talk 120 = .ok (.iload 8, 2) := by decide +kernel
theorem d_Dy_talk_122 : decode bc_Dy_talk 122 = .ok (.iadd, 1) := by decide +kernel
theorem d_Dy_talk_123 : decode bc_Dy_talk 123 = .ok (.invokestatic 109, 3) := by decide +kernel
theorem d_Dy_talk_126 : decode bc_Dy_talk 126 = .ok (.iload 9, 2) := by decide +kernel
theorem d_Dy_talk_128 : decode bc_Dy_talk 128 = .ok (.if_icmp .ge 22, 3) := by decide +kernel
theorem d_Dy_talk_131 : decode bc_Dy_talk 131 = .ok (.aload_n 2, 1) := by decide +kernel
theorem d_Dy_talk_132 : decode bc_Dy_talk 132 = .ok (.getfield 53, 3) := by decide +kernel
theorem d_Dy_talk_135 : decode bc_Dy_talk 135 = .ok (.iload 6, 2) := by decide +kernel
theorem d_Dy_talk_137 : decode bc_Dy_talk 137 = .ok (.dup2, 1) := by decide +kernel
theorem d_Dy_talk_138 : decode bc_Dy_talk 138 = .ok (.iaload, 1) := by decide +kernel
theorem d_Dy_talk_139 : decode bc_Dy_talk 139 = .ok (.iconst 1, 1) := by decide +kernel
theorem d_Dy_talk_140 : decode bc_Dy_talk 140 = .ok (.iload 8, 2) := by decide +kernel
theorem d_Dy_talk_142 : decode bc_Dy_talk 142 = .ok (.ishl, 1) := by decide +kernel
theorem d_Dy_talk_143 : decode bc_Dy_talk 143 = .ok (.ior, 1) := by decide +kernel
theorem d_Dy_talk_144 : decode bc_Dy_talk 144 = .ok (.iastore, 1) := by decide +kernel
theorem d_Dy_talk_145 : decode bc_Dy_talk 145 = .ok (.aload_n 2, 1) := by decide +kernel
theorem d_Dy_talk_146 : decode bc_Dy_talk 146 = .ok (.aload_n 1, 1) := by decide +kernel
theorem d_Dy_talk_147 : decode bc_Dy_talk 147 = .ok (.invokevirtual 90, 3) := by decide +kernel
theorem d_Dy_talk_150 : decode bc_Dy_talk 150 = .ok (.iinc 8 1, 3) := by decide +kernel
theorem d_Dy_talk_153 : decode bc_Dy_talk 153 = .ok (.goto (-83), 3) := by decide +kernel
theorem d_Dy_talk_156 : decode bc_Dy_talk 156 = .ok (.return_, 1) := by decide +kernel
set_option maxRecDepth 20000 in
theorem w_Dy_talk_b70 {X : CX} {V : WV} {tx : Nat} {st : Nat} (hV : IsC V) (htx : isTx tx) (hst : isSt st) {z : Mem} (hC : Ck X V bc_Dy_talk 10 "SecretWells$Days" none 3 75) (k70 : Int32 → Int32 → Int32 → Int32 → Int32 → Mem → Option (Mem)) (hk70 : ∀ (x3 : Int32) (x4 : Int32) (x6 : Int32) (x7 : Int32) (x8 : Int32) (S : Mem), k70 x3 x4 x6 x7 x8 S = some z → G X V 10 (QV X V z) 70 [some (.ref (V.2.2.1 6 0)), some (.ref (V.2.2.1 tx 0)), some (.ref (V.2.2.1 st 0)), some (.int x3), some (.int x4), none, some (.int x6), some (.int x7), some (.int x8), none] [] S) (x3 : Int32) (x4 : Int32) (x6 : Int32) (x7 : Int32) (x8 : Int32) (S : Mem) (h : f_Dy_talk_b70 tx st k70 x3 x4 x6 x7 x8 S = some z) : G X V 10 (QV X V z) 70 [some (.ref (V.2.2.1 6 0)), some (.ref (V.2.2.1 tx 0)), some (.ref (V.2.2.1 st 0)), some (.int x3), some (.int x4), none, some (.int x6), some (.int x7), some (.int x8), none] [] S := by
  unfold f_Dy_talk_b70 at h
  refine g_iload (pc := 70) hC (i := 8) (x := x8) rfl d_Dy_talk_70 ?_
  refine g_aload_n (pc := 72) hC (i := 1) (x := (V.2.2.1 tx 0)) rfl rfl d_Dy_talk_72 ?_
  refine g_getI (pc := 73) hC fo_Dy_102 (ob_Tx hV htx) rfl d_Dy_talk_73 ?_
  refine g_icmp_ge (pc := 76) hC (tgt := 156) (by decide) d_Dy_talk_76 h (fun h => ?_) (fun h => ?_)
  · exact g_vW (pc := 156) hC d_Dy_talk_156 h
  · refine g_iload (pc := 79) hC (i := 7) (x := x7) rfl d_Dy_talk_79 ?_
    refine g_iload (pc := 81) hC (i := 8) (x := x8) rfl d_Dy_talk_81 ?_
    refine g_ishr (pc := 83) hC d_Dy_talk_83 ?_
    refine g_iconst (pc := 84) hC kc_1 d_Dy_talk_84 ?_
    refine g_iand (pc := 85) hC d_Dy_talk_85 ?_
    refine g_if_ne (pc := 86) hC (tgt := 92) (by decide) d_Dy_talk_86 h (fun h => ?_) (fun h => ?_)
    · refine g_aload_n (pc := 92) hC (i := 0) (x := (V.2.2.1 6 0)) rfl rfl d_Dy_talk_92 ?_
      refine g_aload_n (pc := 93) hC (i := 1) (x := (V.2.2.1 tx 0)) rfl rfl d_Dy_talk_93 ?_
      refine g_aload_n (pc := 94) hC (i := 2) (x := (V.2.2.1 st 0)) rfl rfl d_Dy_talk_94 ?_
      refine g_iload_n (pc := 95) hC (i := 3) (x := x3) rfl rfl d_Dy_talk_95 ?_
      refine g_iload (pc := 96) hC (i := 8) (x := x8) rfl d_Dy_talk_96 ?_
      obtain ⟨q98, hq98, h⟩ := Option.bind_eq_some_iff.mp h
      refine g_vi (pc := 98) hC (As := [.ref (V.2.2.1 tx 0), .ref (V.2.2.1 st 0), .int x3, .int x8]) (st := []) mt_Dy_tellsNow lk_Dy_105 rfl (ob_Dy hV) (Nat.le_of_ble_eq_true rfl) ⟨Nat.le_of_ble_eq_true rfl, Nat.le_of_ble_eq_true rfl⟩ rfl d_Dy_talk_98 (c_Dy_tellsNow hV htx hst hq98) ?_
      refine g_leti h (fun y101 h => ?_)
      refine s_istore (pc := 101) hC (i := 9) (by decide) d_Dy_talk_101 (lv2 := [some (.ref (V.2.2.1 6 0)), some (.ref (V.2.2.1 tx 0)), some (.ref (V.2.2.1 st 0)), some (.int x3), some (.int x4), none, some (.int x6), some (.int x7), some (.int x8), some (.int y101)]) rfl ?_
      refine g_bipush (pc := 103) hC kb_100 d_Dy_talk_103 ?_
      refine g_iload (pc := 105) hC (i := 4) (x := x4) rfl d_Dy_talk_105 ?_
      refine g_sipush (pc := 107) hC ks_128 d_Dy_talk_107 ?_
      refine g_aload_n (pc := 110) hC (i := 2) (x := (V.2.2.1 st 0)) rfl rfl d_Dy_talk_110 ?_
      refine g_getI (pc := 111) hC fo_Dy_73 (ob_St hV hst) rfl d_Dy_talk_111 ?_
      refine g_imul (pc := 114) hC d_Dy_talk_114 ?_
      refine g_bipush (pc := 115) hC kb_8 d_Dy_talk_115 ?_
      refine g_iload_n (pc := 117) hC (i := 3) (x := x3) rfl rfl d_Dy_talk_117 ?_
      refine g_imul (pc := 118) hC d_Dy_talk_118 ?_
      refine g_iadd (pc := 119) hC d_Dy_talk_119 ?_
      refine g_iload (pc := 120) hC (i := 8) (x := x8) rfl d_Dy_talk_120 ?_
      refine g_iadd (pc := 122) hC d_Dy_talk_122 ?_
      obtain ⟨q123, hq123, h⟩ := Option.bind_eq_some_iff.mp h
      refine g_si (pc := 123) hC (As := [.int 100, .int x4, .int (((128 * (q98.2.1 st 0)) + (8 * x3)) + x8)]) (st := []) mt_Dy_lot lk_Dy_109 (Nat.le_of_ble_eq_true rfl) ⟨Nat.le_of_ble_eq_true rfl, Nat.le_of_ble_eq_true rfl⟩ rfl d_Dy_talk_123 (c_Dy_lot (IsC.ok hV) hq123) ?_
      refine g_iload (pc := 126) hC (i := 9) (x := y101) rfl d_Dy_talk_126 ?_
      refine g_icmp_ge (pc := 128) hC (tgt := 150) (by decide) d_Dy_talk_128 h (fun h => ?_) (fun h => ?_)
      · refine s_iinc (pc := 150) hC (i := 8) (x := x8) (v := x8 + 1) rfl (by rw [kc_1]) (by decide) d_Dy_talk_150 (lv2 := [some (.ref (V.2.2.1 6 0)), some (.ref (V.2.2.1 tx 0)), some (.ref (V.2.2.1 st 0)), some (.int x3), some (.int x4), none, some (.int x6), some (.int x7), some (.int (x8 + 1)), some (.int y101)]) rfl ?_
        refine g_goto (pc := 153) hC (tgt := 70) (by decide) d_Dy_talk_153 ?_
        refine g_le (lv2 := [some (.ref (V.2.2.1 6 0)), some (.ref (V.2.2.1 tx 0)), some (.ref (V.2.2.1 st 0)), some (.int x3), some (.int x4), none, some (.int x6), some (.int x7), some (.int (x8 + 1)), none]) (⟨rfl, ⟨rfl, ⟨rfl, ⟨rfl, ⟨rfl, ⟨rfl, ⟨rfl, ⟨rfl, trivial⟩⟩⟩⟩⟩⟩⟩⟩) ?_
        exact hk70 x3 x4 x6 x7 (x8 + 1) q98.2 h
      · refine g_aload_n (pc := 131) hC (i := 2) (x := (V.2.2.1 st 0)) rfl rfl d_Dy_talk_131 ?_
        refine g_getA (pc := 132) hC fo_Dy_53 (ob_St hV hst) rfl d_Dy_talk_132 ?_
        refine g_iload (pc := 135) hC (i := 6) (x := x6) rfl d_Dy_talk_135 ?_
        refine g_dup2 (pc := 137) hC rfl rfl d_Dy_talk_137 ?_
        refine g_iald (pc := 138) hC (ar_St_7 hV hst) d_Dy_talk_138 h (fun h => ?_)
        refine g_iconst (pc := 139) hC kc_1 d_Dy_talk_139 ?_
        refine g_iload (pc := 140) hC (i := 8) (x := x8) rfl d_Dy_talk_140 ?_
        refine g_ishl (pc := 142) hC d_Dy_talk_142 ?_
        refine g_ior (pc := 143) hC d_Dy_talk_143 ?_
        refine g_iast (pc := 144) hC (ar_St_7 hV hst) d_Dy_talk_144 h (fun h => ?_)
        refine g_letS h (fun S144 h => ?_)
        refine g_aload_n (pc := 145) hC (i := 2) (x := (V.2.2.1 st 0)) rfl rfl d_Dy_talk_145 ?_
        refine g_aload_n (pc := 146) hC (i := 1) (x := (V.2.2.1 tx 0)) rfl rfl d_Dy_talk_146 ?_
        obtain ⟨q147, hq147, h⟩ := Option.bind_eq_some_iff.mp h
        refine g_vv (pc := 147) hC (As := [.ref (V.2.2.1 tx 0)]) (st := []) mt_St_measure lk_Dy_90 rfl (ob_St hV hst) (Nat.le_of_ble_eq_true rfl) ⟨Nat.le_of_ble_eq_true rfl, Nat.le_of_ble_eq_true rfl⟩ rfl d_Dy_talk_147 (c_St_measure hV hst htx hq147) ?_
        refine s_iinc (pc := 150) hC (i := 8) (x := x8) (v := x8 + 1) rfl (by rw [kc_1]) (by decide) d_Dy_talk_150 (lv2 := [some (.ref (V.2.2.1 6 0)), some (.ref (V.2.2.1 tx 0)), some (.ref (V.2.2.1 st 0)), some (.int x3), some (.int x4), none, some (.int x6), some (.int x7), some (.int (x8 + 1)), some (.int y101)]) rfl ?_
        refine g_goto (pc := 153) hC (tgt := 70) (by decide) d_Dy_talk_153 ?_
        refine g_le (lv2 := [some (.ref (V.2.2.1 6 0)), some (.ref (V.2.2.1 tx 0)), some (.ref (V.2.2.1 st 0)), some (.int x3), some (.int x4), none, some (.int x6), some (.int x7), some (.int (x8 + 1)), none]) (⟨rfl, ⟨rfl, ⟨rfl, ⟨rfl, ⟨rfl, ⟨rfl, ⟨rfl, ⟨rfl, trivial⟩⟩⟩⟩⟩⟩⟩⟩) ?_
        exact hk70 x3 x4 x6 x7 (x8 + 1) q147 h
    · refine g_goto (pc := 89) hC (tgt := 150) (by decide) d_Dy_talk_89 ?_
      refine s_iinc (pc := 150) hC (i := 8) (x := x8) (v := x8 + 1) rfl (by rw [kc_1]) (by decide) d_Dy_talk_150 (lv2 := [some (.ref (V.2.2.1 6 0)), some (.ref (V.2.2.1 tx 0)), some (.ref (V.2.2.1 st 0)), some (.int x3), some (.int x4), none, some (.int x6), some (.int x7), some (.int (x8 + 1)), none]) rfl ?_
      refine g_goto (pc := 153) hC (tgt := 70) (by decide) d_Dy_talk_153 ?_
      exact hk70 x3 x4 x6 x7 (x8 + 1) S h
theorem w_Dy_talk_l70 {X : CX} {V : WV} {tx : Nat} {st : Nat} (hV : IsC V) (htx : isTx tx) (hst : isSt st) {z : Mem} (hC : Ck X V bc_Dy_talk 10 "SecretWells$Days" none 3 75) : ∀ (n : Nat) (x3 : Int32) (x4 : Int32) (x6 : Int32) (x7 : Int32) (x8 : Int32) (S : Mem), f_Dy_talk_l70 tx st n x3 x4 x6 x7 x8 S = some z → G X V 10 (QV X V z) 70 [some (.ref (V.2.2.1 6 0)), some (.ref (V.2.2.1 tx 0)), some (.ref (V.2.2.1 st 0)), some (.int x3), some (.int x4), none, some (.int x6), some (.int x7), some (.int x8), none] [] S := by
  intro n
  induction n with
  | zero =>
    intro x3 x4 x6 x7 x8 S h
    have h : (none : Option (Mem)) = some z := h
    cases h
  | succ n ih =>
    intro x3 x4 x6 x7 x8 S h
    exact w_Dy_talk_b70 hV htx hst hC (f_Dy_talk_l70 tx st n) ih x3 x4 x6 x7 x8 S h
set_option maxRecDepth 20000 in
theorem w_Dy_talk_b0 {X : CX} {V : WV} {tx : Nat} {st : Nat} (hV : IsC V) (htx : isTx tx) (hst : isSt st) {z : Mem} (hC : Ck X V bc_Dy_talk 10 "SecretWells$Days" none 3 75) (x3 : Int32) (x4 : Int32) (S : Mem) (h : f_Dy_talk_b0 tx st x3 x4 S = some z) : G X V 10 (QV X V z) 0 [some (.ref (V.2.2.1 6 0)), some (.ref (V.2.2.1 tx 0)), some (.ref (V.2.2.1 st 0)), some (.int x3), some (.int x4), none, none, none, none, none] [] S := by
  unfold f_Dy_talk_b0 at h
  refine g_aload_n (pc := 0) hC (i := 1) (x := (V.2.2.1 tx 0)) rfl rfl d_Dy_talk_0 ?_
  refine g_getA (pc := 1) hC fo_Dy_93 (ob_Tx hV htx) rfl d_Dy_talk_1 ?_
  refine g_iload_n (pc := 4) hC (i := 3) (x := x3) rfl rfl d_Dy_talk_4 ?_
  refine g_iald (pc := 5) hC (ar_Tx_15 hV htx) d_Dy_talk_5 h (fun h => ?_)
  refine g_leti h (fun y6 h => ?_)
  refine s_istore (pc := 6) hC (i := 5) (by decide) d_Dy_talk_6 (lv2 := [some (.ref (V.2.2.1 6 0)), some (.ref (V.2.2.1 tx 0)), some (.ref (V.2.2.1 st 0)), some (.int x3), some (.int x4), some (.int y6), none, none, none, none]) rfl ?_
  refine g_aload_n (pc := 8) hC (i := 1) (x := (V.2.2.1 tx 0)) rfl rfl d_Dy_talk_8 ?_
  refine g_getA (pc := 9) hC fo_Dy_96 (ob_Tx hV htx) rfl d_Dy_talk_9 ?_
  refine g_iload_n (pc := 12) hC (i := 3) (x := x3) rfl rfl d_Dy_talk_12 ?_
  refine g_iald (pc := 13) hC (ar_Tx_16 hV htx) d_Dy_talk_13 h (fun h => ?_)
  refine g_leti h (fun y14 h => ?_)
  refine s_istore (pc := 14) hC (i := 6) (by decide) d_Dy_talk_14 (lv2 := [some (.ref (V.2.2.1 6 0)), some (.ref (V.2.2.1 tx 0)), some (.ref (V.2.2.1 st 0)), some (.int x3), some (.int x4), some (.int y6), some (.int y14), none, none, none]) rfl ?_
  refine g_aload_n (pc := 16) hC (i := 0) (x := (V.2.2.1 6 0)) rfl rfl d_Dy_talk_16 ?_
  refine g_getA (pc := 17) hC fo_Dy_15 (ob_Dy hV) rfl d_Dy_talk_17 ?_
  refine g_iload (pc := 20) hC (i := 5) (x := y6) rfl d_Dy_talk_20 ?_
  refine g_iald (pc := 22) hC (ar_Dy_1 hV) d_Dy_talk_22 h (fun h => ?_)
  refine g_aload_n (pc := 23) hC (i := 2) (x := (V.2.2.1 st 0)) rfl rfl d_Dy_talk_23 ?_
  refine g_getA (pc := 24) hC fo_Dy_53 (ob_St hV hst) rfl d_Dy_talk_24 ?_
  refine g_iload (pc := 27) hC (i := 6) (x := y14) rfl d_Dy_talk_27 ?_
  refine g_iald (pc := 29) hC (ar_St_7 hV hst) d_Dy_talk_29 h (fun h => ?_)
  refine g_iconst (pc := 30) hC kc_m1 d_Dy_talk_30 ?_
  refine g_ixor (pc := 31) hC d_Dy_talk_31 ?_
  refine g_iand (pc := 32) hC d_Dy_talk_32 ?_
  refine g_leti h (fun y33 h => ?_)
  refine s_istore (pc := 33) hC (i := 7) (by decide) d_Dy_talk_33 (lv2 := [some (.ref (V.2.2.1 6 0)), some (.ref (V.2.2.1 tx 0)), some (.ref (V.2.2.1 st 0)), some (.int x3), some (.int x4), some (.int y6), some (.int y14), some (.int y33), none, none]) rfl ?_
  refine g_iload (pc := 35) hC (i := 7) (x := y33) rfl d_Dy_talk_35 ?_
  refine g_if_eq (pc := 37) hC (tgt := 66) (by decide) d_Dy_talk_37 h (fun h => ?_) (fun h => ?_)
  · exact g_vW (pc := 66) hC d_Dy_talk_66 h
  · refine g_aload_n (pc := 40) hC (i := 2) (x := (V.2.2.1 st 0)) rfl rfl d_Dy_talk_40 ?_
    refine g_iload_n (pc := 41) hC (i := 3) (x := x3) rfl rfl d_Dy_talk_41 ?_
    obtain ⟨q42, hq42, h⟩ := Option.bind_eq_some_iff.mp h
    refine g_vi (pc := 42) hC (As := [.int x3]) (st := []) mt_St_isCut lk_Dy_99 rfl (ob_St hV hst) (Nat.le_of_ble_eq_true rfl) ⟨Nat.le_of_ble_eq_true rfl, Nat.le_of_ble_eq_true rfl⟩ rfl d_Dy_talk_42 (c_St_isCut hV hst hq42) ?_
    refine g_if_ne (pc := 45) hC (tgt := 66) (by decide) d_Dy_talk_45 h (fun h => ?_) (fun h => ?_)
    · exact g_vW (pc := 66) hC d_Dy_talk_66 h
    · refine g_aload_n (pc := 48) hC (i := 2) (x := (V.2.2.1 st 0)) rfl rfl d_Dy_talk_48 ?_
      refine g_iload (pc := 49) hC (i := 5) (x := y6) rfl d_Dy_talk_49 ?_
      obtain ⟨q51, hq51, h⟩ := Option.bind_eq_some_iff.mp h
      refine g_vi (pc := 51) hC (As := [.int y6]) (st := []) mt_St_isAlive lk_Dy_45 rfl (ob_St hV hst) (Nat.le_of_ble_eq_true rfl) ⟨Nat.le_of_ble_eq_true rfl, Nat.le_of_ble_eq_true rfl⟩ rfl d_Dy_talk_51 (c_St_isAlive hV hst hq51) ?_
      refine g_if_eq (pc := 54) hC (tgt := 66) (by decide) d_Dy_talk_54 h (fun h => ?_) (fun h => ?_)
      · exact g_vW (pc := 66) hC d_Dy_talk_66 h
      · refine g_aload_n (pc := 57) hC (i := 2) (x := (V.2.2.1 st 0)) rfl rfl d_Dy_talk_57 ?_
        refine g_iload (pc := 58) hC (i := 6) (x := y14) rfl d_Dy_talk_58 ?_
        obtain ⟨q60, hq60, h⟩ := Option.bind_eq_some_iff.mp h
        refine g_vi (pc := 60) hC (As := [.int y14]) (st := []) mt_St_isAlive lk_Dy_45 rfl (ob_St hV hst) (Nat.le_of_ble_eq_true rfl) ⟨Nat.le_of_ble_eq_true rfl, Nat.le_of_ble_eq_true rfl⟩ rfl d_Dy_talk_60 (c_St_isAlive hV hst hq60) ?_
        refine g_if_ne (pc := 63) hC (tgt := 67) (by decide) d_Dy_talk_63 h (fun h => ?_) (fun h => ?_)
        · refine g_iconst (pc := 67) hC kc_0 d_Dy_talk_67 ?_
          refine s_istore (pc := 68) hC (i := 8) (by decide) d_Dy_talk_68 (lv2 := [some (.ref (V.2.2.1 6 0)), some (.ref (V.2.2.1 tx 0)), some (.ref (V.2.2.1 st 0)), some (.int x3), some (.int x4), some (.int y6), some (.int y14), some (.int y33), some (.int 0), none]) rfl ?_
          refine g_le (lv2 := [some (.ref (V.2.2.1 6 0)), some (.ref (V.2.2.1 tx 0)), some (.ref (V.2.2.1 st 0)), some (.int x3), some (.int x4), none, some (.int y14), some (.int y33), some (.int 0), none]) (⟨rfl, ⟨rfl, ⟨rfl, ⟨rfl, ⟨rfl, ⟨rfl, ⟨rfl, ⟨rfl, trivial⟩⟩⟩⟩⟩⟩⟩⟩) ?_
          exact w_Dy_talk_l70 hV htx hst hC 5000 x3 x4 y14 y33 0 S h
        · exact g_vW (pc := 66) hC d_Dy_talk_66 h
theorem c_Dy_talk {V : WV} {l : Launch} (hV : IsC V) {tx : Nat} {st : Nat} (htx : isTx tx) (hst : isSt st) {x3 : Int32} {x4 : Int32} {S : Mem} {z : Mem} (h : f_Dy_talk tx st x3 x4 S = some z) : CV V l y_Dy_talk bc_Dy_talk 10 none 3 75 [.ref (V.2.2.1 6 0), .ref (V.2.2.1 tx 0), .ref (V.2.2.1 st 0), .int x3, .int x4] S z :=
  ct_v rfl (IsC.ok hV) (Nat.le_of_ble_eq_true rfl) (fun _ _ hC => w_Dy_talk_b0 hV htx hst hC x3 x4 S h)
def f_St_settle_b2 (st : Nat) (tx : Nat) (k2 : Int32 → Mem → Option (Mem)) (x2 : Int32) (S : Mem) : Option (Mem) :=
  if (S.1 tx 0) ≤ x2 then
    some S
  else
    gIn x2 4 (
    gIn x2 4 (
    gIn x2 4 (letS (sA S st 4 x2 (jMmin (S.2.1 st 4 x2.toNatClampNeg) (S.2.1 st 9 x2.toNatClampNeg))) (fun S30 =>
    k2 (x2 + 1) S30))))
def f_St_settle_l2 (st : Nat) (tx : Nat) : Nat → Int32 → Mem → Option (Mem)
  | 0 => fun _ _ => none
  | n + 1 => f_St_settle_b2 st tx (f_St_settle_l2 st tx n)
def f_St_settle_b0 (st : Nat) (tx : Nat) (S : Mem) : Option (Mem) :=
  f_St_settle_l2 st tx 5000 0 S
def f_St_settle (st : Nat) (tx : Nat) (S : Mem) : Option (Mem) := f_St_settle_b0 st tx S
theorem d_St_settle_0 : decode bc_St_settle 0 = .ok (.iconst 0, 1) := by decide +kernel
theorem d_St_settle_1 : decode bc_St_settle 1 = .ok (.istore_n 2, 1) := by decide +kernel
theorem d_St_settle_2 : decode bc_St_settle 2 = .ok (.iload_n 2, 1) := by decide +kernel
theorem d_St_settle_3 : decode bc_St_settle 3 = .ok (.aload_n 1, 1) := by decide +kernel
theorem d_St_settle_4 : decode bc_St_settle 4 = .ok (.getfield 85, 3) := by decide +kernel
theorem d_St_settle_7 : decode bc_St_settle 7 = .ok (.if_icmp .ge 30, 3) := by decide +kernel
theorem d_St_settle_10 : decode bc_St_settle 10 = .ok (.aload_n 0, 1) := by decide +kernel
theorem d_St_settle_11 : decode bc_St_settle 11 = .ok (.getfield 24, 3) := by decide +kernel
theorem d_St_settle_14 : decode bc_St_settle 14 = .ok (.iload_n 2, 1) := by decide +kernel
theorem d_St_settle_15 : decode bc_St_settle 15 = .ok (.aload_n 0, 1) := by decide +kernel
theorem d_St_settle_16 : decode bc_St_settle 16 = .ok (.getfield 24, 3) := by decide +kernel
theorem d_St_settle_19 : decode bc_St_settle 19 = .ok (.iload_n 2, 1) := by decide +kernel
theorem d_St_settle_20 : decode bc_St_settle 20 = .ok (.iaload, 1) := by decide +kernel
theorem d_St_settle_21 : decode bc_St_settle 21 = .ok (.aload_n 0, 1) := by decide +kernel
theorem d_St_settle_22 : decode bc_St_settle 22 = .ok (.getfield 40, 3) := by decide +kernel
theorem d_St_settle_25 : decode bc_St_settle 25 = .ok (.iload_n 2, 1) := by decide +kernel
theorem d_St_settle_26 : decode bc_St_settle 26 = .ok (.iaload, 1) := by decide +kernel
theorem d_St_settle_27 : decode bc_St_settle 27 = .ok (.invokestatic 112, 3) := by decide +kernel
theorem d_St_settle_30 : decode bc_St_settle 30 = .ok (.iastore, 1) := by decide +kernel
theorem d_St_settle_31 : decode bc_St_settle 31 = .ok (.iinc 2 1, 3) := by decide +kernel
theorem d_St_settle_34 : decode bc_St_settle 34 = .ok (.goto (-32), 3) := by decide +kernel
theorem d_St_settle_37 : decode bc_St_settle 37 = .ok (.return_, 1) := by decide +kernel
set_option maxRecDepth 20000 in
theorem w_St_settle_b2 {X : CX} {V : WV} {st : Nat} {tx : Nat} (hV : IsC V) (hst : isSt st) (htx : isTx tx) {z : Mem} (hC : Ck X V bc_St_settle 3 "SecretWells$State" none 1 21) (k2 : Int32 → Mem → Option (Mem)) (hk2 : ∀ (x2 : Int32) (S : Mem), k2 x2 S = some z → G X V 3 (QV X V z) 2 [some (.ref (V.2.2.1 st 0)), some (.ref (V.2.2.1 tx 0)), some (.int x2)] [] S) (x2 : Int32) (S : Mem) (h : f_St_settle_b2 st tx k2 x2 S = some z) : G X V 3 (QV X V z) 2 [some (.ref (V.2.2.1 st 0)), some (.ref (V.2.2.1 tx 0)), some (.int x2)] [] S := by
  unfold f_St_settle_b2 at h
  refine g_iload_n (pc := 2) hC (i := 2) (x := x2) rfl rfl d_St_settle_2 ?_
  refine g_aload_n (pc := 3) hC (i := 1) (x := (V.2.2.1 tx 0)) rfl rfl d_St_settle_3 ?_
  refine g_getI (pc := 4) hC fo_St_85 (ob_Tx hV htx) rfl d_St_settle_4 ?_
  refine g_icmp_ge (pc := 7) hC (tgt := 37) (by decide) d_St_settle_7 h (fun h => ?_) (fun h => ?_)
  · exact g_vW (pc := 37) hC d_St_settle_37 h
  · refine g_aload_n (pc := 10) hC (i := 0) (x := (V.2.2.1 st 0)) rfl rfl d_St_settle_10 ?_
    refine g_getA (pc := 11) hC fo_St_24 (ob_St hV hst) rfl d_St_settle_11 ?_
    refine g_iload_n (pc := 14) hC (i := 2) (x := x2) rfl rfl d_St_settle_14 ?_
    refine g_aload_n (pc := 15) hC (i := 0) (x := (V.2.2.1 st 0)) rfl rfl d_St_settle_15 ?_
    refine g_getA (pc := 16) hC fo_St_24 (ob_St hV hst) rfl d_St_settle_16 ?_
    refine g_iload_n (pc := 19) hC (i := 2) (x := x2) rfl rfl d_St_settle_19 ?_
    refine g_iald (pc := 20) hC (ar_St_4 hV hst) d_St_settle_20 h (fun h => ?_)
    refine g_aload_n (pc := 21) hC (i := 0) (x := (V.2.2.1 st 0)) rfl rfl d_St_settle_21 ?_
    refine g_getA (pc := 22) hC fo_St_40 (ob_St hV hst) rfl d_St_settle_22 ?_
    refine g_iload_n (pc := 25) hC (i := 2) (x := x2) rfl rfl d_St_settle_25 ?_
    refine g_iald (pc := 26) hC (ar_St_9 hV hst) d_St_settle_26 h (fun h => ?_)
    refine g_mmin (pc := 27) hC lk_St_112 (Nat.le_of_ble_eq_true rfl) ⟨Nat.le_of_ble_eq_true rfl, Nat.le_of_ble_eq_true rfl⟩ d_St_settle_27 ?_
    refine g_iast (pc := 30) hC (ar_St_4 hV hst) d_St_settle_30 h (fun h => ?_)
    refine g_letS h (fun S30 h => ?_)
    refine s_iinc (pc := 31) hC (i := 2) (x := x2) (v := x2 + 1) rfl (by rw [kc_1]) (by decide) d_St_settle_31 (lv2 := [some (.ref (V.2.2.1 st 0)), some (.ref (V.2.2.1 tx 0)), some (.int (x2 + 1))]) rfl ?_
    refine g_goto (pc := 34) hC (tgt := 2) (by decide) d_St_settle_34 ?_
    exact hk2 (x2 + 1) S30 h
theorem w_St_settle_l2 {X : CX} {V : WV} {st : Nat} {tx : Nat} (hV : IsC V) (hst : isSt st) (htx : isTx tx) {z : Mem} (hC : Ck X V bc_St_settle 3 "SecretWells$State" none 1 21) : ∀ (n : Nat) (x2 : Int32) (S : Mem), f_St_settle_l2 st tx n x2 S = some z → G X V 3 (QV X V z) 2 [some (.ref (V.2.2.1 st 0)), some (.ref (V.2.2.1 tx 0)), some (.int x2)] [] S := by
  intro n
  induction n with
  | zero =>
    intro x2 S h
    have h : (none : Option (Mem)) = some z := h
    cases h
  | succ n ih =>
    intro x2 S h
    exact w_St_settle_b2 hV hst htx hC (f_St_settle_l2 st tx n) ih x2 S h
set_option maxRecDepth 20000 in
theorem w_St_settle_b0 {X : CX} {V : WV} {st : Nat} {tx : Nat} (hV : IsC V) (hst : isSt st) (htx : isTx tx) {z : Mem} (hC : Ck X V bc_St_settle 3 "SecretWells$State" none 1 21) (S : Mem) (h : f_St_settle_b0 st tx S = some z) : G X V 3 (QV X V z) 0 [some (.ref (V.2.2.1 st 0)), some (.ref (V.2.2.1 tx 0)), none] [] S := by
  unfold f_St_settle_b0 at h
  refine g_iconst (pc := 0) hC kc_0 d_St_settle_0 ?_
  refine s_istore_n (pc := 1) hC (i := 2) rfl (by decide) d_St_settle_1 (lv2 := [some (.ref (V.2.2.1 st 0)), some (.ref (V.2.2.1 tx 0)), some (.int 0)]) rfl ?_
  exact w_St_settle_l2 hV hst htx hC 5000 0 S h
theorem c_St_settle {V : WV} {l : Launch} (hV : IsC V) {st : Nat} {tx : Nat} (hst : isSt st) (htx : isTx tx) {S : Mem} {z : Mem} (h : f_St_settle st tx S = some z) : CV V l y_St_settle bc_St_settle 3 none 1 21 [.ref (V.2.2.1 st 0), .ref (V.2.2.1 tx 0)] S z :=
  ct_v rfl (IsC.ok hV) (Nat.le_of_ble_eq_true rfl) (fun _ _ hC => w_St_settle_b0 hV hst htx hC S h)
def f_Dy_pass_b108 (tx : Nat) (st : Nat) (k108 : Int32 → Int32 → Mem → Option (Mem)) (x3 : Int32) (x4 : Int32) (S : Mem) : Option (Mem) :=
  if (S.1 tx 3) ≤ x4 then
    Option.bind (f_St_settle st tx S) (fun q134 =>
    letS (pI q134 st 0 ((q134.1 st 0) + 1)) (fun S144 =>
    some S144))
  else
    Option.bind (f_Dy_talk tx st x4 x3 S) (fun q123 =>
    k108 x3 (x4 + 1) q123)
def f_Dy_pass_l108 (tx : Nat) (st : Nat) : Nat → Int32 → Int32 → Mem → Option (Mem)
  | 0 => fun _ _ _ => none
  | n + 1 => f_Dy_pass_b108 tx st (f_Dy_pass_l108 tx st n)
def f_Dy_pass_b58 (tx : Nat) (st : Nat) (k58 : Int32 → Int32 → Mem → Option (Mem)) (x3 : Int32) (x4 : Int32) (S : Mem) : Option (Mem) :=
  if (S.1 tx 1) ≤ x4 then
    gCp 0 0 7 7 7 (letS (sCp S st 7 6 1 0 0 7) (fun S102 =>
    f_Dy_pass_l108 tx st 5000 x3 0 S102))
  else
    Option.bind (f_St_isAlive st x4 S) (fun q70 =>
    if q70 = 0 then
      k58 x3 (x4 + 1) S
    else
      Option.bind (f_Dy_drink tx st x4 S) (fun q81 =>
      k58 x3 (x4 + 1) q81))
def f_Dy_pass_l58 (tx : Nat) (st : Nat) : Nat → Int32 → Int32 → Mem → Option (Mem)
  | 0 => fun _ _ _ => none
  | n + 1 => f_Dy_pass_b58 tx st (f_Dy_pass_l58 tx st n)
def f_Dy_pass_b3 (tx : Nat) (st : Nat) (k3 : Int32 → Int32 → Mem → Option (Mem)) (x3 : Int32) (x4 : Int32) (S : Mem) : Option (Mem) :=
  if (S.1 tx 0) ≤ x4 then
    f_Dy_pass_l58 tx st 5000 x3 0 S
  else
    Option.bind (f_Dy_fillsNow tx st x4 S) (fun q17 =>
    letS q17.1 (fun y20 =>
    gIn x4 4 (
    gIn x4 4 (
    gIn x4 4 (letS (sA q17.2 st 4 x4 (jMmin (q17.2.2.1 st 9 x4.toNatClampNeg) ((q17.2.2.1 st 4 x4.toNatClampNeg) + y20))) (fun S48 =>
    k3 x3 (x4 + 1) S48))))))
def f_Dy_pass_l3 (tx : Nat) (st : Nat) : Nat → Int32 → Int32 → Mem → Option (Mem)
  | 0 => fun _ _ _ => none
  | n + 1 => f_Dy_pass_b3 tx st (f_Dy_pass_l3 tx st n)
def f_Dy_pass_b0 (tx : Nat) (st : Nat) (x3 : Int32) (S : Mem) : Option (Mem) :=
  f_Dy_pass_l3 tx st 5000 x3 0 S
def f_Dy_pass (tx : Nat) (st : Nat) (x3 : Int32) (S : Mem) : Option (Mem) := f_Dy_pass_b0 tx st x3 S
theorem d_Dy_pass_0 : decode bc_Dy_pass 0 = .ok (.iconst 0, 1) := by decide +kernel
theorem d_Dy_pass_1 : decode bc_Dy_pass 1 = .ok (.istore 4, 2) := by decide +kernel
theorem d_Dy_pass_3 : decode bc_Dy_pass 3 = .ok (.iload 4, 2) := by decide +kernel
theorem d_Dy_pass_5 : decode bc_Dy_pass 5 = .ok (.aload_n 1, 1) := by decide +kernel
theorem d_Dy_pass_6 : decode bc_Dy_pass 6 = .ok (.getfield 18, 3) := by decide +kernel
theorem d_Dy_pass_9 : decode bc_Dy_pass 9 = .ok (.if_icmp .ge 46, 3) := by decide +kernel
theorem d_Dy_pass_12 : decode bc_Dy_pass 12 = .ok (.aload_n 0, 1) := by decide +kernel
theorem d_Dy_pass_13 : decode bc_Dy_pass 13 = .ok (.aload_n 1, 1) := by decide +kernel
theorem d_Dy_pass_14 : decode bc_Dy_pass 14 = .ok (.aload_n 2, 1) := by decide +kernel
theorem d_Dy_pass_15 : decode bc_Dy_pass 15 = .ok (.iload 4, 2) := by decide +kernel
theorem d_Dy_pass_17 : decode bc_Dy_pass 17 = .ok (.invokevirtual 24, 3) := by decide +kernel
theorem d_Dy_pass_20 : decode bc_Dy_pass 20 = .ok (.istore 5, 2) := by decide +kernel
theorem d_Dy_pass_22 : decode bc_Dy_pass 22 = .ok (.aload_n 2, 1) := by decide +kernel
theorem d_Dy_pass_23 : decode bc_Dy_pass 23 = .ok (.getfield 28, 3) := by decide +kernel
theorem d_Dy_pass_26 : decode bc_Dy_pass 26 = .ok (.iload 4, 2) := by decide +kernel
theorem d_Dy_pass_28 : decode bc_Dy_pass 28 = .ok (.aload_n 2, 1) := by decide +kernel
theorem d_Dy_pass_29 : decode bc_Dy_pass 29 = .ok (.getfield 33, 3) := by decide +kernel
theorem d_Dy_pass_32 : decode bc_Dy_pass 32 = .ok (.iload 4, 2) := by decide +kernel
theorem d_Dy_pass_34 : decode bc_Dy_pass 34 = .ok (.iaload, 1) := by decide +kernel
theorem d_Dy_pass_35 : decode bc_Dy_pass 35 = .ok (.aload_n 2, 1) := by decide +kernel
theorem d_Dy_pass_36 : decode bc_Dy_pass 36 = .ok (.getfield 28, 3) := by decide +kernel
theorem d_Dy_pass_39 : decode bc_Dy_pass 39 = .ok (.iload 4, 2) := by decide +kernel
theorem d_Dy_pass_41 : decode bc_Dy_pass 41 = .ok (.iaload, 1) := by decide +kernel
theorem d_Dy_pass_42 : decode bc_Dy_pass 42 = .ok (.iload 5, 2) := by decide +kernel
theorem d_Dy_pass_44 : decode bc_Dy_pass 44 = .ok (.iadd, 1) := by decide +kernel
theorem d_Dy_pass_45 : decode bc_Dy_pass 45 = .ok (.invokestatic 36, 3) := by decide +kernel
theorem d_Dy_pass_48 : decode bc_Dy_pass 48 = .ok (.iastore, 1) := by decide +kernel
theorem d_Dy_pass_49 : decode bc_Dy_pass 49 = .ok (.iinc 4 1, 3) := by decide +kernel
theorem d_Dy_pass_52 : decode bc_Dy_pass 52 = .ok (.goto (-49), 3) := by decide +kernel
theorem d_Dy_pass_55 : decode bc_Dy_pass 55 = .ok (.iconst 0, 1) := by decide +kernel
theorem d_Dy_pass_56 : decode bc_Dy_pass 56 = .ok (.istore 4, 2) := by decide +kernel
theorem d_Dy_pass_58 : decode bc_Dy_pass 58 = .ok (.iload 4, 2) := by decide +kernel
theorem d_Dy_pass_60 : decode bc_Dy_pass 60 = .ok (.aload_n 1, 1) := by decide +kernel
theorem d_Dy_pass_61 : decode bc_Dy_pass 61 = .ok (.getfield 42, 3) := by decide +kernel
theorem d_Dy_pass_64 : decode bc_Dy_pass 64 = .ok (.if_icmp .ge 26, 3) := by decide +kernel
theorem d_Dy_pass_67 : decode bc_Dy_pass 67 = .ok (.aload_n 2, 1) := by decide +kernel
theorem d_Dy_pass_68 : decode bc_Dy_pass 68 = .ok (.iload 4, 2) := by decide +kernel
theorem d_Dy_pass_70 : decode bc_Dy_pass 70 = .ok (.invokevirtual 45, 3) := by decide +kernel
theorem d_Dy_pass_73 : decode bc_Dy_pass 73 = .ok (.ifCond .eq 11, 3) := by decide +kernel
theorem d_Dy_pass_76 : decode bc_Dy_pass 76 = .ok (.aload_n 0, 1) := by decide +kernel
theorem d_Dy_pass_77 : decode bc_Dy_pass 77 = .ok (.aload_n 1, 1) := by decide +kernel
theorem d_Dy_pass_78 : decode bc_Dy_pass 78 = .ok (.aload_n 2, 1) := by decide +kernel
theorem d_Dy_pass_79 : decode bc_Dy_pass 79 = .ok (.iload 4, 2) := by decide +kernel
theorem d_Dy_pass_81 : decode bc_Dy_pass 81 = .ok (.invokevirtual 49, 3) := by decide +kernel
theorem d_Dy_pass_84 : decode bc_Dy_pass 84 = .ok (.iinc 4 1, 3) := by decide +kernel
theorem d_Dy_pass_87 : decode bc_Dy_pass 87 = .ok (.goto (-29), 3) := by decide +kernel
theorem d_Dy_pass_90 : decode bc_Dy_pass 90 = .ok (.aload_n 2, 1) := by decide +kernel
theorem d_Dy_pass_91 : decode bc_Dy_pass 91 = .ok (.getfield 53, 3) := by decide +kernel
theorem d_Dy_pass_94 : decode bc_Dy_pass 94 = .ok (.iconst 0, 1) := by decide +kernel
theorem d_Dy_pass_95 : decode bc_Dy_pass 95 = .ok (.aload_n 0, 1) := by decide +kernel
theorem d_Dy_pass_96 : decode bc_Dy_pass 96 = .ok (.getfield 15, 3) := by decide +kernel
theorem d_Dy_pass_99 : decode bc_Dy_pass 99 = .ok (.iconst 0, 1) := by decide +kernel
theorem d_Dy_pass_100 : decode bc_Dy_pass 100 = .ok (.bipush 7, 2) := by decide +kernel
theorem d_Dy_pass_102 : decode bc_Dy_pass 102 = .ok (.invokestatic 56, 3) := by decide +kernel
theorem d_Dy_pass_105 : decode bc_Dy_pass 105 = .ok (.iconst 0, 1) := by decide +kernel
theorem d_Dy_pass_106 : decode bc_Dy_pass 106 = .ok (.istore 4, 2) := by decide +kernel
theorem d_Dy_pass_108 : decode bc_Dy_pass 108 = .ok (.iload 4, 2) := by decide +kernel
theorem d_Dy_pass_110 : decode bc_Dy_pass 110 = .ok (.aload_n 1, 1) := by decide +kernel
theorem d_Dy_pass_111 : decode bc_Dy_pass 111 = .ok (.getfield 62, 3) := by decide +kernel
theorem d_Dy_pass_114 : decode bc_Dy_pass 114 = .ok (.if_icmp .ge 18, 3) := by decide +kernel
theorem d_Dy_pass_117 : decode bc_Dy_pass 117 = .ok (.aload_n 0, 1) := by decide +kernel
theorem d_Dy_pass_118 : decode bc_Dy_pass 118 = .ok (.aload_n 1, 1) := by decide +kernel
theorem d_Dy_pass_119 : decode bc_Dy_pass 119 = .ok (.aload_n 2, 1) := by decide +kernel
theorem d_Dy_pass_120 : decode bc_Dy_pass 120 = .ok (.iload 4, 2) := by decide +kernel
theorem d_Dy_pass_122 : decode bc_Dy_pass 122 = .ok (.iload_n 3, 1) := by decide +kernel
theorem d_Dy_pass_123 : decode bc_Dy_pass 123 = .ok (.invokevirtual 65, 3) := by decide +kernel
theorem d_Dy_pass_126 : decode bc_Dy_pass 126 = .ok (.iinc 4 1, 3) := by decide +kernel
theorem d_Dy_pass_129 : decode bc_Dy_pass 129 = .ok (.goto (-21), 3) := by decide +kernel
theorem d_Dy_pass_132 : decode bc_Dy_pass 132 = .ok (.aload_n 2, 1) := by decide +kernel
theorem d_Dy_pass_133 : decode bc_Dy_pass 133 = .ok (.aload_n 1, 1) := by decide +kernel
theorem d_Dy_pass_134 : decode bc_Dy_pass 134 = .ok (.invokevirtual 69, 3) := by decide +kernel
theorem d_Dy_pass_137 : decode bc_Dy_pass 137 = .ok (.aload_n 2, 1) := by decide +kernel
theorem d_Dy_pass_138 : decode bc_Dy_pass 138 = .ok (.dup, 1) := by decide +kernel
theorem d_Dy_pass_139 : decode bc_Dy_pass 139 = .ok (.getfield 73, 3) := by decide +kernel
theorem d_Dy_pass_142 : decode bc_Dy_pass 142 = .ok (.iconst 1, 1) := by decide +kernel
theorem d_Dy_pass_143 : decode bc_Dy_pass 143 = .ok (.iadd, 1) := by decide +kernel
theorem d_Dy_pass_144 : decode bc_Dy_pass 144 = .ok (.putfield 73, 3) := by decide +kernel
theorem d_Dy_pass_147 : decode bc_Dy_pass 147 = .ok (.return_, 1) := by decide +kernel
set_option maxRecDepth 20000 in
theorem w_Dy_pass_b108 {X : CX} {V : WV} {tx : Nat} {st : Nat} (hV : IsC V) (htx : isTx tx) (hst : isSt st) {z : Mem} (hC : Ck X V bc_Dy_pass 6 "SecretWells$Days" none 4 104) (k108 : Int32 → Int32 → Mem → Option (Mem)) (hk108 : ∀ (x3 : Int32) (x4 : Int32) (S : Mem), k108 x3 x4 S = some z → G X V 6 (QV X V z) 108 [some (.ref (V.2.2.1 6 0)), some (.ref (V.2.2.1 tx 0)), some (.ref (V.2.2.1 st 0)), some (.int x3), some (.int x4), none] [] S) (x3 : Int32) (x4 : Int32) (S : Mem) (h : f_Dy_pass_b108 tx st k108 x3 x4 S = some z) : G X V 6 (QV X V z) 108 [some (.ref (V.2.2.1 6 0)), some (.ref (V.2.2.1 tx 0)), some (.ref (V.2.2.1 st 0)), some (.int x3), some (.int x4), none] [] S := by
  unfold f_Dy_pass_b108 at h
  refine g_iload (pc := 108) hC (i := 4) (x := x4) rfl d_Dy_pass_108 ?_
  refine g_aload_n (pc := 110) hC (i := 1) (x := (V.2.2.1 tx 0)) rfl rfl d_Dy_pass_110 ?_
  refine g_getI (pc := 111) hC fo_Dy_62 (ob_Tx hV htx) rfl d_Dy_pass_111 ?_
  refine g_icmp_ge (pc := 114) hC (tgt := 132) (by decide) d_Dy_pass_114 h (fun h => ?_) (fun h => ?_)
  · refine g_aload_n (pc := 132) hC (i := 2) (x := (V.2.2.1 st 0)) rfl rfl d_Dy_pass_132 ?_
    refine g_aload_n (pc := 133) hC (i := 1) (x := (V.2.2.1 tx 0)) rfl rfl d_Dy_pass_133 ?_
    obtain ⟨q134, hq134, h⟩ := Option.bind_eq_some_iff.mp h
    refine g_vv (pc := 134) hC (As := [.ref (V.2.2.1 tx 0)]) (st := []) mt_St_settle lk_Dy_69 rfl (ob_St hV hst) (Nat.le_of_ble_eq_true rfl) ⟨Nat.le_of_ble_eq_true rfl, Nat.le_of_ble_eq_true rfl⟩ rfl d_Dy_pass_134 (c_St_settle hV hst htx hq134) ?_
    refine g_aload_n (pc := 137) hC (i := 2) (x := (V.2.2.1 st 0)) rfl rfl d_Dy_pass_137 ?_
    refine g_dup (pc := 138) hC rfl d_Dy_pass_138 ?_
    refine g_getI (pc := 139) hC fo_Dy_73 (ob_St hV hst) rfl d_Dy_pass_139 ?_
    refine g_iconst (pc := 142) hC kc_1 d_Dy_pass_142 ?_
    refine g_iadd (pc := 143) hC d_Dy_pass_143 ?_
    refine g_putI (pc := 144) hC po_Dy_73 (ob_St hV hst) rfl rfl rfl d_Dy_pass_144 ?_
    refine g_letS h (fun S144 h => ?_)
    exact g_vW (pc := 147) hC d_Dy_pass_147 h
  · refine g_aload_n (pc := 117) hC (i := 0) (x := (V.2.2.1 6 0)) rfl rfl d_Dy_pass_117 ?_
    refine g_aload_n (pc := 118) hC (i := 1) (x := (V.2.2.1 tx 0)) rfl rfl d_Dy_pass_118 ?_
    refine g_aload_n (pc := 119) hC (i := 2) (x := (V.2.2.1 st 0)) rfl rfl d_Dy_pass_119 ?_
    refine g_iload (pc := 120) hC (i := 4) (x := x4) rfl d_Dy_pass_120 ?_
    refine g_iload_n (pc := 122) hC (i := 3) (x := x3) rfl rfl d_Dy_pass_122 ?_
    obtain ⟨q123, hq123, h⟩ := Option.bind_eq_some_iff.mp h
    refine g_vv (pc := 123) hC (As := [.ref (V.2.2.1 tx 0), .ref (V.2.2.1 st 0), .int x4, .int x3]) (st := []) mt_Dy_talk lk_Dy_65 rfl (ob_Dy hV) (Nat.le_of_ble_eq_true rfl) ⟨Nat.le_of_ble_eq_true rfl, Nat.le_of_ble_eq_true rfl⟩ rfl d_Dy_pass_123 (c_Dy_talk hV htx hst hq123) ?_
    refine s_iinc (pc := 126) hC (i := 4) (x := x4) (v := x4 + 1) rfl (by rw [kc_1]) (by decide) d_Dy_pass_126 (lv2 := [some (.ref (V.2.2.1 6 0)), some (.ref (V.2.2.1 tx 0)), some (.ref (V.2.2.1 st 0)), some (.int x3), some (.int (x4 + 1)), none]) rfl ?_
    refine g_goto (pc := 129) hC (tgt := 108) (by decide) d_Dy_pass_129 ?_
    exact hk108 x3 (x4 + 1) q123 h
theorem w_Dy_pass_l108 {X : CX} {V : WV} {tx : Nat} {st : Nat} (hV : IsC V) (htx : isTx tx) (hst : isSt st) {z : Mem} (hC : Ck X V bc_Dy_pass 6 "SecretWells$Days" none 4 104) : ∀ (n : Nat) (x3 : Int32) (x4 : Int32) (S : Mem), f_Dy_pass_l108 tx st n x3 x4 S = some z → G X V 6 (QV X V z) 108 [some (.ref (V.2.2.1 6 0)), some (.ref (V.2.2.1 tx 0)), some (.ref (V.2.2.1 st 0)), some (.int x3), some (.int x4), none] [] S := by
  intro n
  induction n with
  | zero =>
    intro x3 x4 S h
    have h : (none : Option (Mem)) = some z := h
    cases h
  | succ n ih =>
    intro x3 x4 S h
    exact w_Dy_pass_b108 hV htx hst hC (f_Dy_pass_l108 tx st n) ih x3 x4 S h
set_option maxRecDepth 20000 in
theorem w_Dy_pass_b58 {X : CX} {V : WV} {tx : Nat} {st : Nat} (hV : IsC V) (htx : isTx tx) (hst : isSt st) {z : Mem} (hC : Ck X V bc_Dy_pass 6 "SecretWells$Days" none 4 104) (k58 : Int32 → Int32 → Mem → Option (Mem)) (hk58 : ∀ (x3 : Int32) (x4 : Int32) (S : Mem), k58 x3 x4 S = some z → G X V 6 (QV X V z) 58 [some (.ref (V.2.2.1 6 0)), some (.ref (V.2.2.1 tx 0)), some (.ref (V.2.2.1 st 0)), some (.int x3), some (.int x4), none] [] S) (x3 : Int32) (x4 : Int32) (S : Mem) (h : f_Dy_pass_b58 tx st k58 x3 x4 S = some z) : G X V 6 (QV X V z) 58 [some (.ref (V.2.2.1 6 0)), some (.ref (V.2.2.1 tx 0)), some (.ref (V.2.2.1 st 0)), some (.int x3), some (.int x4), none] [] S := by
  unfold f_Dy_pass_b58 at h
  refine g_iload (pc := 58) hC (i := 4) (x := x4) rfl d_Dy_pass_58 ?_
  refine g_aload_n (pc := 60) hC (i := 1) (x := (V.2.2.1 tx 0)) rfl rfl d_Dy_pass_60 ?_
  refine g_getI (pc := 61) hC fo_Dy_42 (ob_Tx hV htx) rfl d_Dy_pass_61 ?_
  refine g_icmp_ge (pc := 64) hC (tgt := 90) (by decide) d_Dy_pass_64 h (fun h => ?_) (fun h => ?_)
  · refine g_aload_n (pc := 90) hC (i := 2) (x := (V.2.2.1 st 0)) rfl rfl d_Dy_pass_90 ?_
    refine g_getA (pc := 91) hC fo_Dy_53 (ob_St hV hst) rfl d_Dy_pass_91 ?_
    refine g_iconst (pc := 94) hC kc_0 d_Dy_pass_94 ?_
    refine g_aload_n (pc := 95) hC (i := 0) (x := (V.2.2.1 6 0)) rfl rfl d_Dy_pass_95 ?_
    refine g_getA (pc := 96) hC fo_Dy_15 (ob_Dy hV) rfl d_Dy_pass_96 ?_
    refine g_iconst (pc := 99) hC kc_0 d_Dy_pass_99 ?_
    refine g_bipush (pc := 100) hC kb_7 d_Dy_pass_100 ?_
    refine g_copy (pc := 102) hC lk_Dy_56 (ar_St_7 hV hst) (ar_Dy_1 hV) (Nat.le_of_ble_eq_true rfl) ⟨Nat.le_of_ble_eq_true rfl, Nat.le_of_ble_eq_true rfl⟩ d_Dy_pass_102 h (fun h => ?_)
    refine g_letS h (fun S102 h => ?_)
    refine g_iconst (pc := 105) hC kc_0 d_Dy_pass_105 ?_
    refine s_istore (pc := 106) hC (i := 4) (by decide) d_Dy_pass_106 (lv2 := [some (.ref (V.2.2.1 6 0)), some (.ref (V.2.2.1 tx 0)), some (.ref (V.2.2.1 st 0)), some (.int x3), some (.int 0), none]) rfl ?_
    exact w_Dy_pass_l108 hV htx hst hC 5000 x3 0 S102 h
  · refine g_aload_n (pc := 67) hC (i := 2) (x := (V.2.2.1 st 0)) rfl rfl d_Dy_pass_67 ?_
    refine g_iload (pc := 68) hC (i := 4) (x := x4) rfl d_Dy_pass_68 ?_
    obtain ⟨q70, hq70, h⟩ := Option.bind_eq_some_iff.mp h
    refine g_vi (pc := 70) hC (As := [.int x4]) (st := []) mt_St_isAlive lk_Dy_45 rfl (ob_St hV hst) (Nat.le_of_ble_eq_true rfl) ⟨Nat.le_of_ble_eq_true rfl, Nat.le_of_ble_eq_true rfl⟩ rfl d_Dy_pass_70 (c_St_isAlive hV hst hq70) ?_
    refine g_if_eq (pc := 73) hC (tgt := 84) (by decide) d_Dy_pass_73 h (fun h => ?_) (fun h => ?_)
    · refine s_iinc (pc := 84) hC (i := 4) (x := x4) (v := x4 + 1) rfl (by rw [kc_1]) (by decide) d_Dy_pass_84 (lv2 := [some (.ref (V.2.2.1 6 0)), some (.ref (V.2.2.1 tx 0)), some (.ref (V.2.2.1 st 0)), some (.int x3), some (.int (x4 + 1)), none]) rfl ?_
      refine g_goto (pc := 87) hC (tgt := 58) (by decide) d_Dy_pass_87 ?_
      exact hk58 x3 (x4 + 1) S h
    · refine g_aload_n (pc := 76) hC (i := 0) (x := (V.2.2.1 6 0)) rfl rfl d_Dy_pass_76 ?_
      refine g_aload_n (pc := 77) hC (i := 1) (x := (V.2.2.1 tx 0)) rfl rfl d_Dy_pass_77 ?_
      refine g_aload_n (pc := 78) hC (i := 2) (x := (V.2.2.1 st 0)) rfl rfl d_Dy_pass_78 ?_
      refine g_iload (pc := 79) hC (i := 4) (x := x4) rfl d_Dy_pass_79 ?_
      obtain ⟨q81, hq81, h⟩ := Option.bind_eq_some_iff.mp h
      refine g_vv (pc := 81) hC (As := [.ref (V.2.2.1 tx 0), .ref (V.2.2.1 st 0), .int x4]) (st := []) mt_Dy_drink lk_Dy_49 rfl (ob_Dy hV) (Nat.le_of_ble_eq_true rfl) ⟨Nat.le_of_ble_eq_true rfl, Nat.le_of_ble_eq_true rfl⟩ rfl d_Dy_pass_81 (c_Dy_drink hV htx hst hq81) ?_
      refine s_iinc (pc := 84) hC (i := 4) (x := x4) (v := x4 + 1) rfl (by rw [kc_1]) (by decide) d_Dy_pass_84 (lv2 := [some (.ref (V.2.2.1 6 0)), some (.ref (V.2.2.1 tx 0)), some (.ref (V.2.2.1 st 0)), some (.int x3), some (.int (x4 + 1)), none]) rfl ?_
      refine g_goto (pc := 87) hC (tgt := 58) (by decide) d_Dy_pass_87 ?_
      exact hk58 x3 (x4 + 1) q81 h
theorem w_Dy_pass_l58 {X : CX} {V : WV} {tx : Nat} {st : Nat} (hV : IsC V) (htx : isTx tx) (hst : isSt st) {z : Mem} (hC : Ck X V bc_Dy_pass 6 "SecretWells$Days" none 4 104) : ∀ (n : Nat) (x3 : Int32) (x4 : Int32) (S : Mem), f_Dy_pass_l58 tx st n x3 x4 S = some z → G X V 6 (QV X V z) 58 [some (.ref (V.2.2.1 6 0)), some (.ref (V.2.2.1 tx 0)), some (.ref (V.2.2.1 st 0)), some (.int x3), some (.int x4), none] [] S := by
  intro n
  induction n with
  | zero =>
    intro x3 x4 S h
    have h : (none : Option (Mem)) = some z := h
    cases h
  | succ n ih =>
    intro x3 x4 S h
    exact w_Dy_pass_b58 hV htx hst hC (f_Dy_pass_l58 tx st n) ih x3 x4 S h
set_option maxRecDepth 20000 in
theorem w_Dy_pass_b3 {X : CX} {V : WV} {tx : Nat} {st : Nat} (hV : IsC V) (htx : isTx tx) (hst : isSt st) {z : Mem} (hC : Ck X V bc_Dy_pass 6 "SecretWells$Days" none 4 104) (k3 : Int32 → Int32 → Mem → Option (Mem)) (hk3 : ∀ (x3 : Int32) (x4 : Int32) (S : Mem), k3 x3 x4 S = some z → G X V 6 (QV X V z) 3 [some (.ref (V.2.2.1 6 0)), some (.ref (V.2.2.1 tx 0)), some (.ref (V.2.2.1 st 0)), some (.int x3), some (.int x4), none] [] S) (x3 : Int32) (x4 : Int32) (S : Mem) (h : f_Dy_pass_b3 tx st k3 x3 x4 S = some z) : G X V 6 (QV X V z) 3 [some (.ref (V.2.2.1 6 0)), some (.ref (V.2.2.1 tx 0)), some (.ref (V.2.2.1 st 0)), some (.int x3), some (.int x4), none] [] S := by
  unfold f_Dy_pass_b3 at h
  refine g_iload (pc := 3) hC (i := 4) (x := x4) rfl d_Dy_pass_3 ?_
  refine g_aload_n (pc := 5) hC (i := 1) (x := (V.2.2.1 tx 0)) rfl rfl d_Dy_pass_5 ?_
  refine g_getI (pc := 6) hC fo_Dy_18 (ob_Tx hV htx) rfl d_Dy_pass_6 ?_
  refine g_icmp_ge (pc := 9) hC (tgt := 55) (by decide) d_Dy_pass_9 h (fun h => ?_) (fun h => ?_)
  · refine g_iconst (pc := 55) hC kc_0 d_Dy_pass_55 ?_
    refine s_istore (pc := 56) hC (i := 4) (by decide) d_Dy_pass_56 (lv2 := [some (.ref (V.2.2.1 6 0)), some (.ref (V.2.2.1 tx 0)), some (.ref (V.2.2.1 st 0)), some (.int x3), some (.int 0), none]) rfl ?_
    exact w_Dy_pass_l58 hV htx hst hC 5000 x3 0 S h
  · refine g_aload_n (pc := 12) hC (i := 0) (x := (V.2.2.1 6 0)) rfl rfl d_Dy_pass_12 ?_
    refine g_aload_n (pc := 13) hC (i := 1) (x := (V.2.2.1 tx 0)) rfl rfl d_Dy_pass_13 ?_
    refine g_aload_n (pc := 14) hC (i := 2) (x := (V.2.2.1 st 0)) rfl rfl d_Dy_pass_14 ?_
    refine g_iload (pc := 15) hC (i := 4) (x := x4) rfl d_Dy_pass_15 ?_
    obtain ⟨q17, hq17, h⟩ := Option.bind_eq_some_iff.mp h
    refine g_vi (pc := 17) hC (As := [.ref (V.2.2.1 tx 0), .ref (V.2.2.1 st 0), .int x4]) (st := []) mt_Dy_fillsNow lk_Dy_24 rfl (ob_Dy hV) (Nat.le_of_ble_eq_true rfl) ⟨Nat.le_of_ble_eq_true rfl, Nat.le_of_ble_eq_true rfl⟩ rfl d_Dy_pass_17 (c_Dy_fillsNow hV htx hst hq17) ?_
    refine g_leti h (fun y20 h => ?_)
    refine s_istore (pc := 20) hC (i := 5) (by decide) d_Dy_pass_20 (lv2 := [some (.ref (V.2.2.1 6 0)), some (.ref (V.2.2.1 tx 0)), some (.ref (V.2.2.1 st 0)), some (.int x3), some (.int x4), some (.int y20)]) rfl ?_
    refine g_aload_n (pc := 22) hC (i := 2) (x := (V.2.2.1 st 0)) rfl rfl d_Dy_pass_22 ?_
    refine g_getA (pc := 23) hC fo_Dy_28 (ob_St hV hst) rfl d_Dy_pass_23 ?_
    refine g_iload (pc := 26) hC (i := 4) (x := x4) rfl d_Dy_pass_26 ?_
    refine g_aload_n (pc := 28) hC (i := 2) (x := (V.2.2.1 st 0)) rfl rfl d_Dy_pass_28 ?_
    refine g_getA (pc := 29) hC fo_Dy_33 (ob_St hV hst) rfl d_Dy_pass_29 ?_
    refine g_iload (pc := 32) hC (i := 4) (x := x4) rfl d_Dy_pass_32 ?_
    refine g_iald (pc := 34) hC (ar_St_9 hV hst) d_Dy_pass_34 h (fun h => ?_)
    refine g_aload_n (pc := 35) hC (i := 2) (x := (V.2.2.1 st 0)) rfl rfl d_Dy_pass_35 ?_
    refine g_getA (pc := 36) hC fo_Dy_28 (ob_St hV hst) rfl d_Dy_pass_36 ?_
    refine g_iload (pc := 39) hC (i := 4) (x := x4) rfl d_Dy_pass_39 ?_
    refine g_iald (pc := 41) hC (ar_St_4 hV hst) d_Dy_pass_41 h (fun h => ?_)
    refine g_iload (pc := 42) hC (i := 5) (x := y20) rfl d_Dy_pass_42 ?_
    refine g_iadd (pc := 44) hC d_Dy_pass_44 ?_
    refine g_mmin (pc := 45) hC lk_Dy_36 (Nat.le_of_ble_eq_true rfl) ⟨Nat.le_of_ble_eq_true rfl, Nat.le_of_ble_eq_true rfl⟩ d_Dy_pass_45 ?_
    refine g_iast (pc := 48) hC (ar_St_4 hV hst) d_Dy_pass_48 h (fun h => ?_)
    refine g_letS h (fun S48 h => ?_)
    refine s_iinc (pc := 49) hC (i := 4) (x := x4) (v := x4 + 1) rfl (by rw [kc_1]) (by decide) d_Dy_pass_49 (lv2 := [some (.ref (V.2.2.1 6 0)), some (.ref (V.2.2.1 tx 0)), some (.ref (V.2.2.1 st 0)), some (.int x3), some (.int (x4 + 1)), some (.int y20)]) rfl ?_
    refine g_goto (pc := 52) hC (tgt := 3) (by decide) d_Dy_pass_52 ?_
    refine g_le (lv2 := [some (.ref (V.2.2.1 6 0)), some (.ref (V.2.2.1 tx 0)), some (.ref (V.2.2.1 st 0)), some (.int x3), some (.int (x4 + 1)), none]) (⟨rfl, ⟨rfl, ⟨rfl, ⟨rfl, ⟨rfl, trivial⟩⟩⟩⟩⟩) ?_
    exact hk3 x3 (x4 + 1) S48 h
theorem w_Dy_pass_l3 {X : CX} {V : WV} {tx : Nat} {st : Nat} (hV : IsC V) (htx : isTx tx) (hst : isSt st) {z : Mem} (hC : Ck X V bc_Dy_pass 6 "SecretWells$Days" none 4 104) : ∀ (n : Nat) (x3 : Int32) (x4 : Int32) (S : Mem), f_Dy_pass_l3 tx st n x3 x4 S = some z → G X V 6 (QV X V z) 3 [some (.ref (V.2.2.1 6 0)), some (.ref (V.2.2.1 tx 0)), some (.ref (V.2.2.1 st 0)), some (.int x3), some (.int x4), none] [] S := by
  intro n
  induction n with
  | zero =>
    intro x3 x4 S h
    have h : (none : Option (Mem)) = some z := h
    cases h
  | succ n ih =>
    intro x3 x4 S h
    exact w_Dy_pass_b3 hV htx hst hC (f_Dy_pass_l3 tx st n) ih x3 x4 S h
set_option maxRecDepth 20000 in
theorem w_Dy_pass_b0 {X : CX} {V : WV} {tx : Nat} {st : Nat} (hV : IsC V) (htx : isTx tx) (hst : isSt st) {z : Mem} (hC : Ck X V bc_Dy_pass 6 "SecretWells$Days" none 4 104) (x3 : Int32) (S : Mem) (h : f_Dy_pass_b0 tx st x3 S = some z) : G X V 6 (QV X V z) 0 [some (.ref (V.2.2.1 6 0)), some (.ref (V.2.2.1 tx 0)), some (.ref (V.2.2.1 st 0)), some (.int x3), none, none] [] S := by
  unfold f_Dy_pass_b0 at h
  refine g_iconst (pc := 0) hC kc_0 d_Dy_pass_0 ?_
  refine s_istore (pc := 1) hC (i := 4) (by decide) d_Dy_pass_1 (lv2 := [some (.ref (V.2.2.1 6 0)), some (.ref (V.2.2.1 tx 0)), some (.ref (V.2.2.1 st 0)), some (.int x3), some (.int 0), none]) rfl ?_
  exact w_Dy_pass_l3 hV htx hst hC 5000 x3 0 S h
theorem c_Dy_pass {V : WV} {l : Launch} (hV : IsC V) {tx : Nat} {st : Nat} (htx : isTx tx) (hst : isSt st) {x3 : Int32} {S : Mem} {z : Mem} (h : f_Dy_pass tx st x3 S = some z) : CV V l y_Dy_pass bc_Dy_pass 6 none 4 104 [.ref (V.2.2.1 6 0), .ref (V.2.2.1 tx 0), .ref (V.2.2.1 st 0), .int x3] S z :=
  ct_v rfl (IsC.ok hV) (Nat.le_of_ble_eq_true rfl) (fun _ _ hC => w_Dy_pass_b0 hV htx hst hC x3 S h)
def f_Lw_begin_b0 (lw : Nat) (S : Mem) : Option (Mem) :=
  letS (pI S lw 2 0) (fun S2 =>
  letS (pI S2 lw 3 0) (fun S7 =>
  letS (pI S7 lw 4 0) (fun S12 =>
  some S12)))
def f_Lw_begin (lw : Nat) (S : Mem) : Option (Mem) := f_Lw_begin_b0 lw S
theorem d_Lw_begin_0 : decode bc_Lw_begin 0 = .ok (.aload_n 0, 1) := by decide +kernel
theorem d_Lw_begin_1 : decode bc_Lw_begin 1 = .ok (.iconst 0, 1) := by decide +kernel
theorem d_Lw_begin_2 : decode bc_Lw_begin 2 = .ok (.putfield 18, 3) := by decide +kernel
theorem d_Lw_begin_5 : decode bc_Lw_begin 5 = .ok (.aload_n 0, 1) := by decide +kernel
theorem d_Lw_begin_6 : decode bc_Lw_begin 6 = .ok (.iconst 0, 1) := by decide +kernel
theorem d_Lw_begin_7 : decode bc_Lw_begin 7 = .ok (.putfield 22, 3) := by decide +kernel
theorem d_Lw_begin_10 : decode bc_Lw_begin 10 = .ok (.aload_n 0, 1) := by decide +kernel
theorem d_Lw_begin_11 : decode bc_Lw_begin 11 = .ok (.iconst 0, 1) := by decide +kernel
theorem d_Lw_begin_12 : decode bc_Lw_begin 12 = .ok (.putfield 25, 3) := by decide +kernel
theorem d_Lw_begin_15 : decode bc_Lw_begin 15 = .ok (.return_, 1) := by decide +kernel
set_option maxRecDepth 20000 in
theorem w_Lw_begin_b0 {X : CX} {V : WV} {lw : Nat} (hV : IsC V) (hlw : isLw lw) {z : Mem} (hC : Ck X V bc_Lw_begin 1 "SecretWells$Law" none 0 0) (S : Mem) (h : f_Lw_begin_b0 lw S = some z) : G X V 1 (QV X V z) 0 [some (.ref (V.2.2.1 lw 0))] [] S := by
  unfold f_Lw_begin_b0 at h
  refine g_aload_n (pc := 0) hC (i := 0) (x := (V.2.2.1 lw 0)) rfl rfl d_Lw_begin_0 ?_
  refine g_iconst (pc := 1) hC kc_0 d_Lw_begin_1 ?_
  refine g_putI (pc := 2) hC po_Lw_18 (ob_Lw hV hlw) rfl rfl rfl d_Lw_begin_2 ?_
  refine g_letS h (fun S2 h => ?_)
  refine g_aload_n (pc := 5) hC (i := 0) (x := (V.2.2.1 lw 0)) rfl rfl d_Lw_begin_5 ?_
  refine g_iconst (pc := 6) hC kc_0 d_Lw_begin_6 ?_
  refine g_putI (pc := 7) hC po_Lw_22 (ob_Lw hV hlw) rfl rfl rfl d_Lw_begin_7 ?_
  refine g_letS h (fun S7 h => ?_)
  refine g_aload_n (pc := 10) hC (i := 0) (x := (V.2.2.1 lw 0)) rfl rfl d_Lw_begin_10 ?_
  refine g_iconst (pc := 11) hC kc_0 d_Lw_begin_11 ?_
  refine g_putI (pc := 12) hC po_Lw_25 (ob_Lw hV hlw) rfl rfl rfl d_Lw_begin_12 ?_
  refine g_letS h (fun S12 h => ?_)
  exact g_vW (pc := 15) hC d_Lw_begin_15 h
theorem c_Lw_begin {V : WV} {l : Launch} (hV : IsC V) {lw : Nat} (hlw : isLw lw) {S : Mem} {z : Mem} (h : f_Lw_begin lw S = some z) : CV V l y_Lw_begin bc_Lw_begin 1 none 0 0 [.ref (V.2.2.1 lw 0)] S z :=
  ct_v rfl (IsC.ok hV) (Nat.le_of_ble_eq_true rfl) (fun _ _ hC => w_Lw_begin_b0 hV hlw hC S h)
def f_Lw_put_b0 (lw : Nat) (x1 : Int32) (x2 : Int32) (S : Mem) : Option (Mem) :=
  if (Int32.ofNat 400) ≤ (S.1 lw 2) then
    some S
  else
    gIn (S.1 lw 2) 400 (letS (sA S lw 0 (S.1 lw 2) (x1 ||| (x2 <<< (8 &&& 31)))) (fun S26 =>
    letS (pI S26 lw 2 ((S26.1 lw 2) + 1)) (fun S34 =>
    some S34)))
def f_Lw_put (lw : Nat) (x1 : Int32) (x2 : Int32) (S : Mem) : Option (Mem) := f_Lw_put_b0 lw x1 x2 S
theorem d_Lw_put_0 : decode bc_Lw_put 0 = .ok (.aload_n 0, 1) := by decide +kernel
theorem d_Lw_put_1 : decode bc_Lw_put 1 = .ok (.getfield 18, 3) := by decide +kernel
theorem d_Lw_put_4 : decode bc_Lw_put 4 = .ok (.aload_n 0, 1) := by decide +kernel
theorem d_Lw_put_5 : decode bc_Lw_put 5 = .ok (.getfield 9, 3) := by decide +kernel
theorem d_Lw_put_8 : decode bc_Lw_put 8 = .ok (.arraylength, 1) := by decide +kernel
theorem d_Lw_put_9 : decode bc_Lw_put 9 = .ok (.if_icmp .ge 28, 3) := by decide +kernel
theorem d_Lw_put_12 : decode bc_Lw_put 12 = .ok (.aload_n 0, 1) := by decide +kernel
theorem d_Lw_put_13 : decode bc_Lw_put 13 = .ok (.getfield 9, 3) := by decide +kernel
theorem d_Lw_put_16 : decode bc_Lw_put 16 = .ok (.aload_n 0, 1) := by decide +kernel
theorem d_Lw_put_17 : decode bc_Lw_put 17 = .ok (.getfield 18, 3) := by decide +kernel
theorem d_Lw_put_20 : decode bc_Lw_put 20 = .ok (.iload_n 1, 1) := by decide +kernel
theorem d_Lw_put_21 : decode bc_Lw_put 21 = .ok (.iload_n 2, 1) := by decide +kernel
theorem d_Lw_put_22 : decode bc_Lw_put 22 = .ok (.bipush 8, 2) := by decide +kernel
theorem d_Lw_put_24 : decode bc_Lw_put 24 = .ok (.ishl, 1) := by decide +kernel
theorem d_Lw_put_25 : decode bc_Lw_put 25 = .ok (.ior, 1) := by decide +kernel
theorem d_Lw_put_26 : decode bc_Lw_put 26 = .ok (.iastore, 1) := by decide +kernel
theorem d_Lw_put_27 : decode bc_Lw_put 27 = .ok (.aload_n 0, 1) := by decide +kernel
theorem d_Lw_put_28 : decode bc_Lw_put 28 = .ok (.dup, 1) := by decide +kernel
theorem d_Lw_put_29 : decode bc_Lw_put 29 = .ok (.getfield 18, 3) := by decide +kernel
theorem d_Lw_put_32 : decode bc_Lw_put 32 = .ok (.iconst 1, 1) := by decide +kernel
theorem d_Lw_put_33 : decode bc_Lw_put 33 = .ok (.iadd, 1) := by decide +kernel
theorem d_Lw_put_34 : decode bc_Lw_put 34 = .ok (.putfield 18, 3) := by decide +kernel
theorem d_Lw_put_37 : decode bc_Lw_put 37 = .ok (.return_, 1) := by decide +kernel
set_option maxRecDepth 20000 in
theorem w_Lw_put_b0 {X : CX} {V : WV} {lw : Nat} (hV : IsC V) (hlw : isLw lw) {z : Mem} (hC : Ck X V bc_Lw_put 3 "SecretWells$Law" none 0 0) (x1 : Int32) (x2 : Int32) (S : Mem) (h : f_Lw_put_b0 lw x1 x2 S = some z) : G X V 3 (QV X V z) 0 [some (.ref (V.2.2.1 lw 0)), some (.int x1), some (.int x2)] [] S := by
  unfold f_Lw_put_b0 at h
  refine g_aload_n (pc := 0) hC (i := 0) (x := (V.2.2.1 lw 0)) rfl rfl d_Lw_put_0 ?_
  refine g_getI (pc := 1) hC fo_Lw_18 (ob_Lw hV hlw) rfl d_Lw_put_1 ?_
  refine g_aload_n (pc := 4) hC (i := 0) (x := (V.2.2.1 lw 0)) rfl rfl d_Lw_put_4 ?_
  refine g_getA (pc := 5) hC fo_Lw_9 (ob_Lw hV hlw) rfl d_Lw_put_5 ?_
  refine g_alen (pc := 8) hC (by decide) (ar_Lw_0 hV hlw) rfl d_Lw_put_8 ?_
  refine g_icmp_ge (pc := 9) hC (tgt := 37) (by decide) d_Lw_put_9 h (fun h => ?_) (fun h => ?_)
  · exact g_vW (pc := 37) hC d_Lw_put_37 h
  · refine g_aload_n (pc := 12) hC (i := 0) (x := (V.2.2.1 lw 0)) rfl rfl d_Lw_put_12 ?_
    refine g_getA (pc := 13) hC fo_Lw_9 (ob_Lw hV hlw) rfl d_Lw_put_13 ?_
    refine g_aload_n (pc := 16) hC (i := 0) (x := (V.2.2.1 lw 0)) rfl rfl d_Lw_put_16 ?_
    refine g_getI (pc := 17) hC fo_Lw_18 (ob_Lw hV hlw) rfl d_Lw_put_17 ?_
    refine g_iload_n (pc := 20) hC (i := 1) (x := x1) rfl rfl d_Lw_put_20 ?_
    refine g_iload_n (pc := 21) hC (i := 2) (x := x2) rfl rfl d_Lw_put_21 ?_
    refine g_bipush (pc := 22) hC kb_8 d_Lw_put_22 ?_
    refine g_ishl (pc := 24) hC d_Lw_put_24 ?_
    refine g_ior (pc := 25) hC d_Lw_put_25 ?_
    refine g_iast (pc := 26) hC (ar_Lw_0 hV hlw) d_Lw_put_26 h (fun h => ?_)
    refine g_letS h (fun S26 h => ?_)
    refine g_aload_n (pc := 27) hC (i := 0) (x := (V.2.2.1 lw 0)) rfl rfl d_Lw_put_27 ?_
    refine g_dup (pc := 28) hC rfl d_Lw_put_28 ?_
    refine g_getI (pc := 29) hC fo_Lw_18 (ob_Lw hV hlw) rfl d_Lw_put_29 ?_
    refine g_iconst (pc := 32) hC kc_1 d_Lw_put_32 ?_
    refine g_iadd (pc := 33) hC d_Lw_put_33 ?_
    refine g_putI (pc := 34) hC po_Lw_18 (ob_Lw hV hlw) rfl rfl rfl d_Lw_put_34 ?_
    refine g_letS h (fun S34 h => ?_)
    exact g_vW (pc := 37) hC d_Lw_put_37 h
theorem c_Lw_put {V : WV} {l : Launch} (hV : IsC V) {lw : Nat} (hlw : isLw lw) {x1 : Int32} {x2 : Int32} {S : Mem} {z : Mem} (h : f_Lw_put lw x1 x2 S = some z) : CV V l y_Lw_put bc_Lw_put 3 none 0 0 [.ref (V.2.2.1 lw 0), .int x1, .int x2] S z :=
  ct_v rfl (IsC.ok hV) (Nat.le_of_ble_eq_true rfl) (fun _ _ hC => w_Lw_put_b0 hV hlw hC x1 x2 S h)
def f_Lw_be_b0 (lw : Nat) (x1 : Int32) (S : Mem) : Option (Mem) :=
  Option.bind (f_Lw_begin lw S) (fun q1 =>
  Option.bind (f_Lw_put lw 0 x1 q1) (fun q7 =>
  Option.bind (f_Lw_put lw 3 0 q7) (fun q13 =>
  some q13)))
def f_Lw_be (lw : Nat) (x1 : Int32) (S : Mem) : Option (Mem) := f_Lw_be_b0 lw x1 S
theorem d_Lw_be_0 : decode bc_Lw_be 0 = .ok (.aload_n 0, 1) := by decide +kernel
theorem d_Lw_be_1 : decode bc_Lw_be 1 = .ok (.invokevirtual 28, 3) := by decide +kernel
theorem d_Lw_be_4 : decode bc_Lw_be 4 = .ok (.aload_n 0, 1) := by decide +kernel
theorem d_Lw_be_5 : decode bc_Lw_be 5 = .ok (.iconst 0, 1) := by decide +kernel
theorem d_Lw_be_6 : decode bc_Lw_be 6 = .ok (.iload_n 1, 1) := by decide +kernel
theorem d_Lw_be_7 : decode bc_Lw_be 7 = .ok (.invokevirtual 31, 3) := by decide +kernel
theorem d_Lw_be_10 : decode bc_Lw_be 10 = .ok (.aload_n 0, 1) := by decide +kernel
theorem d_Lw_be_11 : decode bc_Lw_be 11 = .ok (.iconst 3, 1) := by decide +kernel
theorem d_Lw_be_12 : decode bc_Lw_be 12 = .ok (.iconst 0, 1) := by decide +kernel
theorem d_Lw_be_13 : decode bc_Lw_be 13 = .ok (.invokevirtual 31, 3) := by decide +kernel
theorem d_Lw_be_16 : decode bc_Lw_be 16 = .ok (.return_, 1) := by decide +kernel
set_option maxRecDepth 20000 in
theorem w_Lw_be_b0 {X : CX} {V : WV} {lw : Nat} (hV : IsC V) (hlw : isLw lw) {z : Mem} (hC : Ck X V bc_Lw_be 2 "SecretWells$Law" none 1 22) (x1 : Int32) (S : Mem) (h : f_Lw_be_b0 lw x1 S = some z) : G X V 2 (QV X V z) 0 [some (.ref (V.2.2.1 lw 0)), some (.int x1)] [] S := by
  unfold f_Lw_be_b0 at h
  refine g_aload_n (pc := 0) hC (i := 0) (x := (V.2.2.1 lw 0)) rfl rfl d_Lw_be_0 ?_
  obtain ⟨q1, hq1, h⟩ := Option.bind_eq_some_iff.mp h
  refine g_vv (pc := 1) hC (As := []) (st := []) mt_Lw_begin lk_Lw_28 rfl (ob_Lw hV hlw) (Nat.le_of_ble_eq_true rfl) ⟨Nat.le_of_ble_eq_true rfl, Nat.le_of_ble_eq_true rfl⟩ rfl d_Lw_be_1 (c_Lw_begin hV hlw hq1) ?_
  refine g_aload_n (pc := 4) hC (i := 0) (x := (V.2.2.1 lw 0)) rfl rfl d_Lw_be_4 ?_
  refine g_iconst (pc := 5) hC kc_0 d_Lw_be_5 ?_
  refine g_iload_n (pc := 6) hC (i := 1) (x := x1) rfl rfl d_Lw_be_6 ?_
  obtain ⟨q7, hq7, h⟩ := Option.bind_eq_some_iff.mp h
  refine g_vv (pc := 7) hC (As := [.int 0, .int x1]) (st := []) mt_Lw_put lk_Lw_31 rfl (ob_Lw hV hlw) (Nat.le_of_ble_eq_true rfl) ⟨Nat.le_of_ble_eq_true rfl, Nat.le_of_ble_eq_true rfl⟩ rfl d_Lw_be_7 (c_Lw_put hV hlw hq7) ?_
  refine g_aload_n (pc := 10) hC (i := 0) (x := (V.2.2.1 lw 0)) rfl rfl d_Lw_be_10 ?_
  refine g_iconst (pc := 11) hC kc_3 d_Lw_be_11 ?_
  refine g_iconst (pc := 12) hC kc_0 d_Lw_be_12 ?_
  obtain ⟨q13, hq13, h⟩ := Option.bind_eq_some_iff.mp h
  refine g_vv (pc := 13) hC (As := [.int 3, .int 0]) (st := []) mt_Lw_put lk_Lw_31 rfl (ob_Lw hV hlw) (Nat.le_of_ble_eq_true rfl) ⟨Nat.le_of_ble_eq_true rfl, Nat.le_of_ble_eq_true rfl⟩ rfl d_Lw_be_13 (c_Lw_put hV hlw hq13) ?_
  exact g_vW (pc := 16) hC d_Lw_be_16 h
theorem c_Lw_be {V : WV} {l : Launch} (hV : IsC V) {lw : Nat} (hlw : isLw lw) {x1 : Int32} {S : Mem} {z : Mem} (h : f_Lw_be lw x1 S = some z) : CV V l y_Lw_be bc_Lw_be 2 none 1 22 [.ref (V.2.2.1 lw 0), .int x1] S z :=
  ct_v rfl (IsC.ok hV) (Nat.le_of_ble_eq_true rfl) (fun _ _ hC => w_Lw_be_b0 hV hlw hC x1 S h)
def f_Lw_await_b0 (lw : Nat) (x1 : Int32) (S : Mem) : Option (Mem) :=
  if (Int32.ofNat 64) ≤ (S.1 lw 3) then
    some S
  else
    gIn (S.1 lw 3) 64 (letS (sA S lw 1 (S.1 lw 3) x1) (fun S21 =>
    letS (pI S21 lw 3 ((S21.1 lw 3) + 1)) (fun S29 =>
    some S29)))
def f_Lw_await (lw : Nat) (x1 : Int32) (S : Mem) : Option (Mem) := f_Lw_await_b0 lw x1 S
theorem d_Lw_await_0 : decode bc_Lw_await 0 = .ok (.aload_n 0, 1) := by decide +kernel
theorem d_Lw_await_1 : decode bc_Lw_await 1 = .ok (.getfield 22, 3) := by decide +kernel
theorem d_Lw_await_4 : decode bc_Lw_await 4 = .ok (.aload_n 0, 1) := by decide +kernel
theorem d_Lw_await_5 : decode bc_Lw_await 5 = .ok (.getfield 15, 3) := by decide +kernel
theorem d_Lw_await_8 : decode bc_Lw_await 8 = .ok (.arraylength, 1) := by decide +kernel
theorem d_Lw_await_9 : decode bc_Lw_await 9 = .ok (.if_icmp .ge 23, 3) := by decide +kernel
theorem d_Lw_await_12 : decode bc_Lw_await 12 = .ok (.aload_n 0, 1) := by decide +kernel
theorem d_Lw_await_13 : decode bc_Lw_await 13 = .ok (.getfield 15, 3) := by decide +kernel
theorem d_Lw_await_16 : decode bc_Lw_await 16 = .ok (.aload_n 0, 1) := by decide +kernel
theorem d_Lw_await_17 : decode bc_Lw_await 17 = .ok (.getfield 22, 3) := by decide +kernel
theorem d_Lw_await_20 : decode bc_Lw_await 20 = .ok (.iload_n 1, 1) := by decide +kernel
theorem d_Lw_await_21 : decode bc_Lw_await 21 = .ok (.iastore, 1) := by decide +kernel
theorem d_Lw_await_22 : decode bc_Lw_await 22 = .ok (.aload_n 0, 1) := by decide +kernel
theorem d_Lw_await_23 : decode bc_Lw_await 23 = .ok (.dup, 1) := by decide +kernel
theorem d_Lw_await_24 : decode bc_Lw_await 24 = .ok (.getfield 22, 3) := by decide +kernel
theorem d_Lw_await_27 : decode bc_Lw_await 27 = .ok (.iconst 1, 1) := by decide +kernel
theorem d_Lw_await_28 : decode bc_Lw_await 28 = .ok (.iadd, 1) := by decide +kernel
theorem d_Lw_await_29 : decode bc_Lw_await 29 = .ok (.putfield 22, 3) := by decide +kernel
theorem d_Lw_await_32 : decode bc_Lw_await 32 = .ok (.return_, 1) := by decide +kernel
set_option maxRecDepth 20000 in
theorem w_Lw_await_b0 {X : CX} {V : WV} {lw : Nat} (hV : IsC V) (hlw : isLw lw) {z : Mem} (hC : Ck X V bc_Lw_await 2 "SecretWells$Law" none 0 0) (x1 : Int32) (S : Mem) (h : f_Lw_await_b0 lw x1 S = some z) : G X V 2 (QV X V z) 0 [some (.ref (V.2.2.1 lw 0)), some (.int x1)] [] S := by
  unfold f_Lw_await_b0 at h
  refine g_aload_n (pc := 0) hC (i := 0) (x := (V.2.2.1 lw 0)) rfl rfl d_Lw_await_0 ?_
  refine g_getI (pc := 1) hC fo_Lw_22 (ob_Lw hV hlw) rfl d_Lw_await_1 ?_
  refine g_aload_n (pc := 4) hC (i := 0) (x := (V.2.2.1 lw 0)) rfl rfl d_Lw_await_4 ?_
  refine g_getA (pc := 5) hC fo_Lw_15 (ob_Lw hV hlw) rfl d_Lw_await_5 ?_
  refine g_alen (pc := 8) hC (by decide) (ar_Lw_1 hV hlw) rfl d_Lw_await_8 ?_
  refine g_icmp_ge (pc := 9) hC (tgt := 32) (by decide) d_Lw_await_9 h (fun h => ?_) (fun h => ?_)
  · exact g_vW (pc := 32) hC d_Lw_await_32 h
  · refine g_aload_n (pc := 12) hC (i := 0) (x := (V.2.2.1 lw 0)) rfl rfl d_Lw_await_12 ?_
    refine g_getA (pc := 13) hC fo_Lw_15 (ob_Lw hV hlw) rfl d_Lw_await_13 ?_
    refine g_aload_n (pc := 16) hC (i := 0) (x := (V.2.2.1 lw 0)) rfl rfl d_Lw_await_16 ?_
    refine g_getI (pc := 17) hC fo_Lw_22 (ob_Lw hV hlw) rfl d_Lw_await_17 ?_
    refine g_iload_n (pc := 20) hC (i := 1) (x := x1) rfl rfl d_Lw_await_20 ?_
    refine g_iast (pc := 21) hC (ar_Lw_1 hV hlw) d_Lw_await_21 h (fun h => ?_)
    refine g_letS h (fun S21 h => ?_)
    refine g_aload_n (pc := 22) hC (i := 0) (x := (V.2.2.1 lw 0)) rfl rfl d_Lw_await_22 ?_
    refine g_dup (pc := 23) hC rfl d_Lw_await_23 ?_
    refine g_getI (pc := 24) hC fo_Lw_22 (ob_Lw hV hlw) rfl d_Lw_await_24 ?_
    refine g_iconst (pc := 27) hC kc_1 d_Lw_await_27 ?_
    refine g_iadd (pc := 28) hC d_Lw_await_28 ?_
    refine g_putI (pc := 29) hC po_Lw_22 (ob_Lw hV hlw) rfl rfl rfl d_Lw_await_29 ?_
    refine g_letS h (fun S29 h => ?_)
    exact g_vW (pc := 32) hC d_Lw_await_32 h
theorem c_Lw_await {V : WV} {l : Launch} (hV : IsC V) {lw : Nat} (hlw : isLw lw) {x1 : Int32} {S : Mem} {z : Mem} (h : f_Lw_await lw x1 S = some z) : CV V l y_Lw_await bc_Lw_await 2 none 0 0 [.ref (V.2.2.1 lw 0), .int x1] S z :=
  ct_v rfl (IsC.ok hV) (Nat.le_of_ble_eq_true rfl) (fun _ _ hC => w_Lw_await_b0 hV hlw hC x1 S h)
def f_Lw_rank_b0 (x0 : Int32) : Option (Int32) :=
  if x0 = 40 then
    some 0
  else
    if x0 = 43 then
      some 1
    else
      if x0 = 45 then
        some 1
      else
        some 2
def f_Lw_rank (x0 : Int32) : Option (Int32) := f_Lw_rank_b0  x0
theorem d_Lw_rank_0 : decode bc_Lw_rank 0 = .ok (.iload_n 0, 1) := by decide +kernel
theorem d_Lw_rank_1 : decode bc_Lw_rank 1 = .ok (.bipush 40, 2) := by decide +kernel
theorem d_Lw_rank_3 : decode bc_Lw_rank 3 = .ok (.if_icmp .ne 7, 3) := by decide +kernel
theorem d_Lw_rank_6 : decode bc_Lw_rank 6 = .ok (.iconst 0, 1) := by decide +kernel
theorem d_Lw_rank_7 : decode bc_Lw_rank 7 = .ok (.goto 20, 3) := by decide +kernel
theorem d_Lw_rank_10 : decode bc_Lw_rank 10 = .ok (.iload_n 0, 1) := by decide +kernel
theorem d_Lw_rank_11 : decode bc_Lw_rank 11 = .ok (.bipush 43, 2) := by decide +kernel
theorem d_Lw_rank_13 : decode bc_Lw_rank 13 = .ok (.if_icmp .eq 9, 3) := by decide +kernel
theorem d_Lw_rank_16 : decode bc_Lw_rank 16 = .ok (.iload_n 0, 1) := by decide +kernel
theorem d_Lw_rank_17 : decode bc_Lw_rank 17 = .ok (.bipush 45, 2) := by decide +kernel
theorem d_Lw_rank_19 : decode bc_Lw_rank 19 = .ok (.if_icmp .ne 7, 3) := by decide +kernel
theorem d_Lw_rank_22 : decode bc_Lw_rank 22 = .ok (.iconst 1, 1) := by decide +kernel
theorem d_Lw_rank_23 : decode bc_Lw_rank 23 = .ok (.goto 4, 3) := by decide +kernel
theorem d_Lw_rank_26 : decode bc_Lw_rank 26 = .ok (.iconst 2, 1) := by decide +kernel
theorem d_Lw_rank_27 : decode bc_Lw_rank 27 = .ok (.ireturn, 1) := by decide +kernel
set_option maxRecDepth 20000 in
theorem w_Lw_rank_b0 {X : CX} {V : WV} (hVO : VOk V) {S : Mem} {z : Int32} (hC : Ck X V bc_Lw_rank 1 "SecretWells$Law" (some .int) 0 0) (x0 : Int32) (h : f_Lw_rank_b0  x0 = some z) : G X V 1 (QI X V z S) 0 [some (.int x0)] [] S := by
  unfold f_Lw_rank_b0 at h
  refine g_iload_n (pc := 0) hC (i := 0) (x := x0) rfl rfl d_Lw_rank_0 ?_
  refine g_bipush (pc := 1) hC kb_40 d_Lw_rank_1 ?_
  refine g_icmp_ne (pc := 3) hC (tgt := 10) (by decide) d_Lw_rank_3 h (fun h => ?_) (fun h => ?_)
  · refine g_iload_n (pc := 10) hC (i := 0) (x := x0) rfl rfl d_Lw_rank_10 ?_
    refine g_bipush (pc := 11) hC kb_43 d_Lw_rank_11 ?_
    refine g_icmp_eq (pc := 13) hC (tgt := 22) (by decide) d_Lw_rank_13 h (fun h => ?_) (fun h => ?_)
    · refine g_iconst (pc := 22) hC kc_1 d_Lw_rank_22 ?_
      refine g_goto (pc := 23) hC (tgt := 27) (by decide) d_Lw_rank_23 ?_
      exact g_iN (pc := 27) hC rfl d_Lw_rank_27 h
    · refine g_iload_n (pc := 16) hC (i := 0) (x := x0) rfl rfl d_Lw_rank_16 ?_
      refine g_bipush (pc := 17) hC kb_45 d_Lw_rank_17 ?_
      refine g_icmp_ne (pc := 19) hC (tgt := 26) (by decide) d_Lw_rank_19 h (fun h => ?_) (fun h => ?_)
      · refine g_iconst (pc := 26) hC kc_2 d_Lw_rank_26 ?_
        exact g_iN (pc := 27) hC rfl d_Lw_rank_27 h
      · refine g_iconst (pc := 22) hC kc_1 d_Lw_rank_22 ?_
        refine g_goto (pc := 23) hC (tgt := 27) (by decide) d_Lw_rank_23 ?_
        exact g_iN (pc := 27) hC rfl d_Lw_rank_27 h
  · refine g_iconst (pc := 6) hC kc_0 d_Lw_rank_6 ?_
    refine g_goto (pc := 7) hC (tgt := 27) (by decide) d_Lw_rank_7 ?_
    exact g_iN (pc := 27) hC rfl d_Lw_rank_27 h
theorem c_Lw_rank {V : WV} {l : Launch} (hVO : VOk V) {x0 : Int32} {S : Mem} {z : Int32} (h : f_Lw_rank x0 = some z) : CI V l y_Lw_rank bc_Lw_rank 1 (some .int) 0 0 [.int x0] S z S :=
  ct_i rfl hVO (Nat.le_of_ble_eq_true rfl) (fun _ _ hC => w_Lw_rank_b0 hVO hC x0 h)
