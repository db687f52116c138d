/-! methods of the bytecode as functions, and the machine's walks of them. By program (wip/whole/gen/make.py): Co_next -/
def f_Co_next_b0 (x1 : Int32) (x2 : Int32) (S : Mem) : Option (Int32 × Mem) :=
  Option.bind (f_Co_isKnownBy x1 S) (fun q2 =>
  if q2 = 0 then
    some ((-1), S)
  else
    if x2 < 0 then
      some ((-1), S)
    else
      if x2 ≤ 1 then
        gTx (S.1 0 11) (
        if (S.1 ((S.1 0 11).toNatClampNeg) 0) = 0 then
          some ((-2), S)
        else
          gTx (S.1 0 11) (
          Option.bind (f_Nt_tellsMost ((S.1 0 11).toNatClampNeg) x1 x2 S) (fun q44 =>
          some (q44.1, q44.2))))
      else
        some ((-1), S))
def f_Co_next (x1 : Int32) (x2 : Int32) (S : Mem) : Option (Int32 × Mem) := f_Co_next_b0  x1 x2 S
theorem d_Co_next_0 : decode bc_Co_next 0 = .ok (.aload_n 0, 1) := by decide +kernel
theorem d_Co_next_1 : decode bc_Co_next 1 = .ok (.iload_n 1, 1) := by decide +kernel
theorem d_Co_next_2 : decode bc_Co_next 2 = .ok (.invokevirtual 360, 3) := by decide +kernel
theorem d_Co_next_5 : decode bc_Co_next 5 = .ok (.ifCond .eq 12, 3) := by decide +kernel
theorem d_Co_next_8 : decode bc_Co_next 8 = .ok (.iload_n 2, 1) := by decide +kernel
theorem d_Co_next_9 : decode bc_Co_next 9 = .ok (.ifCond .lt 8, 3) := by decide +kernel
theorem d_Co_next_12 : decode bc_Co_next 12 = .ok (.iload_n 2, 1) := by decide +kernel
theorem d_Co_next_13 : decode bc_Co_next 13 = .ok (.iconst 1, 1) := by decide +kernel
theorem d_Co_next_14 : decode bc_Co_next 14 = .ok (.if_icmp .le 5, 3) := by decide +kernel
theorem d_Co_next_17 : decode bc_Co_next 17 = .ok (.iconst (-1), 1) := by decide +kernel
theorem d_Co_next_18 : decode bc_Co_next 18 = .ok (.ireturn, 1) := by decide +kernel
theorem d_Co_next_19 : decode bc_Co_next 19 = .ok (.aload_n 0, 1) := by decide +kernel
theorem d_Co_next_20 : decode bc_Co_next 20 = .ok (.getfield 85, 3) := by decide +kernel
theorem d_Co_next_23 : decode bc_Co_next 23 = .ok (.getfield 221, 3) := by decide +kernel
theorem d_Co_next_26 : decode bc_Co_next 26 = .ok (.ifCond .ne 8, 3) := by decide +kernel
theorem d_Co_next_29 : decode bc_Co_next 29 = .ok (.bipush (-2), 2) := by decide +kernel
theorem d_Co_next_31 : decode bc_Co_next 31 = .ok (.goto 16, 3) := by decide +kernel
theorem d_Co_next_34 : decode bc_Co_next 34 = .ok (.aload_n 0, 1) := by decide +kernel
theorem d_Co_next_35 : decode bc_Co_next 35 = .ok (.getfield 66, 3) := by decide +kernel
theorem d_Co_next_38 : decode bc_Co_next 38 = .ok (.aload_n 0, 1) := by decide +kernel
theorem d_Co_next_39 : decode bc_Co_next 39 = .ok (.getfield 85, 3) := by decide +kernel
theorem d_Co_next_42 : decode bc_Co_next 42 = .ok (.iload_n 1, 1) := by decide +kernel
theorem d_Co_next_43 : decode bc_Co_next 43 = .ok (.iload_n 2, 1) := by decide +kernel
theorem d_Co_next_44 : decode bc_Co_next 44 = .ok (.invokevirtual 370, 3) := by decide +kernel
theorem d_Co_next_47 : decode bc_Co_next 47 = .ok (.ireturn, 1) := by decide +kernel
set_option maxRecDepth 20000 in
theorem w_Co_next_b0 {X : CX} {V : WV} (hV : IsC V) {z : Int32 × Mem} (hC : Ck X V bc_Co_next 3 "SecretWells" (some .int) 3 80) (x1 : Int32) (x2 : Int32) (S : Mem) (h : f_Co_next_b0  x1 x2 S = some z) : G X V 3 (QI X V z.1 z.2) 0 [some (.ref (V.2.2.1 0 0)), some (.int x1), some (.int x2)] [] S := by
  unfold f_Co_next_b0 at h
  refine g_aload_n (pc := 0) hC (i := 0) (x := (V.2.2.1 0 0)) rfl rfl d_Co_next_0 ?_
  refine g_iload_n (pc := 1) hC (i := 1) (x := x1) rfl rfl d_Co_next_1 ?_
  obtain ⟨q2, hq2, h⟩ := Option.bind_eq_some_iff.mp h
  refine g_vi (pc := 2) hC (As := [.int x1]) (st := []) mt_Co_isKnownBy lk_Co_360 rfl (ob_Co hV) (Nat.le_of_ble_eq_true rfl) ⟨Nat.le_of_ble_eq_true rfl, Nat.le_of_ble_eq_true rfl⟩ rfl d_Co_next_2 (c_Co_isKnownBy hV hq2) ?_
  refine g_if_eq (pc := 5) hC (tgt := 17) (by decide) d_Co_next_5 h (fun h => ?_) (fun h => ?_)
  · refine g_iconst (pc := 17) hC kc_m1 d_Co_next_17 ?_
    exact g_iW (pc := 18) hC rfl d_Co_next_18 h
  · refine g_iload_n (pc := 8) hC (i := 2) (x := x2) rfl rfl d_Co_next_8 ?_
    refine g_if_lt (pc := 9) hC (tgt := 17) (by decide) d_Co_next_9 h (fun h => ?_) (fun h => ?_)
    · refine g_iconst (pc := 17) hC kc_m1 d_Co_next_17 ?_
      exact g_iW (pc := 18) hC rfl d_Co_next_18 h
    · refine g_iload_n (pc := 12) hC (i := 2) (x := x2) rfl rfl d_Co_next_12 ?_
      refine g_iconst (pc := 13) hC kc_1 d_Co_next_13 ?_
      refine g_icmp_le (pc := 14) hC (tgt := 19) (by decide) d_Co_next_14 h (fun h => ?_) (fun h => ?_)
      · refine g_aload_n (pc := 19) hC (i := 0) (x := (V.2.2.1 0 0)) rfl rfl d_Co_next_19 ?_
        refine g_getM (pc := 20) hC fo_Co_85 (ob_Co hV) rfl d_Co_next_20 ?_
        obtain ⟨ht20, h⟩ := gTx_some h
        refine g_getI (pc := 23) hC fo_Co_221 (ob_Tx hV ht20) rfl d_Co_next_23 ?_
        refine g_if_ne (pc := 26) hC (tgt := 34) (by decide) d_Co_next_26 h (fun h => ?_) (fun h => ?_)
        · refine g_aload_n (pc := 34) hC (i := 0) (x := (V.2.2.1 0 0)) rfl rfl d_Co_next_34 ?_
          refine g_getC (pc := 35) hC (j := 9) fo_Co_66 (ob_Co hV) rfl d_Co_next_35 ?_
          refine g_aload_n (pc := 38) hC (i := 0) (x := (V.2.2.1 0 0)) rfl rfl d_Co_next_38 ?_
          refine g_getM (pc := 39) hC fo_Co_85 (ob_Co hV) rfl d_Co_next_39 ?_
          obtain ⟨ht39, h⟩ := gTx_some h
          refine g_iload_n (pc := 42) hC (i := 1) (x := x1) rfl rfl d_Co_next_42 ?_
          refine g_iload_n (pc := 43) hC (i := 2) (x := x2) rfl rfl d_Co_next_43 ?_
          obtain ⟨q44, hq44, h⟩ := Option.bind_eq_some_iff.mp h
          refine g_vi (pc := 44) hC (As := [.ref (V.2.2.1 ((S.1 0 11).toNatClampNeg) 0), .int x1, .int x2]) (st := []) mt_Nt_tellsMost lk_Co_370 rfl (ob_Nt hV) (Nat.le_of_ble_eq_true rfl) ⟨Nat.le_of_ble_eq_true rfl, Nat.le_of_ble_eq_true rfl⟩ rfl d_Co_next_44 (c_Nt_tellsMost hV ht39 hq44) ?_
          exact g_iW (pc := 47) hC rfl d_Co_next_47 h
        · refine g_bipush (pc := 29) hC kb_m2 d_Co_next_29 ?_
          refine g_goto (pc := 31) hC (tgt := 47) (by decide) d_Co_next_31 ?_
          exact g_iW (pc := 47) hC rfl d_Co_next_47 h
      · refine g_iconst (pc := 17) hC kc_m1 d_Co_next_17 ?_
        exact g_iW (pc := 18) hC rfl d_Co_next_18 h
theorem c_Co_next {V : WV} {l : Launch} (hV : IsC V) {x1 : Int32} {x2 : Int32} {S : Mem} {z : Int32 × Mem} (h : f_Co_next x1 x2 S = some z) : CI V l y_Co_next bc_Co_next 3 (some .int) 3 80 [.ref (V.2.2.1 0 0), .int x1, .int x2] S z.1 z.2 :=
  ct_i rfl (IsC.ok hV) (Nat.le_of_ble_eq_true rfl) (fun _ _ hC => w_Co_next_b0 hV hC x1 x2 S h)
