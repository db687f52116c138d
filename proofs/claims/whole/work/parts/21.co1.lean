/-! methods of the bytecode as functions, and the machine's walks of them. By program (wip/whole/gen/make.py): Lw_putWaiting, Lw_finish, Lw_add, Tx_clear, Tp_kindAt, Tp_valueAt, Mn_find, Mn_isTold, Tp_placeAt, Mn_failed, Mn_newName, Mn_number, Mn_putWell, Mn_oldName, Mn_putMan, Mn_putKnower, Mn_putSecret, Mn_putTie, Mn_putLaw, Mn_putTell, Tx_measure, Mn_seek, Nt_add, Nt_fits, Nt_trueOnes -/
def f_Lw_putWaiting_b0 (lw : Nat) (k0 : Int32 → Mem → Option (Mem)) (x1 : Int32) (S : Mem) : Option (Mem) :=
  if (S.1 lw 3) ≤ 0 then
    some S
  else
    gIn ((S.1 lw 3) - 1) 64 (
    Option.bind (f_Lw_rank (S.2.1 lw 1 ((S.1 lw 3) - 1).toNatClampNeg)) (fun q18 =>
    if q18 < x1 then
      some S
    else
      letS (pI S lw 3 ((S.1 lw 3) - 1)) (fun S32 =>
      gIn (S32.1 lw 3) 64 (
      Option.bind (f_Lw_put lw (S32.2.1 lw 1 (S32.1 lw 3).toNatClampNeg) 0 S32) (fun q46 =>
      k0 x1 q46)))))
def f_Lw_putWaiting_l0 (lw : Nat) : Nat → Int32 → Mem → Option (Mem)
  | 0 => fun _ _ => none
  | n + 1 => f_Lw_putWaiting_b0 lw (f_Lw_putWaiting_l0 lw n)
def f_Lw_putWaiting (lw : Nat) (x1 : Int32) (S : Mem) : Option (Mem) := f_Lw_putWaiting_l0 lw 5000 x1 S
theorem d_Lw_putWaiting_0 : decode bc_Lw_putWaiting 0 = .ok (.aload_n 0, 1) := by decide +kernel
theorem d_Lw_putWaiting_1 : decode bc_Lw_putWaiting 1 = .ok (.getfield 22, 3) := by decide +kernel
theorem d_Lw_putWaiting_4 : decode bc_Lw_putWaiting 4 = .ok (.ifCond .le 48, 3) := by decide +kernel
theorem d_Lw_putWaiting_7 : decode bc_Lw_putWaiting 7 = .ok (.aload_n 0, 1) := by decide +kernel
theorem d_Lw_putWaiting_8 : decode bc_Lw_putWaiting 8 = .ok (.getfield 15, 3) := by decide +kernel
theorem d_Lw_putWaiting_11 : decode bc_Lw_putWaiting 11 = .ok (.aload_n 0, 1) := by decide +kernel
theorem d_Lw_putWaiting_12 : decode bc_Lw_putWaiting 12 = .ok (.getfield 22, 3) := by decide +kernel
theorem d_Lw_putWaiting_15 : decode bc_Lw_putWaiting 15 = .ok (.iconst 1, 1) := by decide +kernel
theorem d_Lw_putWaiting_16 : decode bc_Lw_putWaiting 16 = .ok (.isub, 1) := by decide +kernel
theorem d_Lw_putWaiting_17 : decode bc_Lw_putWaiting 17 = .ok (.iaload, 1) := by decide +kernel
theorem d_Lw_putWaiting_18 : decode bc_Lw_putWaiting 18 = .ok (.invokestatic 53, 3) := by decide +kernel
theorem d_Lw_putWaiting_21 : decode bc_Lw_putWaiting 21 = .ok (.iload_n 1, 1) := by decide +kernel
theorem d_Lw_putWaiting_22 : decode bc_Lw_putWaiting 22 = .ok (.if_icmp .lt 30, 3) := by decide +kernel
theorem d_Lw_putWaiting_25 : decode bc_Lw_putWaiting 25 = .ok (.aload_n 0, 1) := by decide +kernel
theorem d_Lw_putWaiting_26 : decode bc_Lw_putWaiting 26 = .ok (.dup, 1) := by decide +kernel
theorem d_Lw_putWaiting_27 : decode bc_Lw_putWaiting 27 = .ok (.getfield 22, 3) := by decide +kernel
theorem d_Lw_putWaiting_30 : decode bc_Lw_putWaiting 30 = .ok (.iconst 1, 1) := by decide +kernel
theorem d_Lw_putWaiting_31 : decode bc_Lw_putWaiting 31 = .ok (.isub, 1) := by decide +kernel
theorem d_Lw_putWaiting_32 : decode bc_Lw_putWaiting 32 = .ok (.putfield 22, 3) := by decide +kernel
theorem d_Lw_putWaiting_35 : decode bc_Lw_putWaiting 35 = .ok (.aload_n 0, 1) := by decide +kernel
theorem d_Lw_putWaiting_36 : decode bc_Lw_putWaiting 36 = .ok (.aload_n 0, 1) := by decide +kernel
theorem d_Lw_putWaiting_37 : decode bc_Lw_putWaiting 37 = .ok (.getfield 15, 3) := by decide +kernel
theorem d_Lw_putWaiting_40 : decode bc_Lw_putWaiting 40 = .ok (.aload_n 0, 1) := by decide +kernel
theorem d_Lw_putWaiting_41 : decode bc_Lw_putWaiting 41 = .ok (.getfield 22, 3) := by decide +kernel
theorem d_Lw_putWaiting_44 : decode bc_Lw_putWaiting 44 = .ok (.iaload, 1) := by decide +kernel
theorem d_Lw_putWaiting_45 : decode bc_Lw_putWaiting 45 = .ok (.iconst 0, 1) := by decide +kernel
theorem d_Lw_putWaiting_46 : decode bc_Lw_putWaiting 46 = .ok (.invokevirtual 31, 3) := by decide +kernel
theorem d_Lw_putWaiting_49 : decode bc_Lw_putWaiting 49 = .ok (.goto (-49), 3) := by decide +kernel
theorem d_Lw_putWaiting_52 : decode bc_Lw_putWaiting 52 = .ok (.return_, 1) := by decide +kernel
set_option maxRecDepth 20000 in
theorem w_Lw_putWaiting_b0 {X : CX} {V : WV} {lw : Nat} (hV : IsC V) (hlw : isLw lw) {z : Mem} (hC : Ck X V bc_Lw_putWaiting 2 "SecretWells$Law" none 1 22) (k0 : Int32 → Mem → Option (Mem)) (hk0 : ∀ (x1 : Int32) (S : Mem), k0 x1 S = some z → G X V 2 (QV X V z) 0 [some (.ref (V.2.2.1 lw 0)), some (.int x1)] [] S) (x1 : Int32) (S : Mem) (h : f_Lw_putWaiting_b0 lw k0 x1 S = some z) : G X V 2 (QV X V z) 0 [some (.ref (V.2.2.1 lw 0)), some (.int x1)] [] S := by
  unfold f_Lw_putWaiting_b0 at h
  refine g_aload_n (pc := 0) hC (i := 0) (x := (V.2.2.1 lw 0)) rfl rfl d_Lw_putWaiting_0 ?_
  refine g_getI (pc := 1) hC fo_Lw_22 (ob_Lw hV hlw) rfl d_Lw_putWaiting_1 ?_
  refine g_if_le (pc := 4) hC (tgt := 52) (by decide) d_Lw_putWaiting_4 h (fun h => ?_) (fun h => ?_)
  · exact g_vW (pc := 52) hC d_Lw_putWaiting_52 h
  · refine g_aload_n (pc := 7) hC (i := 0) (x := (V.2.2.1 lw 0)) rfl rfl d_Lw_putWaiting_7 ?_
    refine g_getA (pc := 8) hC fo_Lw_15 (ob_Lw hV hlw) rfl d_Lw_putWaiting_8 ?_
    refine g_aload_n (pc := 11) hC (i := 0) (x := (V.2.2.1 lw 0)) rfl rfl d_Lw_putWaiting_11 ?_
    refine g_getI (pc := 12) hC fo_Lw_22 (ob_Lw hV hlw) rfl d_Lw_putWaiting_12 ?_
    refine g_iconst (pc := 15) hC kc_1 d_Lw_putWaiting_15 ?_
    refine g_isub (pc := 16) hC d_Lw_putWaiting_16 ?_
    refine g_iald (pc := 17) hC (ar_Lw_1 hV hlw) d_Lw_putWaiting_17 h (fun h => ?_)
    obtain ⟨q18, hq18, h⟩ := Option.bind_eq_some_iff.mp h
    refine g_si (pc := 18) hC (As := [.int (S.2.1 lw 1 ((S.1 lw 3) - 1).toNatClampNeg)]) (st := []) mt_Lw_rank lk_Lw_53 (Nat.le_of_ble_eq_true rfl) ⟨Nat.le_of_ble_eq_true rfl, Nat.le_of_ble_eq_true rfl⟩ rfl d_Lw_putWaiting_18 (c_Lw_rank (IsC.ok hV) hq18) ?_
    refine g_iload_n (pc := 21) hC (i := 1) (x := x1) rfl rfl d_Lw_putWaiting_21 ?_
    refine g_icmp_lt (pc := 22) hC (tgt := 52) (by decide) d_Lw_putWaiting_22 h (fun h => ?_) (fun h => ?_)
    · exact g_vW (pc := 52) hC d_Lw_putWaiting_52 h
    · refine g_aload_n (pc := 25) hC (i := 0) (x := (V.2.2.1 lw 0)) rfl rfl d_Lw_putWaiting_25 ?_
      refine g_dup (pc := 26) hC rfl d_Lw_putWaiting_26 ?_
      refine g_getI (pc := 27) hC fo_Lw_22 (ob_Lw hV hlw) rfl d_Lw_putWaiting_27 ?_
      refine g_iconst (pc := 30) hC kc_1 d_Lw_putWaiting_30 ?_
      refine g_isub (pc := 31) hC d_Lw_putWaiting_31 ?_
      refine g_putI (pc := 32) hC po_Lw_22 (ob_Lw hV hlw) rfl rfl rfl d_Lw_putWaiting_32 ?_
      refine g_letS h (fun S32 h => ?_)
      refine g_aload_n (pc := 35) hC (i := 0) (x := (V.2.2.1 lw 0)) rfl rfl d_Lw_putWaiting_35 ?_
      refine g_aload_n (pc := 36) hC (i := 0) (x := (V.2.2.1 lw 0)) rfl rfl d_Lw_putWaiting_36 ?_
      refine g_getA (pc := 37) hC fo_Lw_15 (ob_Lw hV hlw) rfl d_Lw_putWaiting_37 ?_
      refine g_aload_n (pc := 40) hC (i := 0) (x := (V.2.2.1 lw 0)) rfl rfl d_Lw_putWaiting_40 ?_
      refine g_getI (pc := 41) hC fo_Lw_22 (ob_Lw hV hlw) rfl d_Lw_putWaiting_41 ?_
      refine g_iald (pc := 44) hC (ar_Lw_1 hV hlw) d_Lw_putWaiting_44 h (fun h => ?_)
      refine g_iconst (pc := 45) hC kc_0 d_Lw_putWaiting_45 ?_
      obtain ⟨q46, hq46, h⟩ := Option.bind_eq_some_iff.mp h
      refine g_vv (pc := 46) hC (As := [.int (S32.2.1 lw 1 (S32.1 lw 3).toNatClampNeg), .int 0]) (st := []) mt_Lw_put lk_Lw_31 rfl (ob_Lw hV hlw) (Nat.le_of_ble_eq_true rfl) ⟨Nat.le_of_ble_eq_true rfl, Nat.le_of_ble_eq_true rfl⟩ rfl d_Lw_putWaiting_46 (c_Lw_put hV hlw hq46) ?_
      refine g_goto (pc := 49) hC (tgt := 0) (by decide) d_Lw_putWaiting_49 ?_
      exact hk0 x1 q46 h
theorem w_Lw_putWaiting_l0 {X : CX} {V : WV} {lw : Nat} (hV : IsC V) (hlw : isLw lw) {z : Mem} (hC : Ck X V bc_Lw_putWaiting 2 "SecretWells$Law" none 1 22) : ∀ (n : Nat) (x1 : Int32) (S : Mem), f_Lw_putWaiting_l0 lw n x1 S = some z → G X V 2 (QV X V z) 0 [some (.ref (V.2.2.1 lw 0)), some (.int x1)] [] S := by
  intro n
  induction n with
  | zero =>
    intro x1 S h
    have h : (none : Option (Mem)) = some z := h
    cases h
  | succ n ih =>
    intro x1 S h
    exact w_Lw_putWaiting_b0 hV hlw hC (f_Lw_putWaiting_l0 lw n) ih x1 S h
theorem c_Lw_putWaiting {V : WV} {l : Launch} (hV : IsC V) {lw : Nat} (hlw : isLw lw) {x1 : Int32} {S : Mem} {z : Mem} (h : f_Lw_putWaiting lw x1 S = some z) : CV V l y_Lw_putWaiting bc_Lw_putWaiting 2 none 1 22 [.ref (V.2.2.1 lw 0), .int x1] S z :=
  ct_v rfl (IsC.ok hV) (Nat.le_of_ble_eq_true rfl) (fun _ _ hC => w_Lw_putWaiting_l0 hV hlw hC 5000 x1 S h)
def f_Lw_finish_b0 (lw : Nat) (S : Mem) : Option (Mem) :=
  Option.bind (f_Lw_putWaiting lw 1 S) (fun q2 =>
  Option.bind (f_Lw_put lw 3 0 q2) (fun q8 =>
  some q8))
def f_Lw_finish (lw : Nat) (S : Mem) : Option (Mem) := f_Lw_finish_b0 lw S
theorem d_Lw_finish_0 : decode bc_Lw_finish 0 = .ok (.aload_n 0, 1) := by decide +kernel
theorem d_Lw_finish_1 : decode bc_Lw_finish 1 = .ok (.iconst 1, 1) := by decide +kernel
theorem d_Lw_finish_2 : decode bc_Lw_finish 2 = .ok (.invokevirtual 39, 3) := by decide +kernel
theorem d_Lw_finish_5 : decode bc_Lw_finish 5 = .ok (.aload_n 0, 1) := by decide +kernel
theorem d_Lw_finish_6 : decode bc_Lw_finish 6 = .ok (.iconst 3, 1) := by decide +kernel
theorem d_Lw_finish_7 : decode bc_Lw_finish 7 = .ok (.iconst 0, 1) := by decide +kernel
theorem d_Lw_finish_8 : decode bc_Lw_finish 8 = .ok (.invokevirtual 31, 3) := by decide +kernel
theorem d_Lw_finish_11 : decode bc_Lw_finish 11 = .ok (.return_, 1) := by decide +kernel
set_option maxRecDepth 20000 in
theorem w_Lw_finish_b0 {X : CX} {V : WV} {lw : Nat} (hV : IsC V) (hlw : isLw lw) {z : Mem} (hC : Ck X V bc_Lw_finish 1 "SecretWells$Law" none 2 43) (S : Mem) (h : f_Lw_finish_b0 lw S = some z) : G X V 1 (QV X V z) 0 [some (.ref (V.2.2.1 lw 0))] [] S := by
  unfold f_Lw_finish_b0 at h
  refine g_aload_n (pc := 0) hC (i := 0) (x := (V.2.2.1 lw 0)) rfl rfl d_Lw_finish_0 ?_
  refine g_iconst (pc := 1) hC kc_1 d_Lw_finish_1 ?_
  obtain ⟨q2, hq2, h⟩ := Option.bind_eq_some_iff.mp h
  refine g_vv (pc := 2) hC (As := [.int 1]) (st := []) mt_Lw_putWaiting lk_Lw_39 rfl (ob_Lw hV hlw) (Nat.le_of_ble_eq_true rfl) ⟨Nat.le_of_ble_eq_true rfl, Nat.le_of_ble_eq_true rfl⟩ rfl d_Lw_finish_2 (c_Lw_putWaiting hV hlw hq2) ?_
  refine g_aload_n (pc := 5) hC (i := 0) (x := (V.2.2.1 lw 0)) rfl rfl d_Lw_finish_5 ?_
  refine g_iconst (pc := 6) hC kc_3 d_Lw_finish_6 ?_
  refine g_iconst (pc := 7) hC kc_0 d_Lw_finish_7 ?_
  obtain ⟨q8, hq8, h⟩ := Option.bind_eq_some_iff.mp h
  refine g_vv (pc := 8) hC (As := [.int 3, .int 0]) (st := []) mt_Lw_put lk_Lw_31 rfl (ob_Lw hV hlw) (Nat.le_of_ble_eq_true rfl) ⟨Nat.le_of_ble_eq_true rfl, Nat.le_of_ble_eq_true rfl⟩ rfl d_Lw_finish_8 (c_Lw_put hV hlw hq8) ?_
  exact g_vW (pc := 11) hC d_Lw_finish_11 h
theorem c_Lw_finish {V : WV} {l : Launch} (hV : IsC V) {lw : Nat} (hlw : isLw lw) {S : Mem} {z : Mem} (h : f_Lw_finish lw S = some z) : CV V l y_Lw_finish bc_Lw_finish 1 none 2 43 [.ref (V.2.2.1 lw 0)] S z :=
  ct_v rfl (IsC.ok hV) (Nat.le_of_ble_eq_true rfl) (fun _ _ hC => w_Lw_finish_b0 hV hlw hC S h)
def f_Lw_add_b0 (lw : Nat) (x1 : Int32) (x2 : Int32) (S : Mem) : Option (Mem) :=
  if x1 = 40 then
    Option.bind (f_Lw_await lw x1 S) (fun q111 =>
    some q111)
  else if x1 = 41 then
    Option.bind (f_Lw_putWaiting lw 1 S) (fun q119 =>
    letS (pI q119 lw 3 (jMmax 0 ((q119.1 lw 3) - 1))) (fun S133 =>
    some S133))
  else if x1 = 42 then
    Option.bind (f_Lw_putWaiting lw 2 S) (fun q154 =>
    Option.bind (f_Lw_await lw x1 q154) (fun q159 =>
    some q159))
  else if x1 = 43 then
    Option.bind (f_Lw_putWaiting lw 1 S) (fun q141 =>
    Option.bind (f_Lw_await lw x1 q141) (fun q146 =>
    some q146))
  else if x1 = 45 then
    Option.bind (f_Lw_putWaiting lw 1 S) (fun q141 =>
    Option.bind (f_Lw_await lw x1 q141) (fun q146 =>
    some q146))
  else if x1 = 47 then
    Option.bind (f_Lw_putWaiting lw 2 S) (fun q154 =>
    Option.bind (f_Lw_await lw x1 q154) (fun q159 =>
    some q159))
  else if x1 = 48 then
    Option.bind (f_Lw_put lw 0 x2 S) (fun q103 =>
    some q103)
  else if x1 = 60 then
    Option.bind (f_Lw_putWaiting lw 1 S) (fun q167 =>
    some q167)
  else if x1 = 139 then
    some S
  else if x1 = 140 then
    Option.bind (f_Lw_putWaiting lw 1 S) (fun q178 =>
    letS (pI q178 lw 4 (q178.1 lw 2)) (fun S186 =>
    Option.bind (f_Lw_put lw 2 0 S186) (fun q192 =>
    some q192)))
  else if x1 = 141 then
    Option.bind (f_Lw_finish lw S) (fun q199 =>
    if (Int32.ofNat 400) ≤ (q199.1 lw 4) then
      some q199
    else
      gIn (q199.1 lw 4) 400 (letS (sA q199 lw 0 (q199.1 lw 4) ((2 : Int32) ||| ((q199.1 lw 2) <<< (8 &&& 31)))) (fun S231 =>
      some S231)))
  else 
    Option.bind (f_Lw_put lw 1 (x1 - 142) S) (fun q242 =>
    some q242)
def f_Lw_add (lw : Nat) (x1 : Int32) (x2 : Int32) (S : Mem) : Option (Mem) := f_Lw_add_b0 lw x1 x2 S
theorem d_Lw_add_0 : decode bc_Lw_add 0 = .ok (.iload_n 1, 1) := by decide +kernel
theorem d_Lw_add_1 : decode bc_Lw_add 1 = .ok (.lookupswitch 234 #[(40, 108), (41, 116), (42, 151), (43, 138), (45, 138), (47, 151), (48, 99), (60, 164), (139, 172), (140, 175), (141, 197)], 99) := by decide +kernel
theorem d_Lw_add_100 : decode bc_Lw_add 100 = .ok (.aload_n 0, 1) := by decide +kernel
theorem d_Lw_add_101 : decode bc_Lw_add 101 = .ok (.iconst 0, 1) := by decide +kernel
theorem d_Lw_add_102 : decode bc_Lw_add 102 = .ok (.iload_n 2, 1) := by decide +kernel
theorem d_Lw_add_103 : decode bc_Lw_add 103 = .ok (.invokevirtual 31, 3) := by decide +kernel
theorem d_Lw_add_106 : decode bc_Lw_add 106 = .ok (.goto 139, 3) := by decide +kernel
theorem d_Lw_add_109 : decode bc_Lw_add 109 = .ok (.aload_n 0, 1) := by decide +kernel
theorem d_Lw_add_110 : decode bc_Lw_add 110 = .ok (.iload_n 1, 1) := by decide +kernel
theorem d_Lw_add_111 : decode bc_Lw_add 111 = .ok (.invokevirtual 35, 3) := by decide +kernel
theorem d_Lw_add_114 : decode bc_Lw_add 114 = .ok (.goto 131, 3) := by decide +kernel
theorem d_Lw_add_117 : decode bc_Lw_add 117 = .ok (.aload_n 0, 1) := by decide +kernel
theorem d_Lw_add_118 : decode bc_Lw_add 118 = .ok (.iconst 1, 1) := by decide +kernel
theorem d_Lw_add_119 : decode bc_Lw_add 119 = .ok (.invokevirtual 39, 3) := by decide +kernel
theorem d_Lw_add_122 : decode bc_Lw_add 122 = .ok (.aload_n 0, 1) := by decide +kernel
theorem d_Lw_add_123 : decode bc_Lw_add 123 = .ok (.iconst 0, 1) := by decide +kernel
theorem d_Lw_add_124 : decode bc_Lw_add 124 = .ok (.aload_n 0, 1) := by decide +kernel
theorem d_Lw_add_125 : decode bc_Lw_add 125 = .ok (.getfield 22, 3) := by decide +kernel
theorem d_Lw_add_128 : decode bc_Lw_add 128 = .ok (.iconst 1, 1) := by decide +kernel
theorem d_Lw_add_129 : decode bc_Lw_add 129 = .ok (.isub, 1) := by decide +kernel
theorem d_Lw_add_130 : decode bc_Lw_add 130 = .ok (.invokestatic 42, 3) := by decide +kernel
theorem d_Lw_add_133 : decode bc_Lw_add 133 = .ok (.putfield 22, 3) := by decide +kernel
theorem d_Lw_add_136 : decode bc_Lw_add 136 = .ok (.goto 109, 3) := by decide +kernel
theorem d_Lw_add_139 : decode bc_Lw_add 139 = .ok (.aload_n 0, 1) := by decide +kernel
theorem d_Lw_add_140 : decode bc_Lw_add 140 = .ok (.iconst 1, 1) := by decide +kernel
theorem d_Lw_add_141 : decode bc_Lw_add 141 = .ok (.invokevirtual 39, 3) := by decide +kernel
theorem d_Lw_add_144 : decode bc_Lw_add 144 = .ok (.aload_n 0, 1) := by decide +kernel
theorem d_Lw_add_145 : decode bc_Lw_add 145 = .ok (.iload_n 1, 1) := by decide +kernel
theorem d_Lw_add_146 : decode bc_Lw_add 146 = .ok (.invokevirtual 35, 3) := by decide +kernel
theorem d_Lw_add_149 : decode bc_Lw_add 149 = .ok (.goto 96, 3) := by decide +kernel
theorem d_Lw_add_152 : decode bc_Lw_add 152 = .ok (.aload_n 0, 1) := by decide +kernel
theorem d_Lw_add_153 : decode bc_Lw_add 153 = .ok (.iconst 2, 1) := by decide +kernel
theorem d_Lw_add_154 : decode bc_Lw_add 154 = .ok (.invokevirtual 39, 3) := by decide +kernel
theorem d_Lw_add_157 : decode bc_Lw_add 157 = .ok (.aload_n 0, 1) := by decide +kernel
theorem d_Lw_add_158 : decode bc_Lw_add 158 = .ok (.iload_n 1, 1) := by decide +kernel
theorem d_Lw_add_159 : decode bc_Lw_add 159 = .ok (.invokevirtual 35, 3) := by decide +kernel
theorem d_Lw_add_162 : decode bc_Lw_add 162 = .ok (.goto 83, 3) := by decide +kernel
theorem d_Lw_add_165 : decode bc_Lw_add 165 = .ok (.aload_n 0, 1) := by decide +kernel
theorem d_Lw_add_166 : decode bc_Lw_add 166 = .ok (.iconst 1, 1) := by decide +kernel
theorem d_Lw_add_167 : decode bc_Lw_add 167 = .ok (.invokevirtual 39, 3) := by decide +kernel
theorem d_Lw_add_170 : decode bc_Lw_add 170 = .ok (.goto 75, 3) := by decide +kernel
theorem d_Lw_add_173 : decode bc_Lw_add 173 = .ok (.goto 72, 3) := by decide +kernel
theorem d_Lw_add_176 : decode bc_Lw_add 176 = .ok (.aload_n 0, 1) := by decide +kernel
theorem d_Lw_add_177 : decode bc_Lw_add 177 = .ok (.iconst 1, 1) := by decide +kernel
theorem d_Lw_add_178 : decode bc_Lw_add 178 = .ok (.invokevirtual 39, 3) := by decide +kernel
theorem d_Lw_add_181 : decode bc_Lw_add 181 = .ok (.aload_n 0, 1) := by decide +kernel
theorem d_Lw_add_182 : decode bc_Lw_add 182 = .ok (.aload_n 0, 1) := by decide +kernel
theorem d_Lw_add_183 : decode bc_Lw_add 183 = .ok (.getfield 18, 3) := by decide +kernel
theorem d_Lw_add_186 : decode bc_Lw_add 186 = .ok (.putfield 25, 3) := by decide +kernel
theorem d_Lw_add_189 : decode bc_Lw_add 189 = .ok (.aload_n 0, 1) := by decide +kernel
theorem d_Lw_add_190 : decode bc_Lw_add 190 = .ok (.iconst 2, 1) := by decide +kernel
theorem d_Lw_add_191 : decode bc_Lw_add 191 = .ok (.iconst 0, 1) := by decide +kernel
theorem d_Lw_add_192 : decode bc_Lw_add 192 = .ok (.invokevirtual 31, 3) := by decide +kernel
theorem d_Lw_add_195 : decode bc_Lw_add 195 = .ok (.goto 50, 3) := by decide +kernel
theorem d_Lw_add_198 : decode bc_Lw_add 198 = .ok (.aload_n 0, 1) := by decide +kernel
theorem d_Lw_add_199 : decode bc_Lw_add 199 = .ok (.invokevirtual 48, 3) := by decide +kernel
theorem d_Lw_add_202 : decode bc_Lw_add 202 = .ok (.aload_n 0, 1) := by decide +kernel
theorem d_Lw_add_203 : decode bc_Lw_add 203 = .ok (.getfield 25, 3) := by decide +kernel
theorem d_Lw_add_206 : decode bc_Lw_add 206 = .ok (.aload_n 0, 1) := by decide +kernel
theorem d_Lw_add_207 : decode bc_Lw_add 207 = .ok (.getfield 9, 3) := by decide +kernel
theorem d_Lw_add_210 : decode bc_Lw_add 210 = .ok (.arraylength, 1) := by decide +kernel
theorem d_Lw_add_211 : decode bc_Lw_add 211 = .ok (.if_icmp .ge 34, 3) := by decide +kernel
theorem d_Lw_add_214 : decode bc_Lw_add 214 = .ok (.aload_n 0, 1) := by decide +kernel
theorem d_Lw_add_215 : decode bc_Lw_add 215 = .ok (.getfield 9, 3) := by decide +kernel
theorem d_Lw_add_218 : decode bc_Lw_add 218 = .ok (.aload_n 0, 1) := by decide +kernel
theorem d_Lw_add_219 : decode bc_Lw_add 219 = .ok (.getfield 25, 3) := by decide +kernel
theorem d_Lw_add_222 : decode bc_Lw_add 222 = .ok (.iconst 2, 1) := by decide +kernel
theorem d_Lw_add_223 : decode bc_Lw_add 223 = .ok (.aload_n 0, 1) := by decide +kernel
theorem d_Lw_add_224 : decode bc_Lw_add 224 = .ok (.getfield 18, 3) := by decide +kernel
theorem d_Lw_add_227 : decode bc_Lw_add 227 = .ok (.bipush 8, 2) := by decide +kernel
theorem d_Lw_add_229 : decode bc_Lw_add 229 = .ok (.ishl, 1) := by decide +kernel
theorem d_Lw_add_230 : decode bc_Lw_add 230 = .ok (.ior, 1) := by decide +kernel
theorem d_Lw_add_231 : decode bc_Lw_add 231 = .ok (.iastore, 1) := by decide +kernel
theorem d_Lw_add_232 : decode bc_Lw_add 232 = .ok (.goto 13, 3) := by decide +kernel
theorem d_Lw_add_235 : decode bc_Lw_add 235 = .ok (.aload_n 0, 1) := by decide +kernel
theorem d_Lw_add_236 : decode bc_Lw_add 236 = .ok (.iconst 1, 1) := by decide +kernel
theorem d_Lw_add_237 : decode bc_Lw_add 237 = .ok (.iload_n 1, 1) := by decide +kernel
theorem d_Lw_add_238 : decode bc_Lw_add 238 = .ok (.sipush 142, 3) := by decide +kernel
theorem d_Lw_add_241 : decode bc_Lw_add 241 = .ok (.isub, 1) := by decide +kernel
theorem d_Lw_add_242 : decode bc_Lw_add 242 = .ok (.invokevirtual 31, 3) := by decide +kernel
theorem d_Lw_add_245 : decode bc_Lw_add 245 = .ok (.return_, 1) := by decide +kernel
set_option maxRecDepth 20000 in
theorem w_Lw_add_b0 {X : CX} {V : WV} {lw : Nat} (hV : IsC V) (hlw : isLw lw) {z : Mem} (hC : Ck X V bc_Lw_add 3 "SecretWells$Law" none 3 63) (x1 : Int32) (x2 : Int32) (S : Mem) (h : f_Lw_add_b0 lw x1 x2 S = some z) : G X V 3 (QV X V z) 0 [some (.ref (V.2.2.1 lw 0)), some (.int x1), some (.int x2)] [] S := by
  unfold f_Lw_add_b0 at h
  refine g_iload_n (pc := 0) hC (i := 1) (x := x1) rfl rfl d_Lw_add_0 ?_
  by_cases hs1_40 : x1 = 40
  · rw [if_pos hs1_40] at h
    refine g_look (pc := 1) hC (tgt := 109) d_Lw_add_1 (by decide) (by rw [hs1_40]; decide) ?_
    refine g_aload_n (pc := 109) hC (i := 0) (x := (V.2.2.1 lw 0)) rfl rfl d_Lw_add_109 ?_
    refine g_iload_n (pc := 110) hC (i := 1) (x := x1) rfl rfl d_Lw_add_110 ?_
    obtain ⟨q111, hq111, h⟩ := Option.bind_eq_some_iff.mp h
    refine g_vv (pc := 111) hC (As := [.int x1]) (st := []) mt_Lw_await lk_Lw_35 rfl (ob_Lw hV hlw) (Nat.le_of_ble_eq_true rfl) ⟨Nat.le_of_ble_eq_true rfl, Nat.le_of_ble_eq_true rfl⟩ rfl d_Lw_add_111 (c_Lw_await hV hlw hq111) ?_
    refine g_goto (pc := 114) hC (tgt := 245) (by decide) d_Lw_add_114 ?_
    exact g_vW (pc := 245) hC d_Lw_add_245 h
  rw [if_neg hs1_40] at h
  by_cases hs1_41 : x1 = 41
  · rw [if_pos hs1_41] at h
    refine g_look (pc := 1) hC (tgt := 117) d_Lw_add_1 (by decide) (by rw [hs1_41]; decide) ?_
    refine g_aload_n (pc := 117) hC (i := 0) (x := (V.2.2.1 lw 0)) rfl rfl d_Lw_add_117 ?_
    refine g_iconst (pc := 118) hC kc_1 d_Lw_add_118 ?_
    obtain ⟨q119, hq119, h⟩ := Option.bind_eq_some_iff.mp h
    refine g_vv (pc := 119) hC (As := [.int 1]) (st := []) mt_Lw_putWaiting lk_Lw_39 rfl (ob_Lw hV hlw) (Nat.le_of_ble_eq_true rfl) ⟨Nat.le_of_ble_eq_true rfl, Nat.le_of_ble_eq_true rfl⟩ rfl d_Lw_add_119 (c_Lw_putWaiting hV hlw hq119) ?_
    refine g_aload_n (pc := 122) hC (i := 0) (x := (V.2.2.1 lw 0)) rfl rfl d_Lw_add_122 ?_
    refine g_iconst (pc := 123) hC kc_0 d_Lw_add_123 ?_
    refine g_aload_n (pc := 124) hC (i := 0) (x := (V.2.2.1 lw 0)) rfl rfl d_Lw_add_124 ?_
    refine g_getI (pc := 125) hC fo_Lw_22 (ob_Lw hV hlw) rfl d_Lw_add_125 ?_
    refine g_iconst (pc := 128) hC kc_1 d_Lw_add_128 ?_
    refine g_isub (pc := 129) hC d_Lw_add_129 ?_
    refine g_mmax (pc := 130) hC lk_Lw_42 (Nat.le_of_ble_eq_true rfl) ⟨Nat.le_of_ble_eq_true rfl, Nat.le_of_ble_eq_true rfl⟩ d_Lw_add_130 ?_
    refine g_putI (pc := 133) hC po_Lw_22 (ob_Lw hV hlw) rfl rfl rfl d_Lw_add_133 ?_
    refine g_letS h (fun S133 h => ?_)
    refine g_goto (pc := 136) hC (tgt := 245) (by decide) d_Lw_add_136 ?_
    exact g_vW (pc := 245) hC d_Lw_add_245 h
  rw [if_neg hs1_41] at h
  by_cases hs1_42 : x1 = 42
  · rw [if_pos hs1_42] at h
    refine g_look (pc := 1) hC (tgt := 152) d_Lw_add_1 (by decide) (by rw [hs1_42]; decide) ?_
    refine g_aload_n (pc := 152) hC (i := 0) (x := (V.2.2.1 lw 0)) rfl rfl d_Lw_add_152 ?_
    refine g_iconst (pc := 153) hC kc_2 d_Lw_add_153 ?_
    obtain ⟨q154, hq154, h⟩ := Option.bind_eq_some_iff.mp h
    refine g_vv (pc := 154) hC (As := [.int 2]) (st := []) mt_Lw_putWaiting lk_Lw_39 rfl (ob_Lw hV hlw) (Nat.le_of_ble_eq_true rfl) ⟨Nat.le_of_ble_eq_true rfl, Nat.le_of_ble_eq_true rfl⟩ rfl d_Lw_add_154 (c_Lw_putWaiting hV hlw hq154) ?_
    refine g_aload_n (pc := 157) hC (i := 0) (x := (V.2.2.1 lw 0)) rfl rfl d_Lw_add_157 ?_
    refine g_iload_n (pc := 158) hC (i := 1) (x := x1) rfl rfl d_Lw_add_158 ?_
    obtain ⟨q159, hq159, h⟩ := Option.bind_eq_some_iff.mp h
    refine g_vv (pc := 159) hC (As := [.int x1]) (st := []) mt_Lw_await lk_Lw_35 rfl (ob_Lw hV hlw) (Nat.le_of_ble_eq_true rfl) ⟨Nat.le_of_ble_eq_true rfl, Nat.le_of_ble_eq_true rfl⟩ rfl d_Lw_add_159 (c_Lw_await hV hlw hq159) ?_
    refine g_goto (pc := 162) hC (tgt := 245) (by decide) d_Lw_add_162 ?_
    exact g_vW (pc := 245) hC d_Lw_add_245 h
  rw [if_neg hs1_42] at h
  by_cases hs1_43 : x1 = 43
  · rw [if_pos hs1_43] at h
    refine g_look (pc := 1) hC (tgt := 139) d_Lw_add_1 (by decide) (by rw [hs1_43]; decide) ?_
    refine g_aload_n (pc := 139) hC (i := 0) (x := (V.2.2.1 lw 0)) rfl rfl d_Lw_add_139 ?_
    refine g_iconst (pc := 140) hC kc_1 d_Lw_add_140 ?_
    obtain ⟨q141, hq141, h⟩ := Option.bind_eq_some_iff.mp h
    refine g_vv (pc := 141) hC (As := [.int 1]) (st := []) mt_Lw_putWaiting lk_Lw_39 rfl (ob_Lw hV hlw) (Nat.le_of_ble_eq_true rfl) ⟨Nat.le_of_ble_eq_true rfl, Nat.le_of_ble_eq_true rfl⟩ rfl d_Lw_add_141 (c_Lw_putWaiting hV hlw hq141) ?_
    refine g_aload_n (pc := 144) hC (i := 0) (x := (V.2.2.1 lw 0)) rfl rfl d_Lw_add_144 ?_
    refine g_iload_n (pc := 145) hC (i := 1) (x := x1) rfl rfl d_Lw_add_145 ?_
    obtain ⟨q146, hq146, h⟩ := Option.bind_eq_some_iff.mp h
    refine g_vv (pc := 146) hC (As := [.int x1]) (st := []) mt_Lw_await lk_Lw_35 rfl (ob_Lw hV hlw) (Nat.le_of_ble_eq_true rfl) ⟨Nat.le_of_ble_eq_true rfl, Nat.le_of_ble_eq_true rfl⟩ rfl d_Lw_add_146 (c_Lw_await hV hlw hq146) ?_
    refine g_goto (pc := 149) hC (tgt := 245) (by decide) d_Lw_add_149 ?_
    exact g_vW (pc := 245) hC d_Lw_add_245 h
  rw [if_neg hs1_43] at h
  by_cases hs1_45 : x1 = 45
  · rw [if_pos hs1_45] at h
    refine g_look (pc := 1) hC (tgt := 139) d_Lw_add_1 (by decide) (by rw [hs1_45]; decide) ?_
    refine g_aload_n (pc := 139) hC (i := 0) (x := (V.2.2.1 lw 0)) rfl rfl d_Lw_add_139 ?_
    refine g_iconst (pc := 140) hC kc_1 d_Lw_add_140 ?_
    obtain ⟨q141, hq141, h⟩ := Option.bind_eq_some_iff.mp h
    refine g_vv (pc := 141) hC (As := [.int 1]) (st := []) mt_Lw_putWaiting lk_Lw_39 rfl (ob_Lw hV hlw) (Nat.le_of_ble_eq_true rfl) ⟨Nat.le_of_ble_eq_true rfl, Nat.le_of_ble_eq_true rfl⟩ rfl d_Lw_add_141 (c_Lw_putWaiting hV hlw hq141) ?_
    refine g_aload_n (pc := 144) hC (i := 0) (x := (V.2.2.1 lw 0)) rfl rfl d_Lw_add_144 ?_
    refine g_iload_n (pc := 145) hC (i := 1) (x := x1) rfl rfl d_Lw_add_145 ?_
    obtain ⟨q146, hq146, h⟩ := Option.bind_eq_some_iff.mp h
    refine g_vv (pc := 146) hC (As := [.int x1]) (st := []) mt_Lw_await lk_Lw_35 rfl (ob_Lw hV hlw) (Nat.le_of_ble_eq_true rfl) ⟨Nat.le_of_ble_eq_true rfl, Nat.le_of_ble_eq_true rfl⟩ rfl d_Lw_add_146 (c_Lw_await hV hlw hq146) ?_
    refine g_goto (pc := 149) hC (tgt := 245) (by decide) d_Lw_add_149 ?_
    exact g_vW (pc := 245) hC d_Lw_add_245 h
  rw [if_neg hs1_45] at h
  by_cases hs1_47 : x1 = 47
  · rw [if_pos hs1_47] at h
    refine g_look (pc := 1) hC (tgt := 152) d_Lw_add_1 (by decide) (by rw [hs1_47]; decide) ?_
    refine g_aload_n (pc := 152) hC (i := 0) (x := (V.2.2.1 lw 0)) rfl rfl d_Lw_add_152 ?_
    refine g_iconst (pc := 153) hC kc_2 d_Lw_add_153 ?_
    obtain ⟨q154, hq154, h⟩ := Option.bind_eq_some_iff.mp h
    refine g_vv (pc := 154) hC (As := [.int 2]) (st := []) mt_Lw_putWaiting lk_Lw_39 rfl (ob_Lw hV hlw) (Nat.le_of_ble_eq_true rfl) ⟨Nat.le_of_ble_eq_true rfl, Nat.le_of_ble_eq_true rfl⟩ rfl d_Lw_add_154 (c_Lw_putWaiting hV hlw hq154) ?_
    refine g_aload_n (pc := 157) hC (i := 0) (x := (V.2.2.1 lw 0)) rfl rfl d_Lw_add_157 ?_
    refine g_iload_n (pc := 158) hC (i := 1) (x := x1) rfl rfl d_Lw_add_158 ?_
    obtain ⟨q159, hq159, h⟩ := Option.bind_eq_some_iff.mp h
    refine g_vv (pc := 159) hC (As := [.int x1]) (st := []) mt_Lw_await lk_Lw_35 rfl (ob_Lw hV hlw) (Nat.le_of_ble_eq_true rfl) ⟨Nat.le_of_ble_eq_true rfl, Nat.le_of_ble_eq_true rfl⟩ rfl d_Lw_add_159 (c_Lw_await hV hlw hq159) ?_
    refine g_goto (pc := 162) hC (tgt := 245) (by decide) d_Lw_add_162 ?_
    exact g_vW (pc := 245) hC d_Lw_add_245 h
  rw [if_neg hs1_47] at h
  by_cases hs1_48 : x1 = 48
  · rw [if_pos hs1_48] at h
    refine g_look (pc := 1) hC (tgt := 100) d_Lw_add_1 (by decide) (by rw [hs1_48]; decide) ?_
    refine g_aload_n (pc := 100) hC (i := 0) (x := (V.2.2.1 lw 0)) rfl rfl d_Lw_add_100 ?_
    refine g_iconst (pc := 101) hC kc_0 d_Lw_add_101 ?_
    refine g_iload_n (pc := 102) hC (i := 2) (x := x2) rfl rfl d_Lw_add_102 ?_
    obtain ⟨q103, hq103, h⟩ := Option.bind_eq_some_iff.mp h
    refine g_vv (pc := 103) hC (As := [.int 0, .int x2]) (st := []) mt_Lw_put lk_Lw_31 rfl (ob_Lw hV hlw) (Nat.le_of_ble_eq_true rfl) ⟨Nat.le_of_ble_eq_true rfl, Nat.le_of_ble_eq_true rfl⟩ rfl d_Lw_add_103 (c_Lw_put hV hlw hq103) ?_
    refine g_goto (pc := 106) hC (tgt := 245) (by decide) d_Lw_add_106 ?_
    exact g_vW (pc := 245) hC d_Lw_add_245 h
  rw [if_neg hs1_48] at h
  by_cases hs1_60 : x1 = 60
  · rw [if_pos hs1_60] at h
    refine g_look (pc := 1) hC (tgt := 165) d_Lw_add_1 (by decide) (by rw [hs1_60]; decide) ?_
    refine g_aload_n (pc := 165) hC (i := 0) (x := (V.2.2.1 lw 0)) rfl rfl d_Lw_add_165 ?_
    refine g_iconst (pc := 166) hC kc_1 d_Lw_add_166 ?_
    obtain ⟨q167, hq167, h⟩ := Option.bind_eq_some_iff.mp h
    refine g_vv (pc := 167) hC (As := [.int 1]) (st := []) mt_Lw_putWaiting lk_Lw_39 rfl (ob_Lw hV hlw) (Nat.le_of_ble_eq_true rfl) ⟨Nat.le_of_ble_eq_true rfl, Nat.le_of_ble_eq_true rfl⟩ rfl d_Lw_add_167 (c_Lw_putWaiting hV hlw hq167) ?_
    refine g_goto (pc := 170) hC (tgt := 245) (by decide) d_Lw_add_170 ?_
    exact g_vW (pc := 245) hC d_Lw_add_245 h
  rw [if_neg hs1_60] at h
  by_cases hs1_139 : x1 = 139
  · rw [if_pos hs1_139] at h
    refine g_look (pc := 1) hC (tgt := 173) d_Lw_add_1 (by decide) (by rw [hs1_139]; decide) ?_
    refine g_goto (pc := 173) hC (tgt := 245) (by decide) d_Lw_add_173 ?_
    exact g_vW (pc := 245) hC d_Lw_add_245 h
  rw [if_neg hs1_139] at h
  by_cases hs1_140 : x1 = 140
  · rw [if_pos hs1_140] at h
    refine g_look (pc := 1) hC (tgt := 176) d_Lw_add_1 (by decide) (by rw [hs1_140]; decide) ?_
    refine g_aload_n (pc := 176) hC (i := 0) (x := (V.2.2.1 lw 0)) rfl rfl d_Lw_add_176 ?_
    refine g_iconst (pc := 177) hC kc_1 d_Lw_add_177 ?_
    obtain ⟨q178, hq178, h⟩ := Option.bind_eq_some_iff.mp h
    refine g_vv (pc := 178) hC (As := [.int 1]) (st := []) mt_Lw_putWaiting lk_Lw_39 rfl (ob_Lw hV hlw) (Nat.le_of_ble_eq_true rfl) ⟨Nat.le_of_ble_eq_true rfl, Nat.le_of_ble_eq_true rfl⟩ rfl d_Lw_add_178 (c_Lw_putWaiting hV hlw hq178) ?_
    refine g_aload_n (pc := 181) hC (i := 0) (x := (V.2.2.1 lw 0)) rfl rfl d_Lw_add_181 ?_
    refine g_aload_n (pc := 182) hC (i := 0) (x := (V.2.2.1 lw 0)) rfl rfl d_Lw_add_182 ?_
    refine g_getI (pc := 183) hC fo_Lw_18 (ob_Lw hV hlw) rfl d_Lw_add_183 ?_
    refine g_putI (pc := 186) hC po_Lw_25 (ob_Lw hV hlw) rfl rfl rfl d_Lw_add_186 ?_
    refine g_letS h (fun S186 h => ?_)
    refine g_aload_n (pc := 189) hC (i := 0) (x := (V.2.2.1 lw 0)) rfl rfl d_Lw_add_189 ?_
    refine g_iconst (pc := 190) hC kc_2 d_Lw_add_190 ?_
    refine g_iconst (pc := 191) hC kc_0 d_Lw_add_191 ?_
    obtain ⟨q192, hq192, h⟩ := Option.bind_eq_some_iff.mp h
    refine g_vv (pc := 192) hC (As := [.int 2, .int 0]) (st := []) mt_Lw_put lk_Lw_31 rfl (ob_Lw hV hlw) (Nat.le_of_ble_eq_true rfl) ⟨Nat.le_of_ble_eq_true rfl, Nat.le_of_ble_eq_true rfl⟩ rfl d_Lw_add_192 (c_Lw_put hV hlw hq192) ?_
    refine g_goto (pc := 195) hC (tgt := 245) (by decide) d_Lw_add_195 ?_
    exact g_vW (pc := 245) hC d_Lw_add_245 h
  rw [if_neg hs1_140] at h
  by_cases hs1_141 : x1 = 141
  · rw [if_pos hs1_141] at h
    refine g_look (pc := 1) hC (tgt := 198) d_Lw_add_1 (by decide) (by rw [hs1_141]; decide) ?_
    refine g_aload_n (pc := 198) hC (i := 0) (x := (V.2.2.1 lw 0)) rfl rfl d_Lw_add_198 ?_
    obtain ⟨q199, hq199, h⟩ := Option.bind_eq_some_iff.mp h
    refine g_vv (pc := 199) hC (As := []) (st := []) mt_Lw_finish lk_Lw_48 rfl (ob_Lw hV hlw) (Nat.le_of_ble_eq_true rfl) ⟨Nat.le_of_ble_eq_true rfl, Nat.le_of_ble_eq_true rfl⟩ rfl d_Lw_add_199 (c_Lw_finish hV hlw hq199) ?_
    refine g_aload_n (pc := 202) hC (i := 0) (x := (V.2.2.1 lw 0)) rfl rfl d_Lw_add_202 ?_
    refine g_getI (pc := 203) hC fo_Lw_25 (ob_Lw hV hlw) rfl d_Lw_add_203 ?_
    refine g_aload_n (pc := 206) hC (i := 0) (x := (V.2.2.1 lw 0)) rfl rfl d_Lw_add_206 ?_
    refine g_getA (pc := 207) hC fo_Lw_9 (ob_Lw hV hlw) rfl d_Lw_add_207 ?_
    refine g_alen (pc := 210) hC (by decide) (ar_Lw_0 hV hlw) rfl d_Lw_add_210 ?_
    refine g_icmp_ge (pc := 211) hC (tgt := 245) (by decide) d_Lw_add_211 h (fun h => ?_) (fun h => ?_)
    · exact g_vW (pc := 245) hC d_Lw_add_245 h
    · refine g_aload_n (pc := 214) hC (i := 0) (x := (V.2.2.1 lw 0)) rfl rfl d_Lw_add_214 ?_
      refine g_getA (pc := 215) hC fo_Lw_9 (ob_Lw hV hlw) rfl d_Lw_add_215 ?_
      refine g_aload_n (pc := 218) hC (i := 0) (x := (V.2.2.1 lw 0)) rfl rfl d_Lw_add_218 ?_
      refine g_getI (pc := 219) hC fo_Lw_25 (ob_Lw hV hlw) rfl d_Lw_add_219 ?_
      refine g_iconst (pc := 222) hC kc_2 d_Lw_add_222 ?_
      refine g_aload_n (pc := 223) hC (i := 0) (x := (V.2.2.1 lw 0)) rfl rfl d_Lw_add_223 ?_
      refine g_getI (pc := 224) hC fo_Lw_18 (ob_Lw hV hlw) rfl d_Lw_add_224 ?_
      refine g_bipush (pc := 227) hC kb_8 d_Lw_add_227 ?_
      refine g_ishl (pc := 229) hC d_Lw_add_229 ?_
      refine g_ior (pc := 230) hC d_Lw_add_230 ?_
      refine g_iast (pc := 231) hC (ar_Lw_0 hV hlw) d_Lw_add_231 h (fun h => ?_)
      refine g_letS h (fun S231 h => ?_)
      refine g_goto (pc := 232) hC (tgt := 245) (by decide) d_Lw_add_232 ?_
      exact g_vW (pc := 245) hC d_Lw_add_245 h
  rw [if_neg hs1_141] at h
  refine g_look (pc := 1) hC (tgt := 235) d_Lw_add_1 (by decide) (lk_else [(40 : Int32), (41 : Int32), (42 : Int32), (43 : Int32), (45 : Int32), (47 : Int32), (48 : Int32), (60 : Int32), (139 : Int32), (140 : Int32), (141 : Int32)] (by intro v hv; simp only [List.mem_cons, List.not_mem_nil, or_false] at hv; rcases hv with rfl | rfl | rfl | rfl | rfl | rfl | rfl | rfl | rfl | rfl | rfl <;> assumption) (by decide) (by decide)) ?_
  refine g_aload_n (pc := 235) hC (i := 0) (x := (V.2.2.1 lw 0)) rfl rfl d_Lw_add_235 ?_
  refine g_iconst (pc := 236) hC kc_1 d_Lw_add_236 ?_
  refine g_iload_n (pc := 237) hC (i := 1) (x := x1) rfl rfl d_Lw_add_237 ?_
  refine g_sipush (pc := 238) hC ks_142 d_Lw_add_238 ?_
  refine g_isub (pc := 241) hC d_Lw_add_241 ?_
  obtain ⟨q242, hq242, h⟩ := Option.bind_eq_some_iff.mp h
  refine g_vv (pc := 242) hC (As := [.int 1, .int (x1 - 142)]) (st := []) mt_Lw_put lk_Lw_31 rfl (ob_Lw hV hlw) (Nat.le_of_ble_eq_true rfl) ⟨Nat.le_of_ble_eq_true rfl, Nat.le_of_ble_eq_true rfl⟩ rfl d_Lw_add_242 (c_Lw_put hV hlw hq242) ?_
  exact g_vW (pc := 245) hC d_Lw_add_245 h
theorem c_Lw_add {V : WV} {l : Launch} (hV : IsC V) {lw : Nat} (hlw : isLw lw) {x1 : Int32} {x2 : Int32} {S : Mem} {z : Mem} (h : f_Lw_add lw x1 x2 S = some z) : CV V l y_Lw_add bc_Lw_add 3 none 3 63 [.ref (V.2.2.1 lw 0), .int x1, .int x2] S z :=
  ct_v rfl (IsC.ok hV) (Nat.le_of_ble_eq_true rfl) (fun _ _ hC => w_Lw_add_b0 hV hlw hC x1 x2 S h)
def f_Tx_clear_b0 (tx : Nat) (S : Mem) : Option (Mem) :=
  letS (pI S tx 0 0) (fun S2 =>
  letS (pI S2 tx 1 0) (fun S7 =>
  letS (pI S7 tx 2 0) (fun S12 =>
  letS (pI S12 tx 3 0) (fun S17 =>
  letS (pI S17 tx 4 0) (fun S22 =>
  letS (pI S22 tx 5 9) (fun S28 =>
  letS (pI S28 tx 6 10) (fun S34 =>
  letS (pI S34 tx 7 0) (fun S39 =>
  Option.bind (f_JArr_fill tx 12 7 0 S39) (fun q47 =>
  Option.bind (f_Lw_be (tx + 1) 10 q47) (fun q56 =>
  Option.bind (f_Lw_be (tx + 2) 0 q56) (fun q64 =>
  Option.bind (f_Lw_begin (tx + 3) q64) (fun q71 =>
  some q71))))))))))))
def f_Tx_clear (tx : Nat) (S : Mem) : Option (Mem) := f_Tx_clear_b0 tx S
theorem d_Tx_clear_0 : decode bc_Tx_clear 0 = .ok (.aload_n 0, 1) := by decide +kernel
theorem d_Tx_clear_1 : decode bc_Tx_clear 1 = .ok (.iconst 0, 1) := by decide +kernel
theorem d_Tx_clear_2 : decode bc_Tx_clear 2 = .ok (.putfield 9, 3) := by decide +kernel
theorem d_Tx_clear_5 : decode bc_Tx_clear 5 = .ok (.aload_n 0, 1) := by decide +kernel
theorem d_Tx_clear_6 : decode bc_Tx_clear 6 = .ok (.iconst 0, 1) := by decide +kernel
theorem d_Tx_clear_7 : decode bc_Tx_clear 7 = .ok (.putfield 15, 3) := by decide +kernel
theorem d_Tx_clear_10 : decode bc_Tx_clear 10 = .ok (.aload_n 0, 1) := by decide +kernel
theorem d_Tx_clear_11 : decode bc_Tx_clear 11 = .ok (.iconst 0, 1) := by decide +kernel
theorem d_Tx_clear_12 : decode bc_Tx_clear 12 = .ok (.putfield 18, 3) := by decide +kernel
theorem d_Tx_clear_15 : decode bc_Tx_clear 15 = .ok (.aload_n 0, 1) := by decide +kernel
theorem d_Tx_clear_16 : decode bc_Tx_clear 16 = .ok (.iconst 0, 1) := by decide +kernel
theorem d_Tx_clear_17 : decode bc_Tx_clear 17 = .ok (.putfield 21, 3) := by decide +kernel
theorem d_Tx_clear_20 : decode bc_Tx_clear 20 = .ok (.aload_n 0, 1) := by decide +kernel
theorem d_Tx_clear_21 : decode bc_Tx_clear 21 = .ok (.iconst 0, 1) := by decide +kernel
theorem d_Tx_clear_22 : decode bc_Tx_clear 22 = .ok (.putfield 24, 3) := by decide +kernel
theorem d_Tx_clear_25 : decode bc_Tx_clear 25 = .ok (.aload_n 0, 1) := by decide +kernel
theorem d_Tx_clear_26 : decode bc_Tx_clear 26 = .ok (.bipush 9, 2) := by decide +kernel
theorem d_Tx_clear_28 : decode bc_Tx_clear 28 = .ok (.putfield 27, 3) := by decide +kernel
theorem d_Tx_clear_31 : decode bc_Tx_clear 31 = .ok (.aload_n 0, 1) := by decide +kernel
theorem d_Tx_clear_32 : decode bc_Tx_clear 32 = .ok (.bipush 10, 2) := by decide +kernel
theorem d_Tx_clear_34 : decode bc_Tx_clear 34 = .ok (.putfield 30, 3) := by decide +kernel
theorem d_Tx_clear_37 : decode bc_Tx_clear 37 = .ok (.aload_n 0, 1) := by decide +kernel
theorem d_Tx_clear_38 : decode bc_Tx_clear 38 = .ok (.iconst 0, 1) := by decide +kernel
theorem d_Tx_clear_39 : decode bc_Tx_clear 39 = .ok (.putfield 33, 3) := by decide +kernel
theorem d_Tx_clear_42 : decode bc_Tx_clear 42 = .ok (.aload_n 0, 1) := by decide +kernel
theorem d_Tx_clear_43 : decode bc_Tx_clear 43 = .ok (.getfield 49, 3) := by decide +kernel
theorem d_Tx_clear_46 : decode bc_Tx_clear 46 = .ok (.iconst 0, 1) := by decide +kernel
theorem d_Tx_clear_47 : decode bc_Tx_clear 47 = .ok (.invokestatic 77, 3) := by decide +kernel
theorem d_Tx_clear_50 : decode bc_Tx_clear 50 = .ok (.aload_n 0, 1) := by decide +kernel
theorem d_Tx_clear_51 : decode bc_Tx_clear 51 = .ok (.getfield 67, 3) := by decide +kernel
theorem d_Tx_clear_54 : decode bc_Tx_clear 54 = .ok (.bipush 10, 2) := by decide +kernel
theorem d_Tx_clear_56 : decode bc_Tx_clear 56 = .ok (.invokevirtual 83, 3) := by decide +kernel
theorem d_Tx_clear_59 : decode bc_Tx_clear 59 = .ok (.aload_n 0, 1) := by decide +kernel
theorem d_Tx_clear_60 : decode bc_Tx_clear 60 = .ok (.getfield 71, 3) := by decide +kernel
theorem d_Tx_clear_63 : decode bc_Tx_clear 63 = .ok (.iconst 0, 1) := by decide +kernel
theorem d_Tx_clear_64 : decode bc_Tx_clear 64 = .ok (.invokevirtual 83, 3) := by decide +kernel
theorem d_Tx_clear_67 : decode bc_Tx_clear 67 = .ok (.aload_n 0, 1) := by decide +kernel
theorem d_Tx_clear_68 : decode bc_Tx_clear 68 = .ok (.getfield 74, 3) := by decide +kernel
theorem d_Tx_clear_71 : decode bc_Tx_clear 71 = .ok (.invokevirtual 87, 3) := by decide +kernel
theorem d_Tx_clear_74 : decode bc_Tx_clear 74 = .ok (.return_, 1) := by decide +kernel
set_option maxRecDepth 20000 in
theorem w_Tx_clear_b0 {X : CX} {V : WV} {tx : Nat} (hV : IsC V) (htx : isTx tx) {z : Mem} (hC : Ck X V bc_Tx_clear 1 "SecretWells$Text" none 2 43) (S : Mem) (h : f_Tx_clear_b0 tx S = some z) : G X V 1 (QV X V z) 0 [some (.ref (V.2.2.1 tx 0))] [] S := by
  unfold f_Tx_clear_b0 at h
  refine g_aload_n (pc := 0) hC (i := 0) (x := (V.2.2.1 tx 0)) rfl rfl d_Tx_clear_0 ?_
  refine g_iconst (pc := 1) hC kc_0 d_Tx_clear_1 ?_
  refine g_putI (pc := 2) hC po_Tx_9 (ob_Tx hV htx) rfl rfl rfl d_Tx_clear_2 ?_
  refine g_letS h (fun S2 h => ?_)
  refine g_aload_n (pc := 5) hC (i := 0) (x := (V.2.2.1 tx 0)) rfl rfl d_Tx_clear_5 ?_
  refine g_iconst (pc := 6) hC kc_0 d_Tx_clear_6 ?_
  refine g_putI (pc := 7) hC po_Tx_15 (ob_Tx hV htx) rfl rfl rfl d_Tx_clear_7 ?_
  refine g_letS h (fun S7 h => ?_)
  refine g_aload_n (pc := 10) hC (i := 0) (x := (V.2.2.1 tx 0)) rfl rfl d_Tx_clear_10 ?_
  refine g_iconst (pc := 11) hC kc_0 d_Tx_clear_11 ?_
  refine g_putI (pc := 12) hC po_Tx_18 (ob_Tx hV htx) rfl rfl rfl d_Tx_clear_12 ?_
  refine g_letS h (fun S12 h => ?_)
  refine g_aload_n (pc := 15) hC (i := 0) (x := (V.2.2.1 tx 0)) rfl rfl d_Tx_clear_15 ?_
  refine g_iconst (pc := 16) hC kc_0 d_Tx_clear_16 ?_
  refine g_putI (pc := 17) hC po_Tx_21 (ob_Tx hV htx) rfl rfl rfl d_Tx_clear_17 ?_
  refine g_letS h (fun S17 h => ?_)
  refine g_aload_n (pc := 20) hC (i := 0) (x := (V.2.2.1 tx 0)) rfl rfl d_Tx_clear_20 ?_
  refine g_iconst (pc := 21) hC kc_0 d_Tx_clear_21 ?_
  refine g_putI (pc := 22) hC po_Tx_24 (ob_Tx hV htx) rfl rfl rfl d_Tx_clear_22 ?_
  refine g_letS h (fun S22 h => ?_)
  refine g_aload_n (pc := 25) hC (i := 0) (x := (V.2.2.1 tx 0)) rfl rfl d_Tx_clear_25 ?_
  refine g_bipush (pc := 26) hC kb_9 d_Tx_clear_26 ?_
  refine g_putI (pc := 28) hC po_Tx_27 (ob_Tx hV htx) rfl rfl rfl d_Tx_clear_28 ?_
  refine g_letS h (fun S28 h => ?_)
  refine g_aload_n (pc := 31) hC (i := 0) (x := (V.2.2.1 tx 0)) rfl rfl d_Tx_clear_31 ?_
  refine g_bipush (pc := 32) hC kb_10 d_Tx_clear_32 ?_
  refine g_putI (pc := 34) hC po_Tx_30 (ob_Tx hV htx) rfl rfl rfl d_Tx_clear_34 ?_
  refine g_letS h (fun S34 h => ?_)
  refine g_aload_n (pc := 37) hC (i := 0) (x := (V.2.2.1 tx 0)) rfl rfl d_Tx_clear_37 ?_
  refine g_iconst (pc := 38) hC kc_0 d_Tx_clear_38 ?_
  refine g_putI (pc := 39) hC po_Tx_33 (ob_Tx hV htx) rfl rfl rfl d_Tx_clear_39 ?_
  refine g_letS h (fun S39 h => ?_)
  refine g_aload_n (pc := 42) hC (i := 0) (x := (V.2.2.1 tx 0)) rfl rfl d_Tx_clear_42 ?_
  refine g_getA (pc := 43) hC fo_Tx_49 (ob_Tx hV htx) rfl d_Tx_clear_43 ?_
  refine g_iconst (pc := 46) hC kc_0 d_Tx_clear_46 ?_
  obtain ⟨q47, hq47, h⟩ := Option.bind_eq_some_iff.mp h
  refine g_sv (pc := 47) hC (As := [.ref (V.2.2.1 tx (12 + 1)), .int 0]) (st := []) mt_JArr_fill lk_Tx_77 (Nat.le_of_ble_eq_true rfl) ⟨Nat.le_of_ble_eq_true rfl, Nat.le_of_ble_eq_true rfl⟩ rfl d_Tx_clear_47 (c_JArr_fill (IsC.ok hV) (ar_Tx_12 hV htx) hq47) ?_
  refine g_aload_n (pc := 50) hC (i := 0) (x := (V.2.2.1 tx 0)) rfl rfl d_Tx_clear_50 ?_
  refine g_getC (pc := 51) hC (j := tx + 1) fo_Tx_67 (ob_Tx hV htx) rfl d_Tx_clear_51 ?_
  refine g_bipush (pc := 54) hC kb_10 d_Tx_clear_54 ?_
  obtain ⟨q56, hq56, h⟩ := Option.bind_eq_some_iff.mp h
  refine g_vv (pc := 56) hC (As := [.int 10]) (st := []) mt_Lw_be lk_Tx_83 rfl (ob_Lw hV (tx_1 htx)) (Nat.le_of_ble_eq_true rfl) ⟨Nat.le_of_ble_eq_true rfl, Nat.le_of_ble_eq_true rfl⟩ rfl d_Tx_clear_56 (c_Lw_be hV (tx_1 htx) hq56) ?_
  refine g_aload_n (pc := 59) hC (i := 0) (x := (V.2.2.1 tx 0)) rfl rfl d_Tx_clear_59 ?_
  refine g_getC (pc := 60) hC (j := tx + 2) fo_Tx_71 (ob_Tx hV htx) rfl d_Tx_clear_60 ?_
  refine g_iconst (pc := 63) hC kc_0 d_Tx_clear_63 ?_
  obtain ⟨q64, hq64, h⟩ := Option.bind_eq_some_iff.mp h
  refine g_vv (pc := 64) hC (As := [.int 0]) (st := []) mt_Lw_be lk_Tx_83 rfl (ob_Lw hV (tx_2 htx)) (Nat.le_of_ble_eq_true rfl) ⟨Nat.le_of_ble_eq_true rfl, Nat.le_of_ble_eq_true rfl⟩ rfl d_Tx_clear_64 (c_Lw_be hV (tx_2 htx) hq64) ?_
  refine g_aload_n (pc := 67) hC (i := 0) (x := (V.2.2.1 tx 0)) rfl rfl d_Tx_clear_67 ?_
  refine g_getC (pc := 68) hC (j := tx + 3) fo_Tx_74 (ob_Tx hV htx) rfl d_Tx_clear_68 ?_
  obtain ⟨q71, hq71, h⟩ := Option.bind_eq_some_iff.mp h
  refine g_vv (pc := 71) hC (As := []) (st := []) mt_Lw_begin lk_Tx_87 rfl (ob_Lw hV (tx_3 htx)) (Nat.le_of_ble_eq_true rfl) ⟨Nat.le_of_ble_eq_true rfl, Nat.le_of_ble_eq_true rfl⟩ rfl d_Tx_clear_71 (c_Lw_begin hV (tx_3 htx) hq71) ?_
  exact g_vW (pc := 74) hC d_Tx_clear_74 h
theorem c_Tx_clear {V : WV} {l : Launch} (hV : IsC V) {tx : Nat} (htx : isTx tx) {S : Mem} {z : Mem} (h : f_Tx_clear tx S = some z) : CV V l y_Tx_clear bc_Tx_clear 1 none 2 43 [.ref (V.2.2.1 tx 0)] S z :=
  ct_v rfl (IsC.ok hV) (Nat.le_of_ble_eq_true rfl) (fun _ _ hC => w_Tx_clear_b0 hV htx hC S h)
def f_Tp_kindAt_b0 (S : Mem) (x1 : Int32) : Option (Int32) :=
  if x1 < 0 then
    some 0
  else
    if 400 < x1 then
      some 0
    else
      gIn x1 401 (
      some (S.2.1 1 3 x1.toNatClampNeg))
def f_Tp_kindAt (x1 : Int32) (S : Mem) : Option (Int32) := f_Tp_kindAt_b0 S x1
theorem d_Tp_kindAt_0 : decode bc_Tp_kindAt 0 = .ok (.iload_n 1, 1) := by decide +kernel
theorem d_Tp_kindAt_1 : decode bc_Tp_kindAt 1 = .ok (.ifCond .lt 19, 3) := by decide +kernel
theorem d_Tp_kindAt_4 : decode bc_Tp_kindAt 4 = .ok (.iload_n 1, 1) := by decide +kernel
theorem d_Tp_kindAt_5 : decode bc_Tp_kindAt 5 = .ok (.sipush 400, 3) := by decide +kernel
theorem d_Tp_kindAt_8 : decode bc_Tp_kindAt 8 = .ok (.if_icmp .gt 12, 3) := by decide +kernel
theorem d_Tp_kindAt_11 : decode bc_Tp_kindAt 11 = .ok (.aload_n 0, 1) := by decide +kernel
theorem d_Tp_kindAt_12 : decode bc_Tp_kindAt 12 = .ok (.getfield 23, 3) := by decide +kernel
theorem d_Tp_kindAt_15 : decode bc_Tp_kindAt 15 = .ok (.iload_n 1, 1) := by decide +kernel
theorem d_Tp_kindAt_16 : decode bc_Tp_kindAt 16 = .ok (.iaload, 1) := by decide +kernel
theorem d_Tp_kindAt_17 : decode bc_Tp_kindAt 17 = .ok (.goto 4, 3) := by decide +kernel
theorem d_Tp_kindAt_20 : decode bc_Tp_kindAt 20 = .ok (.iconst 0, 1) := by decide +kernel
theorem d_Tp_kindAt_21 : decode bc_Tp_kindAt 21 = .ok (.ireturn, 1) := by decide +kernel
set_option maxRecDepth 20000 in
theorem w_Tp_kindAt_b0 {X : CX} {V : WV} (hV : IsC V) {S : Mem} {z : Int32} (hC : Ck X V bc_Tp_kindAt 2 "SecretWells$Tape" (some .int) 0 0) (x1 : Int32) (h : f_Tp_kindAt_b0 S x1 = some z) : G X V 2 (QI X V z S) 0 [some (.ref (V.2.2.1 1 0)), some (.int x1)] [] S := by
  unfold f_Tp_kindAt_b0 at h
  refine g_iload_n (pc := 0) hC (i := 1) (x := x1) rfl rfl d_Tp_kindAt_0 ?_
  refine g_if_lt (pc := 1) hC (tgt := 20) (by decide) d_Tp_kindAt_1 h (fun h => ?_) (fun h => ?_)
  · refine g_iconst (pc := 20) hC kc_0 d_Tp_kindAt_20 ?_
    exact g_iN (pc := 21) hC rfl d_Tp_kindAt_21 h
  · refine g_iload_n (pc := 4) hC (i := 1) (x := x1) rfl rfl d_Tp_kindAt_4 ?_
    refine g_sipush (pc := 5) hC ks_400 d_Tp_kindAt_5 ?_
    refine g_icmp_gt (pc := 8) hC (tgt := 20) (by decide) d_Tp_kindAt_8 h (fun h => ?_) (fun h => ?_)
    · refine g_iconst (pc := 20) hC kc_0 d_Tp_kindAt_20 ?_
      exact g_iN (pc := 21) hC rfl d_Tp_kindAt_21 h
    · refine g_aload_n (pc := 11) hC (i := 0) (x := (V.2.2.1 1 0)) rfl rfl d_Tp_kindAt_11 ?_
      refine g_getA (pc := 12) hC fo_Tp_23 (ob_Tp hV) rfl d_Tp_kindAt_12 ?_
      refine g_iload_n (pc := 15) hC (i := 1) (x := x1) rfl rfl d_Tp_kindAt_15 ?_
      refine g_iald (pc := 16) hC (ar_Tp_3 hV) d_Tp_kindAt_16 h (fun h => ?_)
      refine g_goto (pc := 17) hC (tgt := 21) (by decide) d_Tp_kindAt_17 ?_
      exact g_iN (pc := 21) hC rfl d_Tp_kindAt_21 h
theorem c_Tp_kindAt {V : WV} {l : Launch} (hV : IsC V) {x1 : Int32} {S : Mem} {z : Int32} (h : f_Tp_kindAt x1 S = some z) : CI V l y_Tp_kindAt bc_Tp_kindAt 2 (some .int) 0 0 [.ref (V.2.2.1 1 0), .int x1] S z S :=
  ct_i rfl (IsC.ok hV) (Nat.le_of_ble_eq_true rfl) (fun _ _ hC => w_Tp_kindAt_b0 hV hC x1 h)
def f_Tp_valueAt_b0 (S : Mem) (x1 : Int32) : Option (Int64) :=
  if x1 < 0 then
    some 0
  else
    if 400 < x1 then
      some 0
    else
      gIn x1 401 (
      some (S.2.2 1 5 x1.toNatClampNeg))
def f_Tp_valueAt (x1 : Int32) (S : Mem) : Option (Int64) := f_Tp_valueAt_b0 S x1
theorem d_Tp_valueAt_0 : decode bc_Tp_valueAt 0 = .ok (.iload_n 1, 1) := by decide +kernel
theorem d_Tp_valueAt_1 : decode bc_Tp_valueAt 1 = .ok (.ifCond .lt 19, 3) := by decide +kernel
theorem d_Tp_valueAt_4 : decode bc_Tp_valueAt 4 = .ok (.iload_n 1, 1) := by decide +kernel
theorem d_Tp_valueAt_5 : decode bc_Tp_valueAt 5 = .ok (.sipush 400, 3) := by decide +kernel
theorem d_Tp_valueAt_8 : decode bc_Tp_valueAt 8 = .ok (.if_icmp .gt 12, 3) := by decide +kernel
theorem d_Tp_valueAt_11 : decode bc_Tp_valueAt 11 = .ok (.aload_n 0, 1) := by decide +kernel
theorem d_Tp_valueAt_12 : decode bc_Tp_valueAt 12 = .ok (.getfield 30, 3) := by decide +kernel
theorem d_Tp_valueAt_15 : decode bc_Tp_valueAt 15 = .ok (.iload_n 1, 1) := by decide +kernel
theorem d_Tp_valueAt_16 : decode bc_Tp_valueAt 16 = .ok (.laload, 1) := by decide +kernel
theorem d_Tp_valueAt_17 : decode bc_Tp_valueAt 17 = .ok (.goto 4, 3) := by decide +kernel
theorem d_Tp_valueAt_20 : decode bc_Tp_valueAt 20 = .ok (.lconst 0, 1) := by decide +kernel
theorem d_Tp_valueAt_21 : decode bc_Tp_valueAt 21 = .ok (.lreturn, 1) := by decide +kernel
set_option maxRecDepth 20000 in
theorem w_Tp_valueAt_b0 {X : CX} {V : WV} (hV : IsC V) {S : Mem} {z : Int64} (hC : Ck X V bc_Tp_valueAt 2 "SecretWells$Tape" (some .long) 0 0) (x1 : Int32) (h : f_Tp_valueAt_b0 S x1 = some z) : G X V 2 (QL X V z S) 0 [some (.ref (V.2.2.1 1 0)), some (.int x1)] [] S := by
  unfold f_Tp_valueAt_b0 at h
  refine g_iload_n (pc := 0) hC (i := 1) (x := x1) rfl rfl d_Tp_valueAt_0 ?_
  refine g_if_lt (pc := 1) hC (tgt := 20) (by decide) d_Tp_valueAt_1 h (fun h => ?_) (fun h => ?_)
  · refine g_lconst (pc := 20) hC (v := 0) (by decide) d_Tp_valueAt_20 ?_
    exact g_lN (pc := 21) hC d_Tp_valueAt_21 h
  · refine g_iload_n (pc := 4) hC (i := 1) (x := x1) rfl rfl d_Tp_valueAt_4 ?_
    refine g_sipush (pc := 5) hC ks_400 d_Tp_valueAt_5 ?_
    refine g_icmp_gt (pc := 8) hC (tgt := 20) (by decide) d_Tp_valueAt_8 h (fun h => ?_) (fun h => ?_)
    · refine g_lconst (pc := 20) hC (v := 0) (by decide) d_Tp_valueAt_20 ?_
      exact g_lN (pc := 21) hC d_Tp_valueAt_21 h
    · refine g_aload_n (pc := 11) hC (i := 0) (x := (V.2.2.1 1 0)) rfl rfl d_Tp_valueAt_11 ?_
      refine g_getA (pc := 12) hC fo_Tp_30 (ob_Tp hV) rfl d_Tp_valueAt_12 ?_
      refine g_iload_n (pc := 15) hC (i := 1) (x := x1) rfl rfl d_Tp_valueAt_15 ?_
      refine g_lald (pc := 16) hC (ar_Tp_5 hV) d_Tp_valueAt_16 h (fun h => ?_)
      refine g_goto (pc := 17) hC (tgt := 21) (by decide) d_Tp_valueAt_17 ?_
      exact g_lN (pc := 21) hC d_Tp_valueAt_21 h
theorem c_Tp_valueAt {V : WV} {l : Launch} (hV : IsC V) {x1 : Int32} {S : Mem} {z : Int64} (h : f_Tp_valueAt x1 S = some z) : CL V l y_Tp_valueAt bc_Tp_valueAt 2 (some .long) 0 0 [.ref (V.2.2.1 1 0), .int x1] S z S :=
  ct_l rfl (IsC.ok hV) (Nat.le_of_ble_eq_true rfl) (fun _ _ hC => w_Tp_valueAt_b0 hV hC x1 h)
def f_Mn_find_b3 (nf : Nat) (S : Mem) (k3 : Int32 → Int64 → Int32 → Option (Int32)) (x1 : Int32) (x2 : Int64) (x4 : Int32) : Option (Int32) :=
  if x1 ≤ x4 then
    some (-1)
  else
    if (Int32.ofNat (nmLen nf)) ≤ x4 then
      some (-1)
    else
      gIn x4 (nmLen nf) (
      if (lg_cmp (S.2.2 3 nf x4.toNatClampNeg) x2) = 0 then
        some x4
      else
        k3 x1 x2 (x4 + 1))
def f_Mn_find_l3 (nf : Nat) (S : Mem) : Nat → Int32 → Int64 → Int32 → Option (Int32)
  | 0 => fun _ _ _ => none
  | n + 1 => f_Mn_find_b3 nf S (f_Mn_find_l3 nf S n)
def f_Mn_find_b0 (nf : Nat) (S : Mem) (x1 : Int32) (x2 : Int64) : Option (Int32) :=
  f_Mn_find_l3 nf S 5000 x1 x2 0
def f_Mn_find (nf : Nat) (x1 : Int32) (x2 : Int64) (S : Mem) : Option (Int32) := f_Mn_find_b0 nf S x1 x2
theorem d_Mn_find_0 : decode bc_Mn_find 0 = .ok (.iconst 0, 1) := by decide +kernel
theorem d_Mn_find_1 : decode bc_Mn_find 1 = .ok (.istore 4, 2) := by decide +kernel
theorem d_Mn_find_3 : decode bc_Mn_find 3 = .ok (.iload 4, 2) := by decide +kernel
theorem d_Mn_find_5 : decode bc_Mn_find 5 = .ok (.iload_n 1, 1) := by decide +kernel
theorem d_Mn_find_6 : decode bc_Mn_find 6 = .ok (.if_icmp .ge 28, 3) := by decide +kernel
theorem d_Mn_find_9 : decode bc_Mn_find 9 = .ok (.iload 4, 2) := by decide +kernel
theorem d_Mn_find_11 : decode bc_Mn_find 11 = .ok (.aload_n 0, 1) := by decide +kernel
theorem d_Mn_find_12 : decode bc_Mn_find 12 = .ok (.arraylength, 1) := by decide +kernel
theorem d_Mn_find_13 : decode bc_Mn_find 13 = .ok (.if_icmp .ge 21, 3) := by decide +kernel
theorem d_Mn_find_16 : decode bc_Mn_find 16 = .ok (.aload_n 0, 1) := by decide +kernel
theorem d_Mn_find_17 : decode bc_Mn_find 17 = .ok (.iload 4, 2) := by decide +kernel
theorem d_Mn_find_19 : decode bc_Mn_find 19 = .ok (.laload, 1) := by decide +kernel
theorem d_Mn_find_20 : decode bc_Mn_find 20 = .ok (.lload_n 2, 1) := by decide +kernel
theorem d_Mn_find_21 : decode bc_Mn_find 21 = .ok (.lcmp, 1) := by decide +kernel
theorem d_Mn_find_22 : decode bc_Mn_find 22 = .ok (.ifCond .ne 6, 3) := by decide +kernel
theorem d_Mn_find_25 : decode bc_Mn_find 25 = .ok (.iload 4, 2) := by decide +kernel
theorem d_Mn_find_27 : decode bc_Mn_find 27 = .ok (.ireturn, 1) := by decide +kernel
theorem d_Mn_find_28 : decode bc_Mn_find 28 = .ok (.iinc 4 1, 3) := by decide +kernel
theorem d_Mn_find_31 : decode bc_Mn_find 31 = .ok (.goto (-28), 3) := by decide +kernel
theorem d_Mn_find_34 : decode bc_Mn_find 34 = .ok (.iconst (-1), 1) := by decide +kernel
theorem d_Mn_find_35 : decode bc_Mn_find 35 = .ok (.ireturn, 1) := by decide +kernel
set_option maxRecDepth 20000 in
theorem w_Mn_find_b3 {X : CX} {V : WV} {nf : Nat} (hV : IsC V) (hnf : isNm nf) {S : Mem} {z : Int32} (hC : Ck X V bc_Mn_find 5 "SecretWells$Meaning" (some .int) 0 0) (k3 : Int32 → Int64 → Int32 → Option (Int32)) (hk3 : ∀ (x1 : Int32) (x2 : Int64) (x4 : Int32), k3 x1 x2 x4 = some z → G X V 5 (QI X V z S) 3 [some (.ref (V.2.2.1 3 (nf + 1))), some (.int x1), some (.long x2), none, some (.int x4)] [] S) (x1 : Int32) (x2 : Int64) (x4 : Int32) (h : f_Mn_find_b3 nf S k3 x1 x2 x4 = some z) : G X V 5 (QI X V z S) 3 [some (.ref (V.2.2.1 3 (nf + 1))), some (.int x1), some (.long x2), none, some (.int x4)] [] S := by
  unfold f_Mn_find_b3 at h
  refine g_iload (pc := 3) hC (i := 4) (x := x4) rfl d_Mn_find_3 ?_
  refine g_iload_n (pc := 5) hC (i := 1) (x := x1) rfl rfl d_Mn_find_5 ?_
  refine g_icmp_ge (pc := 6) hC (tgt := 34) (by decide) d_Mn_find_6 h (fun h => ?_) (fun h => ?_)
  · refine g_iconst (pc := 34) hC kc_m1 d_Mn_find_34 ?_
    exact g_iN (pc := 35) hC rfl d_Mn_find_35 h
  · refine g_iload (pc := 9) hC (i := 4) (x := x4) rfl d_Mn_find_9 ?_
    refine g_aload_n (pc := 11) hC (i := 0) (x := (V.2.2.1 3 (nf + 1))) rfl rfl d_Mn_find_11 ?_
    refine g_alen (pc := 12) hC (by decide) (ar_nm hV hnf) rfl d_Mn_find_12 ?_
    refine g_icmp_ge (pc := 13) hC (tgt := 34) (by decide) d_Mn_find_13 h (fun h => ?_) (fun h => ?_)
    · refine g_iconst (pc := 34) hC kc_m1 d_Mn_find_34 ?_
      exact g_iN (pc := 35) hC rfl d_Mn_find_35 h
    · refine g_aload_n (pc := 16) hC (i := 0) (x := (V.2.2.1 3 (nf + 1))) rfl rfl d_Mn_find_16 ?_
      refine g_iload (pc := 17) hC (i := 4) (x := x4) rfl d_Mn_find_17 ?_
      refine g_lald (pc := 19) hC (ar_nm hV hnf) d_Mn_find_19 h (fun h => ?_)
      refine g_lload_n (pc := 20) hC (i := 2) (x := x2) rfl rfl d_Mn_find_20 ?_
      refine g_lcmp (pc := 21) hC d_Mn_find_21 ?_
      refine g_if_ne (pc := 22) hC (tgt := 28) (by decide) d_Mn_find_22 h (fun h => ?_) (fun h => ?_)
      · refine s_iinc (pc := 28) hC (i := 4) (x := x4) (v := x4 + 1) rfl (by rw [kc_1]) (by decide) d_Mn_find_28 (lv2 := [some (.ref (V.2.2.1 3 (nf + 1))), some (.int x1), some (.long x2), none, some (.int (x4 + 1))]) rfl ?_
        refine g_goto (pc := 31) hC (tgt := 3) (by decide) d_Mn_find_31 ?_
        exact hk3 x1 x2 (x4 + 1) h
      · refine g_iload (pc := 25) hC (i := 4) (x := x4) rfl d_Mn_find_25 ?_
        exact g_iN (pc := 27) hC rfl d_Mn_find_27 h
theorem w_Mn_find_l3 {X : CX} {V : WV} {nf : Nat} (hV : IsC V) (hnf : isNm nf) {S : Mem} {z : Int32} (hC : Ck X V bc_Mn_find 5 "SecretWells$Meaning" (some .int) 0 0) : ∀ (n : Nat) (x1 : Int32) (x2 : Int64) (x4 : Int32), f_Mn_find_l3 nf S n x1 x2 x4 = some z → G X V 5 (QI X V z S) 3 [some (.ref (V.2.2.1 3 (nf + 1))), some (.int x1), some (.long x2), none, some (.int x4)] [] S := by
  intro n
  induction n with
  | zero =>
    intro x1 x2 x4 h
    have h : (none : Option (Int32)) = some z := h
    cases h
  | succ n ih =>
    intro x1 x2 x4 h
    exact w_Mn_find_b3 hV hnf hC (f_Mn_find_l3 nf S n) ih x1 x2 x4 h
set_option maxRecDepth 20000 in
theorem w_Mn_find_b0 {X : CX} {V : WV} {nf : Nat} (hV : IsC V) (hnf : isNm nf) {S : Mem} {z : Int32} (hC : Ck X V bc_Mn_find 5 "SecretWells$Meaning" (some .int) 0 0) (x1 : Int32) (x2 : Int64) (h : f_Mn_find_b0 nf S x1 x2 = some z) : G X V 5 (QI X V z S) 0 [some (.ref (V.2.2.1 3 (nf + 1))), some (.int x1), some (.long x2), none, none] [] S := by
  unfold f_Mn_find_b0 at h
  refine g_iconst (pc := 0) hC kc_0 d_Mn_find_0 ?_
  refine s_istore (pc := 1) hC (i := 4) (by decide) d_Mn_find_1 (lv2 := [some (.ref (V.2.2.1 3 (nf + 1))), some (.int x1), some (.long x2), none, some (.int 0)]) rfl ?_
  exact w_Mn_find_l3 hV hnf hC 5000 x1 x2 0 h
theorem c_Mn_find {V : WV} {l : Launch} (hV : IsC V) {nf : Nat} (hnf : isNm nf) {x1 : Int32} {x2 : Int64} {S : Mem} {z : Int32} (h : f_Mn_find nf x1 x2 S = some z) : CI V l y_Mn_find bc_Mn_find 5 (some .int) 0 0 [.ref (V.2.2.1 3 (nf + 1)), .int x1, .long x2] S z S :=
  ct_i rfl (IsC.ok hV) (Nat.le_of_ble_eq_true rfl) (fun _ _ hC => w_Mn_find_b0 hV hnf hC x1 x2 h)
def f_Mn_isTold_b0 (tx : Nat) (S : Mem) (x2 : Int64) : Option (Int32) :=
  Option.bind (f_Mn_find 4 (S.1 tx 0) x2 S) (fun q9 =>
  if 0 ≤ q9 then
    some 1
  else
    Option.bind (f_Mn_find 5 (S.1 tx 1) x2 S) (fun q24 =>
    if 0 ≤ q24 then
      some 1
    else
      Option.bind (f_Mn_find 6 (S.1 tx 2) x2 S) (fun q39 =>
      if q39 < 0 then
        some 0
      else
        some 1)))
def f_Mn_isTold (tx : Nat) (x2 : Int64) (S : Mem) : Option (Int32) := f_Mn_isTold_b0 tx S x2
theorem d_Mn_isTold_0 : decode bc_Mn_isTold 0 = .ok (.aload_n 0, 1) := by decide +kernel
theorem d_Mn_isTold_1 : decode bc_Mn_isTold 1 = .ok (.getfield 21, 3) := by decide +kernel
theorem d_Mn_isTold_4 : decode bc_Mn_isTold 4 = .ok (.aload_n 1, 1) := by decide +kernel
theorem d_Mn_isTold_5 : decode bc_Mn_isTold 5 = .ok (.getfield 92, 3) := by decide +kernel
theorem d_Mn_isTold_8 : decode bc_Mn_isTold 8 = .ok (.lload_n 2, 1) := by decide +kernel
theorem d_Mn_isTold_9 : decode bc_Mn_isTold 9 = .ok (.invokestatic 172, 3) := by decide +kernel
theorem d_Mn_isTold_12 : decode bc_Mn_isTold 12 = .ok (.ifCond .ge 33, 3) := by decide +kernel
theorem d_Mn_isTold_15 : decode bc_Mn_isTold 15 = .ok (.aload_n 0, 1) := by decide +kernel
theorem d_Mn_isTold_16 : decode bc_Mn_isTold 16 = .ok (.getfield 25, 3) := by decide +kernel
theorem d_Mn_isTold_19 : decode bc_Mn_isTold 19 = .ok (.aload_n 1, 1) := by decide +kernel
theorem d_Mn_isTold_20 : decode bc_Mn_isTold 20 = .ok (.getfield 106, 3) := by decide +kernel
theorem d_Mn_isTold_23 : decode bc_Mn_isTold 23 = .ok (.lload_n 2, 1) := by decide +kernel
theorem d_Mn_isTold_24 : decode bc_Mn_isTold 24 = .ok (.invokestatic 172, 3) := by decide +kernel
theorem d_Mn_isTold_27 : decode bc_Mn_isTold 27 = .ok (.ifCond .ge 18, 3) := by decide +kernel
theorem d_Mn_isTold_30 : decode bc_Mn_isTold 30 = .ok (.aload_n 0, 1) := by decide +kernel
theorem d_Mn_isTold_31 : decode bc_Mn_isTold 31 = .ok (.getfield 28, 3) := by decide +kernel
theorem d_Mn_isTold_34 : decode bc_Mn_isTold 34 = .ok (.aload_n 1, 1) := by decide +kernel
theorem d_Mn_isTold_35 : decode bc_Mn_isTold 35 = .ok (.getfield 124, 3) := by decide +kernel
theorem d_Mn_isTold_38 : decode bc_Mn_isTold 38 = .ok (.lload_n 2, 1) := by decide +kernel
theorem d_Mn_isTold_39 : decode bc_Mn_isTold 39 = .ok (.invokestatic 172, 3) := by decide +kernel
theorem d_Mn_isTold_42 : decode bc_Mn_isTold 42 = .ok (.ifCond .lt 7, 3) := by decide +kernel
theorem d_Mn_isTold_45 : decode bc_Mn_isTold 45 = .ok (.iconst 1, 1) := by decide +kernel
theorem d_Mn_isTold_46 : decode bc_Mn_isTold 46 = .ok (.goto 4, 3) := by decide +kernel
theorem d_Mn_isTold_49 : decode bc_Mn_isTold 49 = .ok (.iconst 0, 1) := by decide +kernel
theorem d_Mn_isTold_50 : decode bc_Mn_isTold 50 = .ok (.ireturn, 1) := by decide +kernel
set_option maxRecDepth 20000 in
theorem w_Mn_isTold_b0 {X : CX} {V : WV} {tx : Nat} (hV : IsC V) (htx : isTx tx) {S : Mem} {z : Int32} (hC : Ck X V bc_Mn_isTold 4 "SecretWells$Meaning" (some .boolean) 1 24) (x2 : Int64) (h : f_Mn_isTold_b0 tx S x2 = some z) : G X V 4 (QI X V z S) 0 [some (.ref (V.2.2.1 3 0)), some (.ref (V.2.2.1 tx 0)), some (.long x2), none] [] S := by
  unfold f_Mn_isTold_b0 at h
  refine g_aload_n (pc := 0) hC (i := 0) (x := (V.2.2.1 3 0)) rfl rfl d_Mn_isTold_0 ?_
  refine g_getA (pc := 1) hC fo_Mn_21 (ob_Mn hV) rfl d_Mn_isTold_1 ?_
  refine g_aload_n (pc := 4) hC (i := 1) (x := (V.2.2.1 tx 0)) rfl rfl d_Mn_isTold_4 ?_
  refine g_getI (pc := 5) hC fo_Mn_92 (ob_Tx hV htx) rfl d_Mn_isTold_5 ?_
  refine g_lload_n (pc := 8) hC (i := 2) (x := x2) rfl rfl d_Mn_isTold_8 ?_
  obtain ⟨q9, hq9, h⟩ := Option.bind_eq_some_iff.mp h
  refine g_si (pc := 9) hC (As := [.ref (V.2.2.1 3 (4 + 1)), .int (S.1 tx 0), .long x2]) (st := []) mt_Mn_find lk_Mn_172 (Nat.le_of_ble_eq_true rfl) ⟨Nat.le_of_ble_eq_true rfl, Nat.le_of_ble_eq_true rfl⟩ rfl d_Mn_isTold_9 (c_Mn_find hV (nm_4) hq9) ?_
  refine g_if_ge (pc := 12) hC (tgt := 45) (by decide) d_Mn_isTold_12 h (fun h => ?_) (fun h => ?_)
  · refine g_iconst (pc := 45) hC kc_1 d_Mn_isTold_45 ?_
    refine g_goto (pc := 46) hC (tgt := 50) (by decide) d_Mn_isTold_46 ?_
    exact g_iN (pc := 50) hC rfl d_Mn_isTold_50 h
  · refine g_aload_n (pc := 15) hC (i := 0) (x := (V.2.2.1 3 0)) rfl rfl d_Mn_isTold_15 ?_
    refine g_getA (pc := 16) hC fo_Mn_25 (ob_Mn hV) rfl d_Mn_isTold_16 ?_
    refine g_aload_n (pc := 19) hC (i := 1) (x := (V.2.2.1 tx 0)) rfl rfl d_Mn_isTold_19 ?_
    refine g_getI (pc := 20) hC fo_Mn_106 (ob_Tx hV htx) rfl d_Mn_isTold_20 ?_
    refine g_lload_n (pc := 23) hC (i := 2) (x := x2) rfl rfl d_Mn_isTold_23 ?_
    obtain ⟨q24, hq24, h⟩ := Option.bind_eq_some_iff.mp h
    refine g_si (pc := 24) hC (As := [.ref (V.2.2.1 3 (5 + 1)), .int (S.1 tx 1), .long x2]) (st := []) mt_Mn_find lk_Mn_172 (Nat.le_of_ble_eq_true rfl) ⟨Nat.le_of_ble_eq_true rfl, Nat.le_of_ble_eq_true rfl⟩ rfl d_Mn_isTold_24 (c_Mn_find hV (nm_5) hq24) ?_
    refine g_if_ge (pc := 27) hC (tgt := 45) (by decide) d_Mn_isTold_27 h (fun h => ?_) (fun h => ?_)
    · refine g_iconst (pc := 45) hC kc_1 d_Mn_isTold_45 ?_
      refine g_goto (pc := 46) hC (tgt := 50) (by decide) d_Mn_isTold_46 ?_
      exact g_iN (pc := 50) hC rfl d_Mn_isTold_50 h
    · refine g_aload_n (pc := 30) hC (i := 0) (x := (V.2.2.1 3 0)) rfl rfl d_Mn_isTold_30 ?_
      refine g_getA (pc := 31) hC fo_Mn_28 (ob_Mn hV) rfl d_Mn_isTold_31 ?_
      refine g_aload_n (pc := 34) hC (i := 1) (x := (V.2.2.1 tx 0)) rfl rfl d_Mn_isTold_34 ?_
      refine g_getI (pc := 35) hC fo_Mn_124 (ob_Tx hV htx) rfl d_Mn_isTold_35 ?_
      refine g_lload_n (pc := 38) hC (i := 2) (x := x2) rfl rfl d_Mn_isTold_38 ?_
      obtain ⟨q39, hq39, h⟩ := Option.bind_eq_some_iff.mp h
      refine g_si (pc := 39) hC (As := [.ref (V.2.2.1 3 (6 + 1)), .int (S.1 tx 2), .long x2]) (st := []) mt_Mn_find lk_Mn_172 (Nat.le_of_ble_eq_true rfl) ⟨Nat.le_of_ble_eq_true rfl, Nat.le_of_ble_eq_true rfl⟩ rfl d_Mn_isTold_39 (c_Mn_find hV (nm_6) hq39) ?_
      refine g_if_lt (pc := 42) hC (tgt := 49) (by decide) d_Mn_isTold_42 h (fun h => ?_) (fun h => ?_)
      · refine g_iconst (pc := 49) hC kc_0 d_Mn_isTold_49 ?_
        exact g_iN (pc := 50) hC rfl d_Mn_isTold_50 h
      · refine g_iconst (pc := 45) hC kc_1 d_Mn_isTold_45 ?_
        refine g_goto (pc := 46) hC (tgt := 50) (by decide) d_Mn_isTold_46 ?_
        exact g_iN (pc := 50) hC rfl d_Mn_isTold_50 h
theorem c_Mn_isTold {V : WV} {l : Launch} (hV : IsC V) {tx : Nat} (htx : isTx tx) {x2 : Int64} {S : Mem} {z : Int32} (h : f_Mn_isTold tx x2 S = some z) : CI V l y_Mn_isTold bc_Mn_isTold 4 (some .boolean) 1 24 [.ref (V.2.2.1 3 0), .ref (V.2.2.1 tx 0), .long x2] S z S :=
  ct_i rfl (IsC.ok hV) (Nat.le_of_ble_eq_true rfl) (fun _ _ hC => w_Mn_isTold_b0 hV htx hC x2 h)
def f_Tp_placeAt_b0 (S : Mem) (x1 : Int32) : Option (Int32) :=
  if x1 < 0 then
    some 0
  else
    if 400 < x1 then
      some 0
    else
      gIn x1 401 (
      some (S.2.1 1 4 x1.toNatClampNeg))
def f_Tp_placeAt (x1 : Int32) (S : Mem) : Option (Int32) := f_Tp_placeAt_b0 S x1
theorem d_Tp_placeAt_0 : decode bc_Tp_placeAt 0 = .ok (.iload_n 1, 1) := by decide +kernel
theorem d_Tp_placeAt_1 : decode bc_Tp_placeAt 1 = .ok (.ifCond .lt 19, 3) := by decide +kernel
theorem d_Tp_placeAt_4 : decode bc_Tp_placeAt 4 = .ok (.iload_n 1, 1) := by decide +kernel
theorem d_Tp_placeAt_5 : decode bc_Tp_placeAt 5 = .ok (.sipush 400, 3) := by decide +kernel
theorem d_Tp_placeAt_8 : decode bc_Tp_placeAt 8 = .ok (.if_icmp .gt 12, 3) := by decide +kernel
theorem d_Tp_placeAt_11 : decode bc_Tp_placeAt 11 = .ok (.aload_n 0, 1) := by decide +kernel
theorem d_Tp_placeAt_12 : decode bc_Tp_placeAt 12 = .ok (.getfield 27, 3) := by decide +kernel
theorem d_Tp_placeAt_15 : decode bc_Tp_placeAt 15 = .ok (.iload_n 1, 1) := by decide +kernel
theorem d_Tp_placeAt_16 : decode bc_Tp_placeAt 16 = .ok (.iaload, 1) := by decide +kernel
theorem d_Tp_placeAt_17 : decode bc_Tp_placeAt 17 = .ok (.goto 4, 3) := by decide +kernel
theorem d_Tp_placeAt_20 : decode bc_Tp_placeAt 20 = .ok (.iconst 0, 1) := by decide +kernel
theorem d_Tp_placeAt_21 : decode bc_Tp_placeAt 21 = .ok (.ireturn, 1) := by decide +kernel
set_option maxRecDepth 20000 in
theorem w_Tp_placeAt_b0 {X : CX} {V : WV} (hV : IsC V) {S : Mem} {z : Int32} (hC : Ck X V bc_Tp_placeAt 2 "SecretWells$Tape" (some .int) 0 0) (x1 : Int32) (h : f_Tp_placeAt_b0 S x1 = some z) : G X V 2 (QI X V z S) 0 [some (.ref (V.2.2.1 1 0)), some (.int x1)] [] S := by
  unfold f_Tp_placeAt_b0 at h
  refine g_iload_n (pc := 0) hC (i := 1) (x := x1) rfl rfl d_Tp_placeAt_0 ?_
  refine g_if_lt (pc := 1) hC (tgt := 20) (by decide) d_Tp_placeAt_1 h (fun h => ?_) (fun h => ?_)
  · refine g_iconst (pc := 20) hC kc_0 d_Tp_placeAt_20 ?_
    exact g_iN (pc := 21) hC rfl d_Tp_placeAt_21 h
  · refine g_iload_n (pc := 4) hC (i := 1) (x := x1) rfl rfl d_Tp_placeAt_4 ?_
    refine g_sipush (pc := 5) hC ks_400 d_Tp_placeAt_5 ?_
    refine g_icmp_gt (pc := 8) hC (tgt := 20) (by decide) d_Tp_placeAt_8 h (fun h => ?_) (fun h => ?_)
    · refine g_iconst (pc := 20) hC kc_0 d_Tp_placeAt_20 ?_
      exact g_iN (pc := 21) hC rfl d_Tp_placeAt_21 h
    · refine g_aload_n (pc := 11) hC (i := 0) (x := (V.2.2.1 1 0)) rfl rfl d_Tp_placeAt_11 ?_
      refine g_getA (pc := 12) hC fo_Tp_27 (ob_Tp hV) rfl d_Tp_placeAt_12 ?_
      refine g_iload_n (pc := 15) hC (i := 1) (x := x1) rfl rfl d_Tp_placeAt_15 ?_
      refine g_iald (pc := 16) hC (ar_Tp_4 hV) d_Tp_placeAt_16 h (fun h => ?_)
      refine g_goto (pc := 17) hC (tgt := 21) (by decide) d_Tp_placeAt_17 ?_
      exact g_iN (pc := 21) hC rfl d_Tp_placeAt_21 h
theorem c_Tp_placeAt {V : WV} {l : Launch} (hV : IsC V) {x1 : Int32} {S : Mem} {z : Int32} (h : f_Tp_placeAt x1 S = some z) : CI V l y_Tp_placeAt bc_Tp_placeAt 2 (some .int) 0 0 [.ref (V.2.2.1 1 0), .int x1] S z S :=
  ct_i rfl (IsC.ok hV) (Nat.le_of_ble_eq_true rfl) (fun _ _ hC => w_Tp_placeAt_b0 hV hC x1 h)
def f_Mn_failed_b0 (x1 : Int32) (x2 : Int32) (S : Mem) : Option (Mem) :=
  if (S.1 3 2) = 0 then
    letS (pI S 3 2 x1) (fun S9 =>
    Option.bind (f_Tp_placeAt x2 S9) (fun q18 =>
    letS (pI S9 3 0 q18) (fun S21 =>
    some S21)))
  else
    some S
def f_Mn_failed (x1 : Int32) (x2 : Int32) (S : Mem) : Option (Mem) := f_Mn_failed_b0  x1 x2 S
theorem d_Mn_failed_0 : decode bc_Mn_failed 0 = .ok (.aload_n 0, 1) := by decide +kernel
theorem d_Mn_failed_1 : decode bc_Mn_failed 1 = .ok (.getfield 15, 3) := by decide +kernel
theorem d_Mn_failed_4 : decode bc_Mn_failed 4 = .ok (.ifCond .ne 20, 3) := by decide +kernel
theorem d_Mn_failed_7 : decode bc_Mn_failed 7 = .ok (.aload_n 0, 1) := by decide +kernel
theorem d_Mn_failed_8 : decode bc_Mn_failed 8 = .ok (.iload_n 1, 1) := by decide +kernel
theorem d_Mn_failed_9 : decode bc_Mn_failed 9 = .ok (.putfield 15, 3) := by decide +kernel
theorem d_Mn_failed_12 : decode bc_Mn_failed 12 = .ok (.aload_n 0, 1) := by decide +kernel
theorem d_Mn_failed_13 : decode bc_Mn_failed 13 = .ok (.aload_n 0, 1) := by decide +kernel
theorem d_Mn_failed_14 : decode bc_Mn_failed 14 = .ok (.getfield 31, 3) := by decide +kernel
theorem d_Mn_failed_17 : decode bc_Mn_failed 17 = .ok (.iload_n 2, 1) := by decide +kernel
theorem d_Mn_failed_18 : decode bc_Mn_failed 18 = .ok (.invokevirtual 176, 3) := by decide +kernel
theorem d_Mn_failed_21 : decode bc_Mn_failed 21 = .ok (.putfield 9, 3) := by decide +kernel
theorem d_Mn_failed_24 : decode bc_Mn_failed 24 = .ok (.return_, 1) := by decide +kernel
set_option maxRecDepth 20000 in
theorem w_Mn_failed_b0 {X : CX} {V : WV} (hV : IsC V) {z : Mem} (hC : Ck X V bc_Mn_failed 3 "SecretWells$Meaning" none 1 21) (x1 : Int32) (x2 : Int32) (S : Mem) (h : f_Mn_failed_b0  x1 x2 S = some z) : G X V 3 (QV X V z) 0 [some (.ref (V.2.2.1 3 0)), some (.int x1), some (.int x2)] [] S := by
  unfold f_Mn_failed_b0 at h
  refine g_aload_n (pc := 0) hC (i := 0) (x := (V.2.2.1 3 0)) rfl rfl d_Mn_failed_0 ?_
  refine g_getI (pc := 1) hC fo_Mn_15 (ob_Mn hV) rfl d_Mn_failed_1 ?_
  refine g_if_ne (pc := 4) hC (tgt := 24) (by decide) d_Mn_failed_4 h (fun h => ?_) (fun h => ?_)
  · exact g_vW (pc := 24) hC d_Mn_failed_24 h
  · refine g_aload_n (pc := 7) hC (i := 0) (x := (V.2.2.1 3 0)) rfl rfl d_Mn_failed_7 ?_
    refine g_iload_n (pc := 8) hC (i := 1) (x := x1) rfl rfl d_Mn_failed_8 ?_
    refine g_putI (pc := 9) hC po_Mn_15 (ob_Mn hV) rfl rfl rfl d_Mn_failed_9 ?_
    refine g_letS h (fun S9 h => ?_)
    refine g_aload_n (pc := 12) hC (i := 0) (x := (V.2.2.1 3 0)) rfl rfl d_Mn_failed_12 ?_
    refine g_aload_n (pc := 13) hC (i := 0) (x := (V.2.2.1 3 0)) rfl rfl d_Mn_failed_13 ?_
    refine g_getC (pc := 14) hC (j := 1) fo_Mn_31 (ob_Mn hV) rfl d_Mn_failed_14 ?_
    refine g_iload_n (pc := 17) hC (i := 2) (x := x2) rfl rfl d_Mn_failed_17 ?_
    obtain ⟨q18, hq18, h⟩ := Option.bind_eq_some_iff.mp h
    refine g_vi (pc := 18) hC (As := [.int x2]) (st := [.ref (V.2.2.1 3 0)]) mt_Tp_placeAt lk_Mn_176 rfl (ob_Tp hV) (Nat.le_of_ble_eq_true rfl) ⟨Nat.le_of_ble_eq_true rfl, Nat.le_of_ble_eq_true rfl⟩ rfl d_Mn_failed_18 (c_Tp_placeAt hV hq18) ?_
    refine g_putI (pc := 21) hC po_Mn_9 (ob_Mn hV) rfl rfl rfl d_Mn_failed_21 ?_
    refine g_letS h (fun S21 h => ?_)
    exact g_vW (pc := 24) hC d_Mn_failed_24 h
theorem c_Mn_failed {V : WV} {l : Launch} (hV : IsC V) {x1 : Int32} {x2 : Int32} {S : Mem} {z : Mem} (h : f_Mn_failed x1 x2 S = some z) : CV V l y_Mn_failed bc_Mn_failed 3 none 1 21 [.ref (V.2.2.1 3 0), .int x1, .int x2] S z :=
  ct_v rfl (IsC.ok hV) (Nat.le_of_ble_eq_true rfl) (fun _ _ hC => w_Mn_failed_b0 hV hC x1 x2 S h)
def f_Mn_newName_b30 (tx : Nat) (x2 : Int64) (S : Mem) : Option (Int64 × Mem) :=
  letS (pI S 3 3 ((S.1 3 3) + 1)) (fun S37 =>
  some (x2, S37))
def f_Mn_newName_b0 (tx : Nat) (S : Mem) : Option (Int64 × Mem) :=
  Option.bind (f_Tp_valueAt (S.1 3 3) S) (fun q8 =>
  Option.bind (f_Mn_isTold tx q8 S) (fun q15 =>
  if q15 = 0 then
    f_Mn_newName_b30 tx q8 S
  else
    Option.bind (f_Mn_failed 3 (S.1 3 3) S) (fun q27 =>
    f_Mn_newName_b30 tx q8 q27)))
def f_Mn_newName (tx : Nat) (S : Mem) : Option (Int64 × Mem) := f_Mn_newName_b0 tx S
theorem d_Mn_newName_0 : decode bc_Mn_newName 0 = .ok (.aload_n 0, 1) := by decide +kernel
theorem d_Mn_newName_1 : decode bc_Mn_newName 1 = .ok (.getfield 31, 3) := by decide +kernel
theorem d_Mn_newName_4 : decode bc_Mn_newName 4 = .ok (.aload_n 0, 1) := by decide +kernel
theorem d_Mn_newName_5 : decode bc_Mn_newName 5 = .ok (.getfield 18, 3) := by decide +kernel
theorem d_Mn_newName_8 : decode bc_Mn_newName 8 = .ok (.invokevirtual 158, 3) := by decide +kernel
theorem d_Mn_newName_11 : decode bc_Mn_newName 11 = .ok (.lstore_n 2, 1) := by decide +kernel
theorem d_Mn_newName_12 : decode bc_Mn_newName 12 = .ok (.aload_n 0, 1) := by decide +kernel
theorem d_Mn_newName_13 : decode bc_Mn_newName 13 = .ok (.aload_n 1, 1) := by decide +kernel
theorem d_Mn_newName_14 : decode bc_Mn_newName 14 = .ok (.lload_n 2, 1) := by decide +kernel
theorem d_Mn_newName_15 : decode bc_Mn_newName 15 = .ok (.invokevirtual 168, 3) := by decide +kernel
theorem d_Mn_newName_18 : decode bc_Mn_newName 18 = .ok (.ifCond .eq 12, 3) := by decide +kernel
theorem d_Mn_newName_21 : decode bc_Mn_newName 21 = .ok (.aload_n 0, 1) := by decide +kernel
theorem d_Mn_newName_22 : decode bc_Mn_newName 22 = .ok (.iconst 3, 1) := by decide +kernel
theorem d_Mn_newName_23 : decode bc_Mn_newName 23 = .ok (.aload_n 0, 1) := by decide +kernel
theorem d_Mn_newName_24 : decode bc_Mn_newName 24 = .ok (.getfield 18, 3) := by decide +kernel
theorem d_Mn_newName_27 : decode bc_Mn_newName 27 = .ok (.invokevirtual 140, 3) := by decide +kernel
theorem d_Mn_newName_30 : decode bc_Mn_newName 30 = .ok (.aload_n 0, 1) := by decide +kernel
theorem d_Mn_newName_31 : decode bc_Mn_newName 31 = .ok (.dup, 1) := by decide +kernel
theorem d_Mn_newName_32 : decode bc_Mn_newName 32 = .ok (.getfield 18, 3) := by decide +kernel
theorem d_Mn_newName_35 : decode bc_Mn_newName 35 = .ok (.iconst 1, 1) := by decide +kernel
theorem d_Mn_newName_36 : decode bc_Mn_newName 36 = .ok (.iadd, 1) := by decide +kernel
theorem d_Mn_newName_37 : decode bc_Mn_newName 37 = .ok (.putfield 18, 3) := by decide +kernel
theorem d_Mn_newName_40 : decode bc_Mn_newName 40 = .ok (.lload_n 2, 1) := by decide +kernel
theorem d_Mn_newName_41 : decode bc_Mn_newName 41 = .ok (.lreturn, 1) := by decide +kernel
set_option maxRecDepth 20000 in
theorem w_Mn_newName_b30 {X : CX} {V : WV} {tx : Nat} (hV : IsC V) (htx : isTx tx) {z : Int64 × Mem} (hC : Ck X V bc_Mn_newName 4 "SecretWells$Meaning" (some .long) 2 47) (x2 : Int64) (S : Mem) (h : f_Mn_newName_b30 tx x2 S = some z) : G X V 4 (QL X V z.1 z.2) 30 [some (.ref (V.2.2.1 3 0)), some (.ref (V.2.2.1 tx 0)), some (.long x2), none] [] S := by
  unfold f_Mn_newName_b30 at h
  refine g_aload_n (pc := 30) hC (i := 0) (x := (V.2.2.1 3 0)) rfl rfl d_Mn_newName_30 ?_
  refine g_dup (pc := 31) hC rfl d_Mn_newName_31 ?_
  refine g_getI (pc := 32) hC fo_Mn_18 (ob_Mn hV) rfl d_Mn_newName_32 ?_
  refine g_iconst (pc := 35) hC kc_1 d_Mn_newName_35 ?_
  refine g_iadd (pc := 36) hC d_Mn_newName_36 ?_
  refine g_putI (pc := 37) hC po_Mn_18 (ob_Mn hV) rfl rfl rfl d_Mn_newName_37 ?_
  refine g_letS h (fun S37 h => ?_)
  refine g_lload_n (pc := 40) hC (i := 2) (x := x2) rfl rfl d_Mn_newName_40 ?_
  exact g_lW (pc := 41) hC d_Mn_newName_41 h
set_option maxRecDepth 20000 in
theorem w_Mn_newName_b0 {X : CX} {V : WV} {tx : Nat} (hV : IsC V) (htx : isTx tx) {z : Int64 × Mem} (hC : Ck X V bc_Mn_newName 4 "SecretWells$Meaning" (some .long) 2 47) (S : Mem) (h : f_Mn_newName_b0 tx S = some z) : G X V 4 (QL X V z.1 z.2) 0 [some (.ref (V.2.2.1 3 0)), some (.ref (V.2.2.1 tx 0)), none, none] [] S := by
  unfold f_Mn_newName_b0 at h
  refine g_aload_n (pc := 0) hC (i := 0) (x := (V.2.2.1 3 0)) rfl rfl d_Mn_newName_0 ?_
  refine g_getC (pc := 1) hC (j := 1) fo_Mn_31 (ob_Mn hV) rfl d_Mn_newName_1 ?_
  refine g_aload_n (pc := 4) hC (i := 0) (x := (V.2.2.1 3 0)) rfl rfl d_Mn_newName_4 ?_
  refine g_getI (pc := 5) hC fo_Mn_18 (ob_Mn hV) rfl d_Mn_newName_5 ?_
  obtain ⟨q8, hq8, h⟩ := Option.bind_eq_some_iff.mp h
  refine g_vl (pc := 8) hC (As := [.int (S.1 3 3)]) (st := []) mt_Tp_valueAt lk_Mn_158 rfl (ob_Tp hV) (Nat.le_of_ble_eq_true rfl) ⟨Nat.le_of_ble_eq_true rfl, Nat.le_of_ble_eq_true rfl⟩ rfl d_Mn_newName_8 (c_Tp_valueAt hV hq8) ?_
  refine s_lstore_n (pc := 11) hC (i := 2) rfl (by decide) d_Mn_newName_11 (lv2 := [some (.ref (V.2.2.1 3 0)), some (.ref (V.2.2.1 tx 0)), some (.long q8), none]) rfl ?_
  refine g_aload_n (pc := 12) hC (i := 0) (x := (V.2.2.1 3 0)) rfl rfl d_Mn_newName_12 ?_
  refine g_aload_n (pc := 13) hC (i := 1) (x := (V.2.2.1 tx 0)) rfl rfl d_Mn_newName_13 ?_
  refine g_lload_n (pc := 14) hC (i := 2) (x := q8) rfl rfl d_Mn_newName_14 ?_
  obtain ⟨q15, hq15, h⟩ := Option.bind_eq_some_iff.mp h
  refine g_vi (pc := 15) hC (As := [.ref (V.2.2.1 tx 0), .long q8]) (st := []) mt_Mn_isTold lk_Mn_168 rfl (ob_Mn hV) (Nat.le_of_ble_eq_true rfl) ⟨Nat.le_of_ble_eq_true rfl, Nat.le_of_ble_eq_true rfl⟩ rfl d_Mn_newName_15 (c_Mn_isTold hV htx hq15) ?_
  refine g_if_eq (pc := 18) hC (tgt := 30) (by decide) d_Mn_newName_18 h (fun h => ?_) (fun h => ?_)
  · exact w_Mn_newName_b30 hV htx hC q8 S h
  · refine g_aload_n (pc := 21) hC (i := 0) (x := (V.2.2.1 3 0)) rfl rfl d_Mn_newName_21 ?_
    refine g_iconst (pc := 22) hC kc_3 d_Mn_newName_22 ?_
    refine g_aload_n (pc := 23) hC (i := 0) (x := (V.2.2.1 3 0)) rfl rfl d_Mn_newName_23 ?_
    refine g_getI (pc := 24) hC fo_Mn_18 (ob_Mn hV) rfl d_Mn_newName_24 ?_
    obtain ⟨q27, hq27, h⟩ := Option.bind_eq_some_iff.mp h
    refine g_vv (pc := 27) hC (As := [.int 3, .int (S.1 3 3)]) (st := []) mt_Mn_failed lk_Mn_140 rfl (ob_Mn hV) (Nat.le_of_ble_eq_true rfl) ⟨Nat.le_of_ble_eq_true rfl, Nat.le_of_ble_eq_true rfl⟩ rfl d_Mn_newName_27 (c_Mn_failed hV hq27) ?_
    exact w_Mn_newName_b30 hV htx hC q8 q27 h
theorem c_Mn_newName {V : WV} {l : Launch} (hV : IsC V) {tx : Nat} (htx : isTx tx) {S : Mem} {z : Int64 × Mem} (h : f_Mn_newName tx S = some z) : CL V l y_Mn_newName bc_Mn_newName 4 (some .long) 2 47 [.ref (V.2.2.1 3 0), .ref (V.2.2.1 tx 0)] S z.1 z.2 :=
  ct_l rfl (IsC.ok hV) (Nat.le_of_ble_eq_true rfl) (fun _ _ hC => w_Mn_newName_b0 hV htx hC S h)
def f_Mn_number_b32 (x3 : Int32) (S : Mem) : Option (Int32 × Mem) :=
  letS (pI S 3 3 ((S.1 3 3) + 1)) (fun S39 =>
  some (x3, S39))
def f_Mn_number_b23 (x3 : Int32) (S : Mem) : Option (Int32 × Mem) :=
  Option.bind (f_Mn_failed 5 (S.1 3 3) S) (fun q29 =>
  f_Mn_number_b32 x3 q29)
def f_Mn_number_b0 (x1 : Int32) (x2 : Int32) (S : Mem) : Option (Int32 × Mem) :=
  Option.bind (f_Tp_valueAt (S.1 3 3) S) (fun q8 =>
  letS q8.toInt32 (fun y12 =>
  if y12 < x1 then
    f_Mn_number_b23 y12 S
  else
    if y12 ≤ x2 then
      f_Mn_number_b32 y12 S
    else
      f_Mn_number_b23 y12 S))
def f_Mn_number (x1 : Int32) (x2 : Int32) (S : Mem) : Option (Int32 × Mem) := f_Mn_number_b0  x1 x2 S
theorem d_Mn_number_0 : decode bc_Mn_number 0 = .ok (.aload_n 0, 1) := by decide +kernel
theorem d_Mn_number_1 : decode bc_Mn_number 1 = .ok (.getfield 31, 3) := by decide +kernel
theorem d_Mn_number_4 : decode bc_Mn_number 4 = .ok (.aload_n 0, 1) := by decide +kernel
theorem d_Mn_number_5 : decode bc_Mn_number 5 = .ok (.getfield 18, 3) := by decide +kernel
theorem d_Mn_number_8 : decode bc_Mn_number 8 = .ok (.invokevirtual 158, 3) := by decide +kernel
theorem d_Mn_number_11 : decode bc_Mn_number 11 = .ok (.l2i, 1) := by decide +kernel
theorem d_Mn_number_12 : decode bc_Mn_number 12 = .ok (.istore_n 3, 1) := by decide +kernel
theorem d_Mn_number_13 : decode bc_Mn_number 13 = .ok (.iload_n 3, 1) := by decide +kernel
theorem d_Mn_number_14 : decode bc_Mn_number 14 = .ok (.iload_n 1, 1) := by decide +kernel
theorem d_Mn_number_15 : decode bc_Mn_number 15 = .ok (.if_icmp .lt 8, 3) := by decide +kernel
theorem d_Mn_number_18 : decode bc_Mn_number 18 = .ok (.iload_n 3, 1) := by decide +kernel
theorem d_Mn_number_19 : decode bc_Mn_number 19 = .ok (.iload_n 2, 1) := by decide +kernel
theorem d_Mn_number_20 : decode bc_Mn_number 20 = .ok (.if_icmp .le 12, 3) := by decide +kernel
theorem d_Mn_number_23 : decode bc_Mn_number 23 = .ok (.aload_n 0, 1) := by decide +kernel
theorem d_Mn_number_24 : decode bc_Mn_number 24 = .ok (.iconst 5, 1) := by decide +kernel
theorem d_Mn_number_25 : decode bc_Mn_number 25 = .ok (.aload_n 0, 1) := by decide +kernel
theorem d_Mn_number_26 : decode bc_Mn_number 26 = .ok (.getfield 18, 3) := by decide +kernel
theorem d_Mn_number_29 : decode bc_Mn_number 29 = .ok (.invokevirtual 140, 3) := by decide +kernel
theorem d_Mn_number_32 : decode bc_Mn_number 32 = .ok (.aload_n 0, 1) := by decide +kernel
theorem d_Mn_number_33 : decode bc_Mn_number 33 = .ok (.dup, 1) := by decide +kernel
theorem d_Mn_number_34 : decode bc_Mn_number 34 = .ok (.getfield 18, 3) := by decide +kernel
theorem d_Mn_number_37 : decode bc_Mn_number 37 = .ok (.iconst 1, 1) := by decide +kernel
theorem d_Mn_number_38 : decode bc_Mn_number 38 = .ok (.iadd, 1) := by decide +kernel
theorem d_Mn_number_39 : decode bc_Mn_number 39 = .ok (.putfield 18, 3) := by decide +kernel
theorem d_Mn_number_42 : decode bc_Mn_number 42 = .ok (.iload_n 3, 1) := by decide +kernel
theorem d_Mn_number_43 : decode bc_Mn_number 43 = .ok (.ireturn, 1) := by decide +kernel
set_option maxRecDepth 20000 in
theorem w_Mn_number_b32 {X : CX} {V : WV} (hV : IsC V) {z : Int32 × Mem} (hC : Ck X V bc_Mn_number 4 "SecretWells$Meaning" (some .int) 2 43) (x3 : Int32) (S : Mem) (h : f_Mn_number_b32  x3 S = some z) : G X V 4 (QI X V z.1 z.2) 32 [some (.ref (V.2.2.1 3 0)), none, none, some (.int x3)] [] S := by
  unfold f_Mn_number_b32 at h
  refine g_aload_n (pc := 32) hC (i := 0) (x := (V.2.2.1 3 0)) rfl rfl d_Mn_number_32 ?_
  refine g_dup (pc := 33) hC rfl d_Mn_number_33 ?_
  refine g_getI (pc := 34) hC fo_Mn_18 (ob_Mn hV) rfl d_Mn_number_34 ?_
  refine g_iconst (pc := 37) hC kc_1 d_Mn_number_37 ?_
  refine g_iadd (pc := 38) hC d_Mn_number_38 ?_
  refine g_putI (pc := 39) hC po_Mn_18 (ob_Mn hV) rfl rfl rfl d_Mn_number_39 ?_
  refine g_letS h (fun S39 h => ?_)
  refine g_iload_n (pc := 42) hC (i := 3) (x := x3) rfl rfl d_Mn_number_42 ?_
  exact g_iW (pc := 43) hC rfl d_Mn_number_43 h
set_option maxRecDepth 20000 in
theorem w_Mn_number_b23 {X : CX} {V : WV} (hV : IsC V) {z : Int32 × Mem} (hC : Ck X V bc_Mn_number 4 "SecretWells$Meaning" (some .int) 2 43) (x3 : Int32) (S : Mem) (h : f_Mn_number_b23  x3 S = some z) : G X V 4 (QI X V z.1 z.2) 23 [some (.ref (V.2.2.1 3 0)), none, none, some (.int x3)] [] S := by
  unfold f_Mn_number_b23 at h
  refine g_aload_n (pc := 23) hC (i := 0) (x := (V.2.2.1 3 0)) rfl rfl d_Mn_number_23 ?_
  refine g_iconst (pc := 24) hC kc_5 d_Mn_number_24 ?_
  refine g_aload_n (pc := 25) hC (i := 0) (x := (V.2.2.1 3 0)) rfl rfl d_Mn_number_25 ?_
  refine g_getI (pc := 26) hC fo_Mn_18 (ob_Mn hV) rfl d_Mn_number_26 ?_
  obtain ⟨q29, hq29, h⟩ := Option.bind_eq_some_iff.mp h
  refine g_vv (pc := 29) hC (As := [.int 5, .int (S.1 3 3)]) (st := []) mt_Mn_failed lk_Mn_140 rfl (ob_Mn hV) (Nat.le_of_ble_eq_true rfl) ⟨Nat.le_of_ble_eq_true rfl, Nat.le_of_ble_eq_true rfl⟩ rfl d_Mn_number_29 (c_Mn_failed hV hq29) ?_
  exact w_Mn_number_b32 hV hC x3 q29 h
set_option maxRecDepth 20000 in
theorem w_Mn_number_b0 {X : CX} {V : WV} (hV : IsC V) {z : Int32 × Mem} (hC : Ck X V bc_Mn_number 4 "SecretWells$Meaning" (some .int) 2 43) (x1 : Int32) (x2 : Int32) (S : Mem) (h : f_Mn_number_b0  x1 x2 S = some z) : G X V 4 (QI X V z.1 z.2) 0 [some (.ref (V.2.2.1 3 0)), some (.int x1), some (.int x2), none] [] S := by
  unfold f_Mn_number_b0 at h
  refine g_aload_n (pc := 0) hC (i := 0) (x := (V.2.2.1 3 0)) rfl rfl d_Mn_number_0 ?_
  refine g_getC (pc := 1) hC (j := 1) fo_Mn_31 (ob_Mn hV) rfl d_Mn_number_1 ?_
  refine g_aload_n (pc := 4) hC (i := 0) (x := (V.2.2.1 3 0)) rfl rfl d_Mn_number_4 ?_
  refine g_getI (pc := 5) hC fo_Mn_18 (ob_Mn hV) rfl d_Mn_number_5 ?_
  obtain ⟨q8, hq8, h⟩ := Option.bind_eq_some_iff.mp h
  refine g_vl (pc := 8) hC (As := [.int (S.1 3 3)]) (st := []) mt_Tp_valueAt lk_Mn_158 rfl (ob_Tp hV) (Nat.le_of_ble_eq_true rfl) ⟨Nat.le_of_ble_eq_true rfl, Nat.le_of_ble_eq_true rfl⟩ rfl d_Mn_number_8 (c_Tp_valueAt hV hq8) ?_
  refine g_l2i (pc := 11) hC d_Mn_number_11 ?_
  refine g_leti h (fun y12 h => ?_)
  refine s_istore_n (pc := 12) hC (i := 3) rfl (by decide) d_Mn_number_12 (lv2 := [some (.ref (V.2.2.1 3 0)), some (.int x1), some (.int x2), some (.int y12)]) rfl ?_
  refine g_iload_n (pc := 13) hC (i := 3) (x := y12) rfl rfl d_Mn_number_13 ?_
  refine g_iload_n (pc := 14) hC (i := 1) (x := x1) rfl rfl d_Mn_number_14 ?_
  refine g_icmp_lt (pc := 15) hC (tgt := 23) (by decide) d_Mn_number_15 h (fun h => ?_) (fun h => ?_)
  · refine g_le (lv2 := [some (.ref (V.2.2.1 3 0)), none, none, some (.int y12)]) (⟨rfl, ⟨rfl, trivial⟩⟩) ?_
    exact w_Mn_number_b23 hV hC y12 S h
  · refine g_iload_n (pc := 18) hC (i := 3) (x := y12) rfl rfl d_Mn_number_18 ?_
    refine g_iload_n (pc := 19) hC (i := 2) (x := x2) rfl rfl d_Mn_number_19 ?_
    refine g_icmp_le (pc := 20) hC (tgt := 32) (by decide) d_Mn_number_20 h (fun h => ?_) (fun h => ?_)
    · refine g_le (lv2 := [some (.ref (V.2.2.1 3 0)), none, none, some (.int y12)]) (⟨rfl, ⟨rfl, trivial⟩⟩) ?_
      exact w_Mn_number_b32 hV hC y12 S h
    · refine g_le (lv2 := [some (.ref (V.2.2.1 3 0)), none, none, some (.int y12)]) (⟨rfl, ⟨rfl, trivial⟩⟩) ?_
      exact w_Mn_number_b23 hV hC y12 S h
theorem c_Mn_number {V : WV} {l : Launch} (hV : IsC V) {x1 : Int32} {x2 : Int32} {S : Mem} {z : Int32 × Mem} (h : f_Mn_number x1 x2 S = some z) : CI V l y_Mn_number bc_Mn_number 4 (some .int) 2 43 [.ref (V.2.2.1 3 0), .int x1, .int x2] S z.1 z.2 :=
  ct_i rfl (IsC.ok hV) (Nat.le_of_ble_eq_true rfl) (fun _ _ hC => w_Mn_number_b0 hV hC x1 x2 S h)
def f_Mn_putWell_b0 (tx : Nat) (S : Mem) : Option (Mem) :=
  letS (S.1 tx 0) (fun y4 =>
  if y4 < 4 then
    Option.bind (f_Mn_newName tx S) (fun q18 =>
    gIn y4 4 (letS (sL q18.2 3 4 y4 q18.1) (fun S21 =>
    letS (pI S21 tx 0 ((S21.1 tx 0) + 1)) (fun S29 =>
    Option.bind (f_Mn_number 0 999 S29) (fun q42 =>
    gIn y4 4 (letS (sA q42.2 tx 8 y4 q42.1) (fun S45 =>
    Option.bind (f_Mn_number 0 999 S45) (fun q56 =>
    gIn y4 4 (letS (sA q56.2 tx 9 y4 q56.1) (fun S59 =>
    some S59))))))))))
  else
    some S)
def f_Mn_putWell (tx : Nat) (S : Mem) : Option (Mem) := f_Mn_putWell_b0 tx S
theorem d_Mn_putWell_0 : decode bc_Mn_putWell 0 = .ok (.aload_n 1, 1) := by decide +kernel
theorem d_Mn_putWell_1 : decode bc_Mn_putWell 1 = .ok (.getfield 92, 3) := by decide +kernel
theorem d_Mn_putWell_4 : decode bc_Mn_putWell 4 = .ok (.istore_n 2, 1) := by decide +kernel
theorem d_Mn_putWell_5 : decode bc_Mn_putWell 5 = .ok (.iload_n 2, 1) := by decide +kernel
theorem d_Mn_putWell_6 : decode bc_Mn_putWell 6 = .ok (.iconst 4, 1) := by decide +kernel
theorem d_Mn_putWell_7 : decode bc_Mn_putWell 7 = .ok (.if_icmp .lt 4, 3) := by decide +kernel
theorem d_Mn_putWell_10 : decode bc_Mn_putWell 10 = .ok (.return_, 1) := by decide +kernel
theorem d_Mn_putWell_11 : decode bc_Mn_putWell 11 = .ok (.aload_n 0, 1) := by decide +kernel
theorem d_Mn_putWell_12 : decode bc_Mn_putWell 12 = .ok (.getfield 21, 3) := by decide +kernel
theorem d_Mn_putWell_15 : decode bc_Mn_putWell 15 = .ok (.iload_n 2, 1) := by decide +kernel
theorem d_Mn_putWell_16 : decode bc_Mn_putWell 16 = .ok (.aload_n 0, 1) := by decide +kernel
theorem d_Mn_putWell_17 : decode bc_Mn_putWell 17 = .ok (.aload_n 1, 1) := by decide +kernel
theorem d_Mn_putWell_18 : decode bc_Mn_putWell 18 = .ok (.invokevirtual 95, 3) := by decide +kernel
theorem d_Mn_putWell_21 : decode bc_Mn_putWell 21 = .ok (.lastore, 1) := by decide +kernel
theorem d_Mn_putWell_22 : decode bc_Mn_putWell 22 = .ok (.aload_n 1, 1) := by decide +kernel
theorem d_Mn_putWell_23 : decode bc_Mn_putWell 23 = .ok (.dup, 1) := by decide +kernel
theorem d_Mn_putWell_24 : decode bc_Mn_putWell 24 = .ok (.getfield 92, 3) := by decide +kernel
theorem d_Mn_putWell_27 : decode bc_Mn_putWell 27 = .ok (.iconst 1, 1) := by decide +kernel
theorem d_Mn_putWell_28 : decode bc_Mn_putWell 28 = .ok (.iadd, 1) := by decide +kernel
theorem d_Mn_putWell_29 : decode bc_Mn_putWell 29 = .ok (.putfield 92, 3) := by decide +kernel
theorem d_Mn_putWell_32 : decode bc_Mn_putWell 32 = .ok (.aload_n 1, 1) := by decide +kernel
theorem d_Mn_putWell_33 : decode bc_Mn_putWell 33 = .ok (.getfield 99, 3) := by decide +kernel
theorem d_Mn_putWell_36 : decode bc_Mn_putWell 36 = .ok (.iload_n 2, 1) := by decide +kernel
theorem d_Mn_putWell_37 : decode bc_Mn_putWell 37 = .ok (.aload_n 0, 1) := by decide +kernel
theorem d_Mn_putWell_38 : decode bc_Mn_putWell 38 = .ok (.iconst 0, 1) := by decide +kernel
theorem d_Mn_putWell_39 : decode bc_Mn_putWell 39 = .ok (.sipush 999, 3) := by decide +kernel
theorem d_Mn_putWell_42 : decode bc_Mn_putWell 42 = .ok (.invokevirtual 79, 3) := by decide +kernel
theorem d_Mn_putWell_45 : decode bc_Mn_putWell 45 = .ok (.iastore, 1) := by decide +kernel
theorem d_Mn_putWell_46 : decode bc_Mn_putWell 46 = .ok (.aload_n 1, 1) := by decide +kernel
theorem d_Mn_putWell_47 : decode bc_Mn_putWell 47 = .ok (.getfield 103, 3) := by decide +kernel
theorem d_Mn_putWell_50 : decode bc_Mn_putWell 50 = .ok (.iload_n 2, 1) := by decide +kernel
theorem d_Mn_putWell_51 : decode bc_Mn_putWell 51 = .ok (.aload_n 0, 1) := by decide +kernel
theorem d_Mn_putWell_52 : decode bc_Mn_putWell 52 = .ok (.iconst 0, 1) := by decide +kernel
theorem d_Mn_putWell_53 : decode bc_Mn_putWell 53 = .ok (.sipush 999, 3) := by decide +kernel
theorem d_Mn_putWell_56 : decode bc_Mn_putWell 56 = .ok (.invokevirtual 79, 3) := by decide +kernel
theorem d_Mn_putWell_59 : decode bc_Mn_putWell 59 = .ok (.iastore, 1) := by decide +kernel
theorem d_Mn_putWell_60 : decode bc_Mn_putWell 60 = .ok (.return_, 1) := by decide +kernel
set_option maxRecDepth 20000 in
theorem w_Mn_putWell_b0 {X : CX} {V : WV} {tx : Nat} (hV : IsC V) (htx : isTx tx) {z : Mem} (hC : Ck X V bc_Mn_putWell 3 "SecretWells$Meaning" none 3 70) (S : Mem) (h : f_Mn_putWell_b0 tx S = some z) : G X V 3 (QV X V z) 0 [some (.ref (V.2.2.1 3 0)), some (.ref (V.2.2.1 tx 0)), none] [] S := by
  unfold f_Mn_putWell_b0 at h
  refine g_aload_n (pc := 0) hC (i := 1) (x := (V.2.2.1 tx 0)) rfl rfl d_Mn_putWell_0 ?_
  refine g_getI (pc := 1) hC fo_Mn_92 (ob_Tx hV htx) rfl d_Mn_putWell_1 ?_
  refine g_leti h (fun y4 h => ?_)
  refine s_istore_n (pc := 4) hC (i := 2) rfl (by decide) d_Mn_putWell_4 (lv2 := [some (.ref (V.2.2.1 3 0)), some (.ref (V.2.2.1 tx 0)), some (.int y4)]) rfl ?_
  refine g_iload_n (pc := 5) hC (i := 2) (x := y4) rfl rfl d_Mn_putWell_5 ?_
  refine g_iconst (pc := 6) hC kc_4 d_Mn_putWell_6 ?_
  refine g_icmp_lt (pc := 7) hC (tgt := 11) (by decide) d_Mn_putWell_7 h (fun h => ?_) (fun h => ?_)
  · refine g_aload_n (pc := 11) hC (i := 0) (x := (V.2.2.1 3 0)) rfl rfl d_Mn_putWell_11 ?_
    refine g_getA (pc := 12) hC fo_Mn_21 (ob_Mn hV) rfl d_Mn_putWell_12 ?_
    refine g_iload_n (pc := 15) hC (i := 2) (x := y4) rfl rfl d_Mn_putWell_15 ?_
    refine g_aload_n (pc := 16) hC (i := 0) (x := (V.2.2.1 3 0)) rfl rfl d_Mn_putWell_16 ?_
    refine g_aload_n (pc := 17) hC (i := 1) (x := (V.2.2.1 tx 0)) rfl rfl d_Mn_putWell_17 ?_
    obtain ⟨q18, hq18, h⟩ := Option.bind_eq_some_iff.mp h
    refine g_vl (pc := 18) hC (As := [.ref (V.2.2.1 tx 0)]) (st := [.int y4, .ref (V.2.2.1 3 (4 + 1))]) mt_Mn_newName lk_Mn_95 rfl (ob_Mn hV) (Nat.le_of_ble_eq_true rfl) ⟨Nat.le_of_ble_eq_true rfl, Nat.le_of_ble_eq_true rfl⟩ rfl d_Mn_putWell_18 (c_Mn_newName hV htx hq18) ?_
    refine g_last (pc := 21) hC (ar_Mn_4 hV) d_Mn_putWell_21 h (fun h => ?_)
    refine g_letS h (fun S21 h => ?_)
    refine g_aload_n (pc := 22) hC (i := 1) (x := (V.2.2.1 tx 0)) rfl rfl d_Mn_putWell_22 ?_
    refine g_dup (pc := 23) hC rfl d_Mn_putWell_23 ?_
    refine g_getI (pc := 24) hC fo_Mn_92 (ob_Tx hV htx) rfl d_Mn_putWell_24 ?_
    refine g_iconst (pc := 27) hC kc_1 d_Mn_putWell_27 ?_
    refine g_iadd (pc := 28) hC d_Mn_putWell_28 ?_
    refine g_putI (pc := 29) hC po_Mn_92 (ob_Tx hV htx) rfl rfl rfl d_Mn_putWell_29 ?_
    refine g_letS h (fun S29 h => ?_)
    refine g_aload_n (pc := 32) hC (i := 1) (x := (V.2.2.1 tx 0)) rfl rfl d_Mn_putWell_32 ?_
    refine g_getA (pc := 33) hC fo_Mn_99 (ob_Tx hV htx) rfl d_Mn_putWell_33 ?_
    refine g_iload_n (pc := 36) hC (i := 2) (x := y4) rfl rfl d_Mn_putWell_36 ?_
    refine g_aload_n (pc := 37) hC (i := 0) (x := (V.2.2.1 3 0)) rfl rfl d_Mn_putWell_37 ?_
    refine g_iconst (pc := 38) hC kc_0 d_Mn_putWell_38 ?_
    refine g_sipush (pc := 39) hC ks_999 d_Mn_putWell_39 ?_
    obtain ⟨q42, hq42, h⟩ := Option.bind_eq_some_iff.mp h
    refine g_vi (pc := 42) hC (As := [.int 0, .int 999]) (st := [.int y4, .ref (V.2.2.1 tx (8 + 1))]) mt_Mn_number lk_Mn_79 rfl (ob_Mn hV) (Nat.le_of_ble_eq_true rfl) ⟨Nat.le_of_ble_eq_true rfl, Nat.le_of_ble_eq_true rfl⟩ rfl d_Mn_putWell_42 (c_Mn_number hV hq42) ?_
    refine g_iast (pc := 45) hC (ar_Tx_8 hV htx) d_Mn_putWell_45 h (fun h => ?_)
    refine g_letS h (fun S45 h => ?_)
    refine g_aload_n (pc := 46) hC (i := 1) (x := (V.2.2.1 tx 0)) rfl rfl d_Mn_putWell_46 ?_
    refine g_getA (pc := 47) hC fo_Mn_103 (ob_Tx hV htx) rfl d_Mn_putWell_47 ?_
    refine g_iload_n (pc := 50) hC (i := 2) (x := y4) rfl rfl d_Mn_putWell_50 ?_
    refine g_aload_n (pc := 51) hC (i := 0) (x := (V.2.2.1 3 0)) rfl rfl d_Mn_putWell_51 ?_
    refine g_iconst (pc := 52) hC kc_0 d_Mn_putWell_52 ?_
    refine g_sipush (pc := 53) hC ks_999 d_Mn_putWell_53 ?_
    obtain ⟨q56, hq56, h⟩ := Option.bind_eq_some_iff.mp h
    refine g_vi (pc := 56) hC (As := [.int 0, .int 999]) (st := [.int y4, .ref (V.2.2.1 tx (9 + 1))]) mt_Mn_number lk_Mn_79 rfl (ob_Mn hV) (Nat.le_of_ble_eq_true rfl) ⟨Nat.le_of_ble_eq_true rfl, Nat.le_of_ble_eq_true rfl⟩ rfl d_Mn_putWell_56 (c_Mn_number hV hq56) ?_
    refine g_iast (pc := 59) hC (ar_Tx_9 hV htx) d_Mn_putWell_59 h (fun h => ?_)
    refine g_letS h (fun S59 h => ?_)
    exact g_vW (pc := 60) hC d_Mn_putWell_60 h
  · exact g_vW (pc := 10) hC d_Mn_putWell_10 h
theorem c_Mn_putWell {V : WV} {l : Launch} (hV : IsC V) {tx : Nat} (htx : isTx tx) {S : Mem} {z : Mem} (h : f_Mn_putWell tx S = some z) : CV V l y_Mn_putWell bc_Mn_putWell 3 none 3 70 [.ref (V.2.2.1 3 0), .ref (V.2.2.1 tx 0)] S z :=
  ct_v rfl (IsC.ok hV) (Nat.le_of_ble_eq_true rfl) (fun _ _ hC => w_Mn_putWell_b0 hV htx hC S h)
def f_Mn_oldName_b30 (nf : Nat) (x3 : Int32) (S : Mem) : Option (Int32 × Mem) :=
  letS (pI S 3 3 ((S.1 3 3) + 1)) (fun S37 =>
  some (x3, S37))
def f_Mn_oldName_b0 (nf : Nat) (x2 : Int32) (S : Mem) : Option (Int32 × Mem) :=
  Option.bind (f_Tp_valueAt (S.1 3 3) S) (fun q10 =>
  Option.bind (f_Mn_find nf x2 q10 S) (fun q13 =>
  if 0 ≤ q13 then
    f_Mn_oldName_b30 nf q13 S
  else
    Option.bind (f_Mn_failed 4 (S.1 3 3) S) (fun q27 =>
    f_Mn_oldName_b30 nf q13 q27)))
def f_Mn_oldName (nf : Nat) (x2 : Int32) (S : Mem) : Option (Int32 × Mem) := f_Mn_oldName_b0 nf x2 S
theorem d_Mn_oldName_0 : decode bc_Mn_oldName 0 = .ok (.aload_n 1, 1) := by decide +kernel
theorem d_Mn_oldName_1 : decode bc_Mn_oldName 1 = .ok (.iload_n 2, 1) := by decide +kernel
theorem d_Mn_oldName_2 : decode bc_Mn_oldName 2 = .ok (.aload_n 0, 1) := by decide +kernel
theorem d_Mn_oldName_3 : decode bc_Mn_oldName 3 = .ok (.getfield 31, 3) := by decide +kernel
theorem d_Mn_oldName_6 : decode bc_Mn_oldName 6 = .ok (.aload_n 0, 1) := by decide +kernel
theorem d_Mn_oldName_7 : decode bc_Mn_oldName 7 = .ok (.getfield 18, 3) := by decide +kernel
theorem d_Mn_oldName_10 : decode bc_Mn_oldName 10 = .ok (.invokevirtual 158, 3) := by decide +kernel
theorem d_Mn_oldName_13 : decode bc_Mn_oldName 13 = .ok (.invokestatic 172, 3) := by decide +kernel
theorem d_Mn_oldName_16 : decode bc_Mn_oldName 16 = .ok (.istore_n 3, 1) := by decide +kernel
theorem d_Mn_oldName_17 : decode bc_Mn_oldName 17 = .ok (.iload_n 3, 1) := by decide +kernel
theorem d_Mn_oldName_18 : decode bc_Mn_oldName 18 = .ok (.ifCond .ge 12, 3) := by decide +kernel
theorem d_Mn_oldName_21 : decode bc_Mn_oldName 21 = .ok (.aload_n 0, 1) := by decide +kernel
theorem d_Mn_oldName_22 : decode bc_Mn_oldName 22 = .ok (.iconst 4, 1) := by decide +kernel
theorem d_Mn_oldName_23 : decode bc_Mn_oldName 23 = .ok (.aload_n 0, 1) := by decide +kernel
theorem d_Mn_oldName_24 : decode bc_Mn_oldName 24 = .ok (.getfield 18, 3) := by decide +kernel
theorem d_Mn_oldName_27 : decode bc_Mn_oldName 27 = .ok (.invokevirtual 140, 3) := by decide +kernel
theorem d_Mn_oldName_30 : decode bc_Mn_oldName 30 = .ok (.aload_n 0, 1) := by decide +kernel
theorem d_Mn_oldName_31 : decode bc_Mn_oldName 31 = .ok (.dup, 1) := by decide +kernel
theorem d_Mn_oldName_32 : decode bc_Mn_oldName 32 = .ok (.getfield 18, 3) := by decide +kernel
theorem d_Mn_oldName_35 : decode bc_Mn_oldName 35 = .ok (.iconst 1, 1) := by decide +kernel
theorem d_Mn_oldName_36 : decode bc_Mn_oldName 36 = .ok (.iadd, 1) := by decide +kernel
theorem d_Mn_oldName_37 : decode bc_Mn_oldName 37 = .ok (.putfield 18, 3) := by decide +kernel
theorem d_Mn_oldName_40 : decode bc_Mn_oldName 40 = .ok (.iload_n 3, 1) := by decide +kernel
theorem d_Mn_oldName_41 : decode bc_Mn_oldName 41 = .ok (.ireturn, 1) := by decide +kernel
set_option maxRecDepth 20000 in
theorem w_Mn_oldName_b30 {X : CX} {V : WV} {nf : Nat} (hV : IsC V) (hnf : isNm nf) {z : Int32 × Mem} (hC : Ck X V bc_Mn_oldName 4 "SecretWells$Meaning" (some .int) 2 43) (x3 : Int32) (S : Mem) (h : f_Mn_oldName_b30 nf x3 S = some z) : G X V 4 (QI X V z.1 z.2) 30 [some (.ref (V.2.2.1 3 0)), some (.ref (V.2.2.1 3 (nf + 1))), none, some (.int x3)] [] S := by
  unfold f_Mn_oldName_b30 at h
  refine g_aload_n (pc := 30) hC (i := 0) (x := (V.2.2.1 3 0)) rfl rfl d_Mn_oldName_30 ?_
  refine g_dup (pc := 31) hC rfl d_Mn_oldName_31 ?_
  refine g_getI (pc := 32) hC fo_Mn_18 (ob_Mn hV) rfl d_Mn_oldName_32 ?_
  refine g_iconst (pc := 35) hC kc_1 d_Mn_oldName_35 ?_
  refine g_iadd (pc := 36) hC d_Mn_oldName_36 ?_
  refine g_putI (pc := 37) hC po_Mn_18 (ob_Mn hV) rfl rfl rfl d_Mn_oldName_37 ?_
  refine g_letS h (fun S37 h => ?_)
  refine g_iload_n (pc := 40) hC (i := 3) (x := x3) rfl rfl d_Mn_oldName_40 ?_
  exact g_iW (pc := 41) hC rfl d_Mn_oldName_41 h
set_option maxRecDepth 20000 in
theorem w_Mn_oldName_b0 {X : CX} {V : WV} {nf : Nat} (hV : IsC V) (hnf : isNm nf) {z : Int32 × Mem} (hC : Ck X V bc_Mn_oldName 4 "SecretWells$Meaning" (some .int) 2 43) (x2 : Int32) (S : Mem) (h : f_Mn_oldName_b0 nf x2 S = some z) : G X V 4 (QI X V z.1 z.2) 0 [some (.ref (V.2.2.1 3 0)), some (.ref (V.2.2.1 3 (nf + 1))), some (.int x2), none] [] S := by
  unfold f_Mn_oldName_b0 at h
  refine g_aload_n (pc := 0) hC (i := 1) (x := (V.2.2.1 3 (nf + 1))) rfl rfl d_Mn_oldName_0 ?_
  refine g_iload_n (pc := 1) hC (i := 2) (x := x2) rfl rfl d_Mn_oldName_1 ?_
  refine g_aload_n (pc := 2) hC (i := 0) (x := (V.2.2.1 3 0)) rfl rfl d_Mn_oldName_2 ?_
  refine g_getC (pc := 3) hC (j := 1) fo_Mn_31 (ob_Mn hV) rfl d_Mn_oldName_3 ?_
  refine g_aload_n (pc := 6) hC (i := 0) (x := (V.2.2.1 3 0)) rfl rfl d_Mn_oldName_6 ?_
  refine g_getI (pc := 7) hC fo_Mn_18 (ob_Mn hV) rfl d_Mn_oldName_7 ?_
  obtain ⟨q10, hq10, h⟩ := Option.bind_eq_some_iff.mp h
  refine g_vl (pc := 10) hC (As := [.int (S.1 3 3)]) (st := [.int x2, .ref (V.2.2.1 3 (nf + 1))]) mt_Tp_valueAt lk_Mn_158 rfl (ob_Tp hV) (Nat.le_of_ble_eq_true rfl) ⟨Nat.le_of_ble_eq_true rfl, Nat.le_of_ble_eq_true rfl⟩ rfl d_Mn_oldName_10 (c_Tp_valueAt hV hq10) ?_
  obtain ⟨q13, hq13, h⟩ := Option.bind_eq_some_iff.mp h
  refine g_si (pc := 13) hC (As := [.ref (V.2.2.1 3 (nf + 1)), .int x2, .long q10]) (st := []) mt_Mn_find lk_Mn_172 (Nat.le_of_ble_eq_true rfl) ⟨Nat.le_of_ble_eq_true rfl, Nat.le_of_ble_eq_true rfl⟩ rfl d_Mn_oldName_13 (c_Mn_find hV hnf hq13) ?_
  refine s_istore_n (pc := 16) hC (i := 3) rfl (by decide) d_Mn_oldName_16 (lv2 := [some (.ref (V.2.2.1 3 0)), some (.ref (V.2.2.1 3 (nf + 1))), some (.int x2), some (.int q13)]) rfl ?_
  refine g_iload_n (pc := 17) hC (i := 3) (x := q13) rfl rfl d_Mn_oldName_17 ?_
  refine g_if_ge (pc := 18) hC (tgt := 30) (by decide) d_Mn_oldName_18 h (fun h => ?_) (fun h => ?_)
  · refine g_le (lv2 := [some (.ref (V.2.2.1 3 0)), some (.ref (V.2.2.1 3 (nf + 1))), none, some (.int q13)]) (⟨rfl, ⟨rfl, ⟨rfl, trivial⟩⟩⟩) ?_
    exact w_Mn_oldName_b30 hV hnf hC q13 S h
  · refine g_aload_n (pc := 21) hC (i := 0) (x := (V.2.2.1 3 0)) rfl rfl d_Mn_oldName_21 ?_
    refine g_iconst (pc := 22) hC kc_4 d_Mn_oldName_22 ?_
    refine g_aload_n (pc := 23) hC (i := 0) (x := (V.2.2.1 3 0)) rfl rfl d_Mn_oldName_23 ?_
    refine g_getI (pc := 24) hC fo_Mn_18 (ob_Mn hV) rfl d_Mn_oldName_24 ?_
    obtain ⟨q27, hq27, h⟩ := Option.bind_eq_some_iff.mp h
    refine g_vv (pc := 27) hC (As := [.int 4, .int (S.1 3 3)]) (st := []) mt_Mn_failed lk_Mn_140 rfl (ob_Mn hV) (Nat.le_of_ble_eq_true rfl) ⟨Nat.le_of_ble_eq_true rfl, Nat.le_of_ble_eq_true rfl⟩ rfl d_Mn_oldName_27 (c_Mn_failed hV hq27) ?_
    refine g_le (lv2 := [some (.ref (V.2.2.1 3 0)), some (.ref (V.2.2.1 3 (nf + 1))), none, some (.int q13)]) (⟨rfl, ⟨rfl, ⟨rfl, trivial⟩⟩⟩) ?_
    exact w_Mn_oldName_b30 hV hnf hC q13 q27 h
theorem c_Mn_oldName {V : WV} {l : Launch} (hV : IsC V) {nf : Nat} (hnf : isNm nf) {x2 : Int32} {S : Mem} {z : Int32 × Mem} (h : f_Mn_oldName nf x2 S = some z) : CI V l y_Mn_oldName bc_Mn_oldName 4 (some .int) 2 43 [.ref (V.2.2.1 3 0), .ref (V.2.2.1 3 (nf + 1)), .int x2] S z.1 z.2 :=
  ct_i rfl (IsC.ok hV) (Nat.le_of_ble_eq_true rfl) (fun _ _ hC => w_Mn_oldName_b0 hV hnf hC x2 S h)
def f_Mn_putMan_b0 (tx : Nat) (S : Mem) : Option (Mem) :=
  letS (S.1 tx 1) (fun y4 =>
  if y4 < 7 then
    Option.bind (f_Mn_newName tx S) (fun q19 =>
    gIn y4 7 (letS (sL q19.2 3 5 y4 q19.1) (fun S22 =>
    letS (pI S22 tx 1 ((S22.1 tx 1) + 1)) (fun S30 =>
    Option.bind (f_Mn_oldName 4 (S30.1 tx 0) S30) (fun q48 =>
    gIn y4 7 (letS (sA q48.2 tx 10 y4 (jMmax 0 q48.1)) (fun S54 =>
    Option.bind (f_Mn_number 0 99 S54) (fun q64 =>
    gIn y4 7 (letS (sA q64.2 tx 11 y4 q64.1) (fun S67 =>
    some S67))))))))))
  else
    some S)
def f_Mn_putMan (tx : Nat) (S : Mem) : Option (Mem) := f_Mn_putMan_b0 tx S
theorem d_Mn_putMan_0 : decode bc_Mn_putMan 0 = .ok (.aload_n 1, 1) := by decide +kernel
theorem d_Mn_putMan_1 : decode bc_Mn_putMan 1 = .ok (.getfield 106, 3) := by decide +kernel
theorem d_Mn_putMan_4 : decode bc_Mn_putMan 4 = .ok (.istore_n 2, 1) := by decide +kernel
theorem d_Mn_putMan_5 : decode bc_Mn_putMan 5 = .ok (.iload_n 2, 1) := by decide +kernel
theorem d_Mn_putMan_6 : decode bc_Mn_putMan 6 = .ok (.bipush 7, 2) := by decide +kernel
theorem d_Mn_putMan_8 : decode bc_Mn_putMan 8 = .ok (.if_icmp .lt 4, 3) := by decide +kernel
theorem d_Mn_putMan_11 : decode bc_Mn_putMan 11 = .ok (.return_, 1) := by decide +kernel
theorem d_Mn_putMan_12 : decode bc_Mn_putMan 12 = .ok (.aload_n 0, 1) := by decide +kernel
theorem d_Mn_putMan_13 : decode bc_Mn_putMan 13 = .ok (.getfield 25, 3) := by decide +kernel
theorem d_Mn_putMan_16 : decode bc_Mn_putMan 16 = .ok (.iload_n 2, 1) := by decide +kernel
theorem d_Mn_putMan_17 : decode bc_Mn_putMan 17 = .ok (.aload_n 0, 1) := by decide +kernel
theorem d_Mn_putMan_18 : decode bc_Mn_putMan 18 = .ok (.aload_n 1, 1) := by decide +kernel
theorem d_Mn_putMan_19 : decode bc_Mn_putMan 19 = .ok (.invokevirtual 95, 3) := by decide +kernel
theorem d_Mn_putMan_22 : decode bc_Mn_putMan 22 = .ok (.lastore, 1) := by decide +kernel
theorem d_Mn_putMan_23 : decode bc_Mn_putMan 23 = .ok (.aload_n 1, 1) := by decide +kernel
theorem d_Mn_putMan_24 : decode bc_Mn_putMan 24 = .ok (.dup, 1) := by decide +kernel
theorem d_Mn_putMan_25 : decode bc_Mn_putMan 25 = .ok (.getfield 106, 3) := by decide +kernel
theorem d_Mn_putMan_28 : decode bc_Mn_putMan 28 = .ok (.iconst 1, 1) := by decide +kernel
theorem d_Mn_putMan_29 : decode bc_Mn_putMan 29 = .ok (.iadd, 1) := by decide +kernel
theorem d_Mn_putMan_30 : decode bc_Mn_putMan 30 = .ok (.putfield 106, 3) := by decide +kernel
theorem d_Mn_putMan_33 : decode bc_Mn_putMan 33 = .ok (.aload_n 1, 1) := by decide +kernel
theorem d_Mn_putMan_34 : decode bc_Mn_putMan 34 = .ok (.getfield 109, 3) := by decide +kernel
theorem d_Mn_putMan_37 : decode bc_Mn_putMan 37 = .ok (.iload_n 2, 1) := by decide +kernel
theorem d_Mn_putMan_38 : decode bc_Mn_putMan 38 = .ok (.iconst 0, 1) := by decide +kernel
theorem d_Mn_putMan_39 : decode bc_Mn_putMan 39 = .ok (.aload_n 0, 1) := by decide +kernel
theorem d_Mn_putMan_40 : decode bc_Mn_putMan 40 = .ok (.aload_n 0, 1) := by decide +kernel
theorem d_Mn_putMan_41 : decode bc_Mn_putMan 41 = .ok (.getfield 21, 3) := by decide +kernel
theorem d_Mn_putMan_44 : decode bc_Mn_putMan 44 = .ok (.aload_n 1, 1) := by decide +kernel
theorem d_Mn_putMan_45 : decode bc_Mn_putMan 45 = .ok (.getfield 92, 3) := by decide +kernel
theorem d_Mn_putMan_48 : decode bc_Mn_putMan 48 = .ok (.invokevirtual 112, 3) := by decide +kernel
theorem d_Mn_putMan_51 : decode bc_Mn_putMan 51 = .ok (.invokestatic 116, 3) := by decide +kernel
theorem d_Mn_putMan_54 : decode bc_Mn_putMan 54 = .ok (.iastore, 1) := by decide +kernel
theorem d_Mn_putMan_55 : decode bc_Mn_putMan 55 = .ok (.aload_n 1, 1) := by decide +kernel
theorem d_Mn_putMan_56 : decode bc_Mn_putMan 56 = .ok (.getfield 121, 3) := by decide +kernel
theorem d_Mn_putMan_59 : decode bc_Mn_putMan 59 = .ok (.iload_n 2, 1) := by decide +kernel
theorem d_Mn_putMan_60 : decode bc_Mn_putMan 60 = .ok (.aload_n 0, 1) := by decide +kernel
theorem d_Mn_putMan_61 : decode bc_Mn_putMan 61 = .ok (.iconst 0, 1) := by decide +kernel
theorem d_Mn_putMan_62 : decode bc_Mn_putMan 62 = .ok (.bipush 99, 2) := by decide +kernel
theorem d_Mn_putMan_64 : decode bc_Mn_putMan 64 = .ok (.invokevirtual 79, 3) := by decide +kernel
theorem d_Mn_putMan_67 : decode bc_Mn_putMan 67 = .ok (.iastore, 1) := by decide +kernel
theorem d_Mn_putMan_68 : decode bc_Mn_putMan 68 = .ok (.return_, 1) := by decide +kernel
set_option maxRecDepth 20000 in
theorem w_Mn_putMan_b0 {X : CX} {V : WV} {tx : Nat} (hV : IsC V) (htx : isTx tx) {z : Mem} (hC : Ck X V bc_Mn_putMan 3 "SecretWells$Meaning" none 3 70) (S : Mem) (h : f_Mn_putMan_b0 tx S = some z) : G X V 3 (QV X V z) 0 [some (.ref (V.2.2.1 3 0)), some (.ref (V.2.2.1 tx 0)), none] [] S := by
  unfold f_Mn_putMan_b0 at h
  refine g_aload_n (pc := 0) hC (i := 1) (x := (V.2.2.1 tx 0)) rfl rfl d_Mn_putMan_0 ?_
  refine g_getI (pc := 1) hC fo_Mn_106 (ob_Tx hV htx) rfl d_Mn_putMan_1 ?_
  refine g_leti h (fun y4 h => ?_)
  refine s_istore_n (pc := 4) hC (i := 2) rfl (by decide) d_Mn_putMan_4 (lv2 := [some (.ref (V.2.2.1 3 0)), some (.ref (V.2.2.1 tx 0)), some (.int y4)]) rfl ?_
  refine g_iload_n (pc := 5) hC (i := 2) (x := y4) rfl rfl d_Mn_putMan_5 ?_
  refine g_bipush (pc := 6) hC kb_7 d_Mn_putMan_6 ?_
  refine g_icmp_lt (pc := 8) hC (tgt := 12) (by decide) d_Mn_putMan_8 h (fun h => ?_) (fun h => ?_)
  · refine g_aload_n (pc := 12) hC (i := 0) (x := (V.2.2.1 3 0)) rfl rfl d_Mn_putMan_12 ?_
    refine g_getA (pc := 13) hC fo_Mn_25 (ob_Mn hV) rfl d_Mn_putMan_13 ?_
    refine g_iload_n (pc := 16) hC (i := 2) (x := y4) rfl rfl d_Mn_putMan_16 ?_
    refine g_aload_n (pc := 17) hC (i := 0) (x := (V.2.2.1 3 0)) rfl rfl d_Mn_putMan_17 ?_
    refine g_aload_n (pc := 18) hC (i := 1) (x := (V.2.2.1 tx 0)) rfl rfl d_Mn_putMan_18 ?_
    obtain ⟨q19, hq19, h⟩ := Option.bind_eq_some_iff.mp h
    refine g_vl (pc := 19) hC (As := [.ref (V.2.2.1 tx 0)]) (st := [.int y4, .ref (V.2.2.1 3 (5 + 1))]) mt_Mn_newName lk_Mn_95 rfl (ob_Mn hV) (Nat.le_of_ble_eq_true rfl) ⟨Nat.le_of_ble_eq_true rfl, Nat.le_of_ble_eq_true rfl⟩ rfl d_Mn_putMan_19 (c_Mn_newName hV htx hq19) ?_
    refine g_last (pc := 22) hC (ar_Mn_5 hV) d_Mn_putMan_22 h (fun h => ?_)
    refine g_letS h (fun S22 h => ?_)
    refine g_aload_n (pc := 23) hC (i := 1) (x := (V.2.2.1 tx 0)) rfl rfl d_Mn_putMan_23 ?_
    refine g_dup (pc := 24) hC rfl d_Mn_putMan_24 ?_
    refine g_getI (pc := 25) hC fo_Mn_106 (ob_Tx hV htx) rfl d_Mn_putMan_25 ?_
    refine g_iconst (pc := 28) hC kc_1 d_Mn_putMan_28 ?_
    refine g_iadd (pc := 29) hC d_Mn_putMan_29 ?_
    refine g_putI (pc := 30) hC po_Mn_106 (ob_Tx hV htx) rfl rfl rfl d_Mn_putMan_30 ?_
    refine g_letS h (fun S30 h => ?_)
    refine g_aload_n (pc := 33) hC (i := 1) (x := (V.2.2.1 tx 0)) rfl rfl d_Mn_putMan_33 ?_
    refine g_getA (pc := 34) hC fo_Mn_109 (ob_Tx hV htx) rfl d_Mn_putMan_34 ?_
    refine g_iload_n (pc := 37) hC (i := 2) (x := y4) rfl rfl d_Mn_putMan_37 ?_
    refine g_iconst (pc := 38) hC kc_0 d_Mn_putMan_38 ?_
    refine g_aload_n (pc := 39) hC (i := 0) (x := (V.2.2.1 3 0)) rfl rfl d_Mn_putMan_39 ?_
    refine g_aload_n (pc := 40) hC (i := 0) (x := (V.2.2.1 3 0)) rfl rfl d_Mn_putMan_40 ?_
    refine g_getA (pc := 41) hC fo_Mn_21 (ob_Mn hV) rfl d_Mn_putMan_41 ?_
    refine g_aload_n (pc := 44) hC (i := 1) (x := (V.2.2.1 tx 0)) rfl rfl d_Mn_putMan_44 ?_
    refine g_getI (pc := 45) hC fo_Mn_92 (ob_Tx hV htx) rfl d_Mn_putMan_45 ?_
    obtain ⟨q48, hq48, h⟩ := Option.bind_eq_some_iff.mp h
    refine g_vi (pc := 48) hC (As := [.ref (V.2.2.1 3 (4 + 1)), .int (S30.1 tx 0)]) (st := [.int 0, .int y4, .ref (V.2.2.1 tx (10 + 1))]) mt_Mn_oldName lk_Mn_112 rfl (ob_Mn hV) (Nat.le_of_ble_eq_true rfl) ⟨Nat.le_of_ble_eq_true rfl, Nat.le_of_ble_eq_true rfl⟩ rfl d_Mn_putMan_48 (c_Mn_oldName hV (nm_4) hq48) ?_
    refine g_mmax (pc := 51) hC lk_Mn_116 (Nat.le_of_ble_eq_true rfl) ⟨Nat.le_of_ble_eq_true rfl, Nat.le_of_ble_eq_true rfl⟩ d_Mn_putMan_51 ?_
    refine g_iast (pc := 54) hC (ar_Tx_10 hV htx) d_Mn_putMan_54 h (fun h => ?_)
    refine g_letS h (fun S54 h => ?_)
    refine g_aload_n (pc := 55) hC (i := 1) (x := (V.2.2.1 tx 0)) rfl rfl d_Mn_putMan_55 ?_
    refine g_getA (pc := 56) hC fo_Mn_121 (ob_Tx hV htx) rfl d_Mn_putMan_56 ?_
    refine g_iload_n (pc := 59) hC (i := 2) (x := y4) rfl rfl d_Mn_putMan_59 ?_
    refine g_aload_n (pc := 60) hC (i := 0) (x := (V.2.2.1 3 0)) rfl rfl d_Mn_putMan_60 ?_
    refine g_iconst (pc := 61) hC kc_0 d_Mn_putMan_61 ?_
    refine g_bipush (pc := 62) hC kb_99 d_Mn_putMan_62 ?_
    obtain ⟨q64, hq64, h⟩ := Option.bind_eq_some_iff.mp h
    refine g_vi (pc := 64) hC (As := [.int 0, .int 99]) (st := [.int y4, .ref (V.2.2.1 tx (11 + 1))]) mt_Mn_number lk_Mn_79 rfl (ob_Mn hV) (Nat.le_of_ble_eq_true rfl) ⟨Nat.le_of_ble_eq_true rfl, Nat.le_of_ble_eq_true rfl⟩ rfl d_Mn_putMan_64 (c_Mn_number hV hq64) ?_
    refine g_iast (pc := 67) hC (ar_Tx_11 hV htx) d_Mn_putMan_67 h (fun h => ?_)
    refine g_letS h (fun S67 h => ?_)
    exact g_vW (pc := 68) hC d_Mn_putMan_68 h
  · exact g_vW (pc := 11) hC d_Mn_putMan_11 h
theorem c_Mn_putMan {V : WV} {l : Launch} (hV : IsC V) {tx : Nat} (htx : isTx tx) {S : Mem} {z : Mem} (h : f_Mn_putMan tx S = some z) : CV V l y_Mn_putMan bc_Mn_putMan 3 none 3 70 [.ref (V.2.2.1 3 0), .ref (V.2.2.1 tx 0)] S z :=
  ct_v rfl (IsC.ok hV) (Nat.le_of_ble_eq_true rfl) (fun _ _ hC => w_Mn_putMan_b0 hV htx hC S h)
def f_Mn_putKnower_b42 (tx : Nat) (x2 : Int32) (x3 : Int32) (S : Mem) : Option (Mem) :=
  gIn x3 7 (
  gIn x3 7 (letS (sA S tx 12 x3 ((S.2.1 tx 12 x3.toNatClampNeg) ||| ((1 : Int32) <<< (x2 &&& 31)))) (fun S53 =>
  some S53)))
def f_Mn_putKnower_b0 (tx : Nat) (x2 : Int32) (S : Mem) : Option (Mem) :=
  Option.bind (f_Mn_oldName 5 (S.1 tx 1) S) (fun q9 =>
  letS q9.1 (fun y12 =>
  if 0 ≤ y12 then
    gIn y12 7 (
    if (((q9.2.2.1 tx 12 y12.toNatClampNeg) >>> (x2 &&& 31)) &&& 1) = 0 then
      f_Mn_putKnower_b42 tx x2 y12 q9.2
    else
      Option.bind (f_Mn_failed 3 ((q9.2.1 3 3) - 1) q9.2) (fun q39 =>
      f_Mn_putKnower_b42 tx x2 y12 q39))
  else
    some q9.2))
def f_Mn_putKnower (tx : Nat) (x2 : Int32) (S : Mem) : Option (Mem) := f_Mn_putKnower_b0 tx x2 S
theorem d_Mn_putKnower_0 : decode bc_Mn_putKnower 0 = .ok (.aload_n 0, 1) := by decide +kernel
theorem d_Mn_putKnower_1 : decode bc_Mn_putKnower 1 = .ok (.aload_n 0, 1) := by decide +kernel
theorem d_Mn_putKnower_2 : decode bc_Mn_putKnower 2 = .ok (.getfield 25, 3) := by decide +kernel
theorem d_Mn_putKnower_5 : decode bc_Mn_putKnower 5 = .ok (.aload_n 1, 1) := by decide +kernel
theorem d_Mn_putKnower_6 : decode bc_Mn_putKnower 6 = .ok (.getfield 106, 3) := by decide +kernel
theorem d_Mn_putKnower_9 : decode bc_Mn_putKnower 9 = .ok (.invokevirtual 112, 3) := by decide +kernel
theorem d_Mn_putKnower_12 : decode bc_Mn_putKnower 12 = .ok (.istore_n 3, 1) := by decide +kernel
theorem d_Mn_putKnower_13 : decode bc_Mn_putKnower 13 = .ok (.iload_n 3, 1) := by decide +kernel
theorem d_Mn_putKnower_14 : decode bc_Mn_putKnower 14 = .ok (.ifCond .ge 4, 3) := by decide +kernel
theorem d_Mn_putKnower_17 : decode bc_Mn_putKnower 17 = .ok (.return_, 1) := by decide +kernel
theorem d_Mn_putKnower_18 : decode bc_Mn_putKnower 18 = .ok (.aload_n 1, 1) := by decide +kernel
theorem d_Mn_putKnower_19 : decode bc_Mn_putKnower 19 = .ok (.getfield 137, 3) := by decide +kernel
theorem d_Mn_putKnower_22 : decode bc_Mn_putKnower 22 = .ok (.iload_n 3, 1) := by decide +kernel
theorem d_Mn_putKnower_23 : decode bc_Mn_putKnower 23 = .ok (.iaload, 1) := by decide +kernel
theorem d_Mn_putKnower_24 : decode bc_Mn_putKnower 24 = .ok (.iload_n 2, 1) := by decide +kernel
theorem d_Mn_putKnower_25 : decode bc_Mn_putKnower 25 = .ok (.ishr, 1) := by decide +kernel
theorem d_Mn_putKnower_26 : decode bc_Mn_putKnower 26 = .ok (.iconst 1, 1) := by decide +kernel
theorem d_Mn_putKnower_27 : decode bc_Mn_putKnower 27 = .ok (.iand, 1) := by decide +kernel
theorem d_Mn_putKnower_28 : decode bc_Mn_putKnower 28 = .ok (.ifCond .eq 14, 3) := by decide +kernel
theorem d_Mn_putKnower_31 : decode bc_Mn_putKnower 31 = .ok (.aload_n 0, 1) := by decide +kernel
theorem d_Mn_putKnower_32 : decode bc_Mn_putKnower 32 = .ok (.iconst 3, 1) := by decide +kernel
theorem d_Mn_putKnower_33 : decode bc_Mn_putKnower 33 = .ok (.aload_n 0, 1) := by decide +kernel
theorem d_Mn_putKnower_34 : decode bc_Mn_putKnower 34 = .ok (.getfield 18, 3) := by decide +kernel
theorem d_Mn_putKnower_37 : decode bc_Mn_putKnower 37 = .ok (.iconst 1, 1) := by decide +kernel
theorem d_Mn_putKnower_38 : decode bc_Mn_putKnower 38 = .ok (.isub, 1) := by decide +kernel
theorem d_Mn_putKnower_39 : decode bc_Mn_putKnower 39 = .ok (.invokevirtual 140, 3) := by decide +kernel
theorem d_Mn_putKnower_42 : decode bc_Mn_putKnower 42 = .ok (.aload_n 1, 1) := by decide +kernel
theorem d_Mn_putKnower_43 : decode bc_Mn_putKnower 43 = .ok (.getfield 137, 3) := by decide +kernel
theorem d_Mn_putKnower_46 : decode bc_Mn_putKnower 46 = .ok (.iload_n 3, 1) := by decide +kernel
theorem d_Mn_putKnower_47 : decode bc_Mn_putKnower 47 = .ok (.dup2, 1) := by decide +kernel
theorem d_Mn_putKnower_48 : decode bc_Mn_putKnower 48 = .ok (.iaload, 1) := by decide +kernel
theorem d_Mn_putKnower_49 : decode bc_Mn_putKnower 49 = .ok (.iconst 1, 1) := by decide +kernel
theorem d_Mn_putKnower_50 : decode bc_Mn_putKnower 50 = .ok (.iload_n 2, 1) := by decide +kernel
theorem d_Mn_putKnower_51 : decode bc_Mn_putKnower 51 = .ok (.ishl, 1) := by decide +kernel
theorem d_Mn_putKnower_52 : decode bc_Mn_putKnower 52 = .ok (.ior, 1) := by decide +kernel
theorem d_Mn_putKnower_53 : decode bc_Mn_putKnower 53 = .ok (.iastore, 1) := by decide +kernel
theorem d_Mn_putKnower_54 : decode bc_Mn_putKnower 54 = .ok (.return_, 1) := by decide +kernel
set_option maxRecDepth 20000 in
theorem w_Mn_putKnower_b42 {X : CX} {V : WV} {tx : Nat} (hV : IsC V) (htx : isTx tx) {z : Mem} (hC : Ck X V bc_Mn_putKnower 4 "SecretWells$Meaning" none 3 66) (x2 : Int32) (x3 : Int32) (S : Mem) (h : f_Mn_putKnower_b42 tx x2 x3 S = some z) : G X V 4 (QV X V z) 42 [some (.ref (V.2.2.1 3 0)), some (.ref (V.2.2.1 tx 0)), some (.int x2), some (.int x3)] [] S := by
  unfold f_Mn_putKnower_b42 at h
  refine g_aload_n (pc := 42) hC (i := 1) (x := (V.2.2.1 tx 0)) rfl rfl d_Mn_putKnower_42 ?_
  refine g_getA (pc := 43) hC fo_Mn_137 (ob_Tx hV htx) rfl d_Mn_putKnower_43 ?_
  refine g_iload_n (pc := 46) hC (i := 3) (x := x3) rfl rfl d_Mn_putKnower_46 ?_
  refine g_dup2 (pc := 47) hC rfl rfl d_Mn_putKnower_47 ?_
  refine g_iald (pc := 48) hC (ar_Tx_12 hV htx) d_Mn_putKnower_48 h (fun h => ?_)
  refine g_iconst (pc := 49) hC kc_1 d_Mn_putKnower_49 ?_
  refine g_iload_n (pc := 50) hC (i := 2) (x := x2) rfl rfl d_Mn_putKnower_50 ?_
  refine g_ishl (pc := 51) hC d_Mn_putKnower_51 ?_
  refine g_ior (pc := 52) hC d_Mn_putKnower_52 ?_
  refine g_iast (pc := 53) hC (ar_Tx_12 hV htx) d_Mn_putKnower_53 h (fun h => ?_)
  refine g_letS h (fun S53 h => ?_)
  exact g_vW (pc := 54) hC d_Mn_putKnower_54 h
set_option maxRecDepth 20000 in
theorem w_Mn_putKnower_b0 {X : CX} {V : WV} {tx : Nat} (hV : IsC V) (htx : isTx tx) {z : Mem} (hC : Ck X V bc_Mn_putKnower 4 "SecretWells$Meaning" none 3 66) (x2 : Int32) (S : Mem) (h : f_Mn_putKnower_b0 tx x2 S = some z) : G X V 4 (QV X V z) 0 [some (.ref (V.2.2.1 3 0)), some (.ref (V.2.2.1 tx 0)), some (.int x2), none] [] S := by
  unfold f_Mn_putKnower_b0 at h
  refine g_aload_n (pc := 0) hC (i := 0) (x := (V.2.2.1 3 0)) rfl rfl d_Mn_putKnower_0 ?_
  refine g_aload_n (pc := 1) hC (i := 0) (x := (V.2.2.1 3 0)) rfl rfl d_Mn_putKnower_1 ?_
  refine g_getA (pc := 2) hC fo_Mn_25 (ob_Mn hV) rfl d_Mn_putKnower_2 ?_
  refine g_aload_n (pc := 5) hC (i := 1) (x := (V.2.2.1 tx 0)) rfl rfl d_Mn_putKnower_5 ?_
  refine g_getI (pc := 6) hC fo_Mn_106 (ob_Tx hV htx) rfl d_Mn_putKnower_6 ?_
  obtain ⟨q9, hq9, h⟩ := Option.bind_eq_some_iff.mp h
  refine g_vi (pc := 9) hC (As := [.ref (V.2.2.1 3 (5 + 1)), .int (S.1 tx 1)]) (st := []) mt_Mn_oldName lk_Mn_112 rfl (ob_Mn hV) (Nat.le_of_ble_eq_true rfl) ⟨Nat.le_of_ble_eq_true rfl, Nat.le_of_ble_eq_true rfl⟩ rfl d_Mn_putKnower_9 (c_Mn_oldName hV (nm_5) hq9) ?_
  refine g_leti h (fun y12 h => ?_)
  refine s_istore_n (pc := 12) hC (i := 3) rfl (by decide) d_Mn_putKnower_12 (lv2 := [some (.ref (V.2.2.1 3 0)), some (.ref (V.2.2.1 tx 0)), some (.int x2), some (.int y12)]) rfl ?_
  refine g_iload_n (pc := 13) hC (i := 3) (x := y12) rfl rfl d_Mn_putKnower_13 ?_
  refine g_if_ge (pc := 14) hC (tgt := 18) (by decide) d_Mn_putKnower_14 h (fun h => ?_) (fun h => ?_)
  · refine g_aload_n (pc := 18) hC (i := 1) (x := (V.2.2.1 tx 0)) rfl rfl d_Mn_putKnower_18 ?_
    refine g_getA (pc := 19) hC fo_Mn_137 (ob_Tx hV htx) rfl d_Mn_putKnower_19 ?_
    refine g_iload_n (pc := 22) hC (i := 3) (x := y12) rfl rfl d_Mn_putKnower_22 ?_
    refine g_iald (pc := 23) hC (ar_Tx_12 hV htx) d_Mn_putKnower_23 h (fun h => ?_)
    refine g_iload_n (pc := 24) hC (i := 2) (x := x2) rfl rfl d_Mn_putKnower_24 ?_
    refine g_ishr (pc := 25) hC d_Mn_putKnower_25 ?_
    refine g_iconst (pc := 26) hC kc_1 d_Mn_putKnower_26 ?_
    refine g_iand (pc := 27) hC d_Mn_putKnower_27 ?_
    refine g_if_eq (pc := 28) hC (tgt := 42) (by decide) d_Mn_putKnower_28 h (fun h => ?_) (fun h => ?_)
    · exact w_Mn_putKnower_b42 hV htx hC x2 y12 q9.2 h
    · refine g_aload_n (pc := 31) hC (i := 0) (x := (V.2.2.1 3 0)) rfl rfl d_Mn_putKnower_31 ?_
      refine g_iconst (pc := 32) hC kc_3 d_Mn_putKnower_32 ?_
      refine g_aload_n (pc := 33) hC (i := 0) (x := (V.2.2.1 3 0)) rfl rfl d_Mn_putKnower_33 ?_
      refine g_getI (pc := 34) hC fo_Mn_18 (ob_Mn hV) rfl d_Mn_putKnower_34 ?_
      refine g_iconst (pc := 37) hC kc_1 d_Mn_putKnower_37 ?_
      refine g_isub (pc := 38) hC d_Mn_putKnower_38 ?_
      obtain ⟨q39, hq39, h⟩ := Option.bind_eq_some_iff.mp h
      refine g_vv (pc := 39) hC (As := [.int 3, .int ((q9.2.1 3 3) - 1)]) (st := []) mt_Mn_failed lk_Mn_140 rfl (ob_Mn hV) (Nat.le_of_ble_eq_true rfl) ⟨Nat.le_of_ble_eq_true rfl, Nat.le_of_ble_eq_true rfl⟩ rfl d_Mn_putKnower_39 (c_Mn_failed hV hq39) ?_
      exact w_Mn_putKnower_b42 hV htx hC x2 y12 q39 h
  · exact g_vW (pc := 17) hC d_Mn_putKnower_17 h
theorem c_Mn_putKnower {V : WV} {l : Launch} (hV : IsC V) {tx : Nat} (htx : isTx tx) {x2 : Int32} {S : Mem} {z : Mem} (h : f_Mn_putKnower tx x2 S = some z) : CV V l y_Mn_putKnower bc_Mn_putKnower 4 none 3 66 [.ref (V.2.2.1 3 0), .ref (V.2.2.1 tx 0), .int x2] S z :=
  ct_v rfl (IsC.ok hV) (Nat.le_of_ble_eq_true rfl) (fun _ _ hC => w_Mn_putKnower_b0 hV htx hC x2 S h)
def f_Mn_putSecret_b87 (tx : Nat) (k87 : Int32 → Int32 → Mem → Option (Mem)) (x2 : Int32) (x3 : Int32) (S : Mem) : Option (Mem) :=
  if 400 < x3 then
    some S
  else
    Option.bind (f_Tp_kindAt (S.1 3 3) S) (fun q102 =>
    if q102 = 97 then
      Option.bind (f_Mn_putKnower tx x2 S) (fun q113 =>
      k87 x2 (x3 + 1) q113)
    else
      some S)
def f_Mn_putSecret_l87 (tx : Nat) : Nat → Int32 → Int32 → Mem → Option (Mem)
  | 0 => fun _ _ _ => none
  | n + 1 => f_Mn_putSecret_b87 tx (f_Mn_putSecret_l87 tx n)
def f_Mn_putSecret_b0 (tx : Nat) (S : Mem) : Option (Mem) :=
  letS (S.1 tx 2) (fun y4 =>
  if y4 < 8 then
    Option.bind (f_Mn_newName tx S) (fun q19 =>
    gIn y4 8 (letS (sL q19.2 3 6 y4 q19.1) (fun S22 =>
    letS (pI S22 tx 2 ((S22.1 tx 2) + 1)) (fun S30 =>
    Option.bind (f_Mn_number 1 99 S30) (fun q42 =>
    gIn y4 8 (letS (sA q42.2 tx 13 y4 q42.1) (fun S45 =>
    Option.bind (f_Tp_kindAt (S45.1 3 3) S45) (fun q54 =>
    if q54 = 138 then
      letS (pI S45 tx 4 ((S45.1 tx 4) ||| ((1 : Int32) <<< (y4 &&& 31)))) (fun S72 =>
      letS (pI S72 3 3 ((S72.1 3 3) + 1)) (fun S82 =>
      f_Mn_putSecret_l87 tx 5000 y4 0 S82))
    else
      f_Mn_putSecret_l87 tx 5000 y4 0 S45))))))))
  else
    some S)
def f_Mn_putSecret (tx : Nat) (S : Mem) : Option (Mem) := f_Mn_putSecret_b0 tx S
theorem d_Mn_putSecret_0 : decode bc_Mn_putSecret 0 = .ok (.aload_n 1, 1) := by decide +kernel
theorem d_Mn_putSecret_1 : decode bc_Mn_putSecret 1 = .ok (.getfield 124, 3) := by decide +kernel
theorem d_Mn_putSecret_4 : decode bc_Mn_putSecret 4 = .ok (.istore_n 2, 1) := by decide +kernel
theorem d_Mn_putSecret_5 : decode bc_Mn_putSecret 5 = .ok (.iload_n 2, 1) := by decide +kernel
theorem d_Mn_putSecret_6 : decode bc_Mn_putSecret 6 = .ok (.bipush 8, 2) := by decide +kernel
theorem d_Mn_putSecret_8 : decode bc_Mn_putSecret 8 = .ok (.if_icmp .lt 4, 3) := by decide +kernel
theorem d_Mn_putSecret_11 : decode bc_Mn_putSecret 11 = .ok (.return_, 1) := by decide +kernel
theorem d_Mn_putSecret_12 : decode bc_Mn_putSecret 12 = .ok (.aload_n 0, 1) := by decide +kernel
theorem d_Mn_putSecret_13 : decode bc_Mn_putSecret 13 = .ok (.getfield 28, 3) := by decide +kernel
theorem d_Mn_putSecret_16 : decode bc_Mn_putSecret 16 = .ok (.iload_n 2, 1) := by decide +kernel
theorem d_Mn_putSecret_17 : decode bc_Mn_putSecret 17 = .ok (.aload_n 0, 1) := by decide +kernel
theorem d_Mn_putSecret_18 : decode bc_Mn_putSecret 18 = .ok (.aload_n 1, 1) := by decide +kernel
theorem d_Mn_putSecret_19 : decode bc_Mn_putSecret 19 = .ok (.invokevirtual 95, 3) := by decide +kernel
theorem d_Mn_putSecret_22 : decode bc_Mn_putSecret 22 = .ok (.lastore, 1) := by decide +kernel
theorem d_Mn_putSecret_23 : decode bc_Mn_putSecret 23 = .ok (.aload_n 1, 1) := by decide +kernel
theorem d_Mn_putSecret_24 : decode bc_Mn_putSecret 24 = .ok (.dup, 1) := by decide +kernel
theorem d_Mn_putSecret_25 : decode bc_Mn_putSecret 25 = .ok (.getfield 124, 3) := by decide +kernel
theorem d_Mn_putSecret_28 : decode bc_Mn_putSecret 28 = .ok (.iconst 1, 1) := by decide +kernel
theorem d_Mn_putSecret_29 : decode bc_Mn_putSecret 29 = .ok (.iadd, 1) := by decide +kernel
theorem d_Mn_putSecret_30 : decode bc_Mn_putSecret 30 = .ok (.putfield 124, 3) := by decide +kernel
theorem d_Mn_putSecret_33 : decode bc_Mn_putSecret 33 = .ok (.aload_n 1, 1) := by decide +kernel
theorem d_Mn_putSecret_34 : decode bc_Mn_putSecret 34 = .ok (.getfield 127, 3) := by decide +kernel
theorem d_Mn_putSecret_37 : decode bc_Mn_putSecret 37 = .ok (.iload_n 2, 1) := by decide +kernel
theorem d_Mn_putSecret_38 : decode bc_Mn_putSecret 38 = .ok (.aload_n 0, 1) := by decide +kernel
theorem d_Mn_putSecret_39 : decode bc_Mn_putSecret 39 = .ok (.iconst 1, 1) := by decide +kernel
theorem d_Mn_putSecret_40 : decode bc_Mn_putSecret 40 = .ok (.bipush 99, 2) := by decide +kernel
theorem d_Mn_putSecret_42 : decode bc_Mn_putSecret 42 = .ok (.invokevirtual 79, 3) := by decide +kernel
theorem d_Mn_putSecret_45 : decode bc_Mn_putSecret 45 = .ok (.iastore, 1) := by decide +kernel
theorem d_Mn_putSecret_46 : decode bc_Mn_putSecret 46 = .ok (.aload_n 0, 1) := by decide +kernel
theorem d_Mn_putSecret_47 : decode bc_Mn_putSecret 47 = .ok (.getfield 31, 3) := by decide +kernel
theorem d_Mn_putSecret_50 : decode bc_Mn_putSecret 50 = .ok (.aload_n 0, 1) := by decide +kernel
theorem d_Mn_putSecret_51 : decode bc_Mn_putSecret 51 = .ok (.getfield 18, 3) := by decide +kernel
theorem d_Mn_putSecret_54 : decode bc_Mn_putSecret 54 = .ok (.invokevirtual 40, 3) := by decide +kernel
theorem d_Mn_putSecret_57 : decode bc_Mn_putSecret 57 = .ok (.sipush 138, 3) := by decide +kernel
theorem d_Mn_putSecret_60 : decode bc_Mn_putSecret 60 = .ok (.if_icmp .ne 25, 3) := by decide +kernel
theorem d_Mn_putSecret_63 : decode bc_Mn_putSecret 63 = .ok (.aload_n 1, 1) := by decide +kernel
theorem d_Mn_putSecret_64 : decode bc_Mn_putSecret 64 = .ok (.dup, 1) := by decide +kernel
theorem d_Mn_putSecret_65 : decode bc_Mn_putSecret 65 = .ok (.getfield 130, 3) := by decide +kernel
theorem d_Mn_putSecret_68 : decode bc_Mn_putSecret 68 = .ok (.iconst 1, 1) := by decide +kernel
theorem d_Mn_putSecret_69 : decode bc_Mn_putSecret 69 = .ok (.iload_n 2, 1) := by decide +kernel
theorem d_Mn_putSecret_70 : decode bc_Mn_putSecret 70 = .ok (.ishl, 1) := by decide +kernel
theorem d_Mn_putSecret_71 : decode bc_Mn_putSecret 71 = .ok (.ior, 1) := by decide +kernel
theorem d_Mn_putSecret_72 : decode bc_Mn_putSecret 72 = .ok (.putfield 130, 3) := by decide +kernel
theorem d_Mn_putSecret_75 : decode bc_Mn_putSecret 75 = .ok (.aload_n 0, 1) := by decide +kernel
theorem d_Mn_putSecret_76 : decode bc_Mn_putSecret 76 = .ok (.dup, 1) := by decide +kernel
theorem d_Mn_putSecret_77 : decode bc_Mn_putSecret 77 = .ok (.getfield 18, 3) := by decide +kernel
theorem d_Mn_putSecret_80 : decode bc_Mn_putSecret 80 = .ok (.iconst 1, 1) := by decide +kernel
theorem d_Mn_putSecret_81 : decode bc_Mn_putSecret 81 = .ok (.iadd, 1) := by decide +kernel
theorem d_Mn_putSecret_82 : decode bc_Mn_putSecret 82 = .ok (.putfield 18, 3) := by decide +kernel
theorem d_Mn_putSecret_85 : decode bc_Mn_putSecret 85 = .ok (.iconst 0, 1) := by decide +kernel
theorem d_Mn_putSecret_86 : decode bc_Mn_putSecret 86 = .ok (.istore_n 3, 1) := by decide +kernel
theorem d_Mn_putSecret_87 : decode bc_Mn_putSecret 87 = .ok (.iload_n 3, 1) := by decide +kernel
theorem d_Mn_putSecret_88 : decode bc_Mn_putSecret 88 = .ok (.sipush 400, 3) := by decide +kernel
theorem d_Mn_putSecret_91 : decode bc_Mn_putSecret 91 = .ok (.if_icmp .gt 31, 3) := by decide +kernel
theorem d_Mn_putSecret_94 : decode bc_Mn_putSecret 94 = .ok (.aload_n 0, 1) := by decide +kernel
theorem d_Mn_putSecret_95 : decode bc_Mn_putSecret 95 = .ok (.getfield 31, 3) := by decide +kernel
theorem d_Mn_putSecret_98 : decode bc_Mn_putSecret 98 = .ok (.aload_n 0, 1) := by decide +kernel
theorem d_Mn_putSecret_99 : decode bc_Mn_putSecret 99 = .ok (.getfield 18, 3) := by decide +kernel
theorem d_Mn_putSecret_102 : decode bc_Mn_putSecret 102 = .ok (.invokevirtual 40, 3) := by decide +kernel
theorem d_Mn_putSecret_105 : decode bc_Mn_putSecret 105 = .ok (.bipush 97, 2) := by decide +kernel
theorem d_Mn_putSecret_107 : decode bc_Mn_putSecret 107 = .ok (.if_icmp .ne 15, 3) := by decide +kernel
theorem d_Mn_putSecret_110 : decode bc_Mn_putSecret 110 = .ok (.aload_n 0, 1) := by decide +kernel
theorem d_Mn_putSecret_111 : decode bc_Mn_putSecret 111 = .ok (.aload_n 1, 1) := by decide +kernel
theorem d_Mn_putSecret_112 : decode bc_Mn_putSecret 112 = .ok (.iload_n 2, 1) := by decide +kernel
theorem d_Mn_putSecret_113 : decode bc_Mn_putSecret 113 = .ok (.invokevirtual 133, 3) := by decide +kernel
theorem d_Mn_putSecret_116 : decode bc_Mn_putSecret 116 = .ok (.iinc 3 1, 3) := by decide +kernel
theorem d_Mn_putSecret_119 : decode bc_Mn_putSecret 119 = .ok (.goto (-32), 3) := by decide +kernel
theorem d_Mn_putSecret_122 : decode bc_Mn_putSecret 122 = .ok (.return_, 1) := by decide +kernel
set_option maxRecDepth 20000 in
theorem w_Mn_putSecret_b87 {X : CX} {V : WV} {tx : Nat} (hV : IsC V) (htx : isTx tx) {z : Mem} (hC : Ck X V bc_Mn_putSecret 4 "SecretWells$Meaning" none 4 89) (k87 : Int32 → Int32 → Mem → Option (Mem)) (hk87 : ∀ (x2 : Int32) (x3 : Int32) (S : Mem), k87 x2 x3 S = some z → G X V 4 (QV X V z) 87 [some (.ref (V.2.2.1 3 0)), some (.ref (V.2.2.1 tx 0)), some (.int x2), some (.int x3)] [] S) (x2 : Int32) (x3 : Int32) (S : Mem) (h : f_Mn_putSecret_b87 tx k87 x2 x3 S = some z) : G X V 4 (QV X V z) 87 [some (.ref (V.2.2.1 3 0)), some (.ref (V.2.2.1 tx 0)), some (.int x2), some (.int x3)] [] S := by
  unfold f_Mn_putSecret_b87 at h
  refine g_iload_n (pc := 87) hC (i := 3) (x := x3) rfl rfl d_Mn_putSecret_87 ?_
  refine g_sipush (pc := 88) hC ks_400 d_Mn_putSecret_88 ?_
  refine g_icmp_gt (pc := 91) hC (tgt := 122) (by decide) d_Mn_putSecret_91 h (fun h => ?_) (fun h => ?_)
  · exact g_vW (pc := 122) hC d_Mn_putSecret_122 h
  · refine g_aload_n (pc := 94) hC (i := 0) (x := (V.2.2.1 3 0)) rfl rfl d_Mn_putSecret_94 ?_
    refine g_getC (pc := 95) hC (j := 1) fo_Mn_31 (ob_Mn hV) rfl d_Mn_putSecret_95 ?_
    refine g_aload_n (pc := 98) hC (i := 0) (x := (V.2.2.1 3 0)) rfl rfl d_Mn_putSecret_98 ?_
    refine g_getI (pc := 99) hC fo_Mn_18 (ob_Mn hV) rfl d_Mn_putSecret_99 ?_
    obtain ⟨q102, hq102, h⟩ := Option.bind_eq_some_iff.mp h
    refine g_vi (pc := 102) hC (As := [.int (S.1 3 3)]) (st := []) mt_Tp_kindAt lk_Mn_40 rfl (ob_Tp hV) (Nat.le_of_ble_eq_true rfl) ⟨Nat.le_of_ble_eq_true rfl, Nat.le_of_ble_eq_true rfl⟩ rfl d_Mn_putSecret_102 (c_Tp_kindAt hV hq102) ?_
    refine g_bipush (pc := 105) hC kb_97 d_Mn_putSecret_105 ?_
    refine g_icmp_ne (pc := 107) hC (tgt := 122) (by decide) d_Mn_putSecret_107 h (fun h => ?_) (fun h => ?_)
    · exact g_vW (pc := 122) hC d_Mn_putSecret_122 h
    · refine g_aload_n (pc := 110) hC (i := 0) (x := (V.2.2.1 3 0)) rfl rfl d_Mn_putSecret_110 ?_
      refine g_aload_n (pc := 111) hC (i := 1) (x := (V.2.2.1 tx 0)) rfl rfl d_Mn_putSecret_111 ?_
      refine g_iload_n (pc := 112) hC (i := 2) (x := x2) rfl rfl d_Mn_putSecret_112 ?_
      obtain ⟨q113, hq113, h⟩ := Option.bind_eq_some_iff.mp h
      refine g_vv (pc := 113) hC (As := [.ref (V.2.2.1 tx 0), .int x2]) (st := []) mt_Mn_putKnower lk_Mn_133 rfl (ob_Mn hV) (Nat.le_of_ble_eq_true rfl) ⟨Nat.le_of_ble_eq_true rfl, Nat.le_of_ble_eq_true rfl⟩ rfl d_Mn_putSecret_113 (c_Mn_putKnower hV htx hq113) ?_
      refine s_iinc (pc := 116) hC (i := 3) (x := x3) (v := x3 + 1) rfl (by rw [kc_1]) (by decide) d_Mn_putSecret_116 (lv2 := [some (.ref (V.2.2.1 3 0)), some (.ref (V.2.2.1 tx 0)), some (.int x2), some (.int (x3 + 1))]) rfl ?_
      refine g_goto (pc := 119) hC (tgt := 87) (by decide) d_Mn_putSecret_119 ?_
      exact hk87 x2 (x3 + 1) q113 h
theorem w_Mn_putSecret_l87 {X : CX} {V : WV} {tx : Nat} (hV : IsC V) (htx : isTx tx) {z : Mem} (hC : Ck X V bc_Mn_putSecret 4 "SecretWells$Meaning" none 4 89) : ∀ (n : Nat) (x2 : Int32) (x3 : Int32) (S : Mem), f_Mn_putSecret_l87 tx n x2 x3 S = some z → G X V 4 (QV X V z) 87 [some (.ref (V.2.2.1 3 0)), some (.ref (V.2.2.1 tx 0)), some (.int x2), some (.int x3)] [] S := by
  intro n
  induction n with
  | zero =>
    intro x2 x3 S h
    have h : (none : Option (Mem)) = some z := h
    cases h
  | succ n ih =>
    intro x2 x3 S h
    exact w_Mn_putSecret_b87 hV htx hC (f_Mn_putSecret_l87 tx n) ih x2 x3 S h
set_option maxRecDepth 20000 in
theorem w_Mn_putSecret_b0 {X : CX} {V : WV} {tx : Nat} (hV : IsC V) (htx : isTx tx) {z : Mem} (hC : Ck X V bc_Mn_putSecret 4 "SecretWells$Meaning" none 4 89) (S : Mem) (h : f_Mn_putSecret_b0 tx S = some z) : G X V 4 (QV X V z) 0 [some (.ref (V.2.2.1 3 0)), some (.ref (V.2.2.1 tx 0)), none, none] [] S := by
  unfold f_Mn_putSecret_b0 at h
  refine g_aload_n (pc := 0) hC (i := 1) (x := (V.2.2.1 tx 0)) rfl rfl d_Mn_putSecret_0 ?_
  refine g_getI (pc := 1) hC fo_Mn_124 (ob_Tx hV htx) rfl d_Mn_putSecret_1 ?_
  refine g_leti h (fun y4 h => ?_)
  refine s_istore_n (pc := 4) hC (i := 2) rfl (by decide) d_Mn_putSecret_4 (lv2 := [some (.ref (V.2.2.1 3 0)), some (.ref (V.2.2.1 tx 0)), some (.int y4), none]) rfl ?_
  refine g_iload_n (pc := 5) hC (i := 2) (x := y4) rfl rfl d_Mn_putSecret_5 ?_
  refine g_bipush (pc := 6) hC kb_8 d_Mn_putSecret_6 ?_
  refine g_icmp_lt (pc := 8) hC (tgt := 12) (by decide) d_Mn_putSecret_8 h (fun h => ?_) (fun h => ?_)
  · refine g_aload_n (pc := 12) hC (i := 0) (x := (V.2.2.1 3 0)) rfl rfl d_Mn_putSecret_12 ?_
    refine g_getA (pc := 13) hC fo_Mn_28 (ob_Mn hV) rfl d_Mn_putSecret_13 ?_
    refine g_iload_n (pc := 16) hC (i := 2) (x := y4) rfl rfl d_Mn_putSecret_16 ?_
    refine g_aload_n (pc := 17) hC (i := 0) (x := (V.2.2.1 3 0)) rfl rfl d_Mn_putSecret_17 ?_
    refine g_aload_n (pc := 18) hC (i := 1) (x := (V.2.2.1 tx 0)) rfl rfl d_Mn_putSecret_18 ?_
    obtain ⟨q19, hq19, h⟩ := Option.bind_eq_some_iff.mp h
    refine g_vl (pc := 19) hC (As := [.ref (V.2.2.1 tx 0)]) (st := [.int y4, .ref (V.2.2.1 3 (6 + 1))]) mt_Mn_newName lk_Mn_95 rfl (ob_Mn hV) (Nat.le_of_ble_eq_true rfl) ⟨Nat.le_of_ble_eq_true rfl, Nat.le_of_ble_eq_true rfl⟩ rfl d_Mn_putSecret_19 (c_Mn_newName hV htx hq19) ?_
    refine g_last (pc := 22) hC (ar_Mn_6 hV) d_Mn_putSecret_22 h (fun h => ?_)
    refine g_letS h (fun S22 h => ?_)
    refine g_aload_n (pc := 23) hC (i := 1) (x := (V.2.2.1 tx 0)) rfl rfl d_Mn_putSecret_23 ?_
    refine g_dup (pc := 24) hC rfl d_Mn_putSecret_24 ?_
    refine g_getI (pc := 25) hC fo_Mn_124 (ob_Tx hV htx) rfl d_Mn_putSecret_25 ?_
    refine g_iconst (pc := 28) hC kc_1 d_Mn_putSecret_28 ?_
    refine g_iadd (pc := 29) hC d_Mn_putSecret_29 ?_
    refine g_putI (pc := 30) hC po_Mn_124 (ob_Tx hV htx) rfl rfl rfl d_Mn_putSecret_30 ?_
    refine g_letS h (fun S30 h => ?_)
    refine g_aload_n (pc := 33) hC (i := 1) (x := (V.2.2.1 tx 0)) rfl rfl d_Mn_putSecret_33 ?_
    refine g_getA (pc := 34) hC fo_Mn_127 (ob_Tx hV htx) rfl d_Mn_putSecret_34 ?_
    refine g_iload_n (pc := 37) hC (i := 2) (x := y4) rfl rfl d_Mn_putSecret_37 ?_
    refine g_aload_n (pc := 38) hC (i := 0) (x := (V.2.2.1 3 0)) rfl rfl d_Mn_putSecret_38 ?_
    refine g_iconst (pc := 39) hC kc_1 d_Mn_putSecret_39 ?_
    refine g_bipush (pc := 40) hC kb_99 d_Mn_putSecret_40 ?_
    obtain ⟨q42, hq42, h⟩ := Option.bind_eq_some_iff.mp h
    refine g_vi (pc := 42) hC (As := [.int 1, .int 99]) (st := [.int y4, .ref (V.2.2.1 tx (13 + 1))]) mt_Mn_number lk_Mn_79 rfl (ob_Mn hV) (Nat.le_of_ble_eq_true rfl) ⟨Nat.le_of_ble_eq_true rfl, Nat.le_of_ble_eq_true rfl⟩ rfl d_Mn_putSecret_42 (c_Mn_number hV hq42) ?_
    refine g_iast (pc := 45) hC (ar_Tx_13 hV htx) d_Mn_putSecret_45 h (fun h => ?_)
    refine g_letS h (fun S45 h => ?_)
    refine g_aload_n (pc := 46) hC (i := 0) (x := (V.2.2.1 3 0)) rfl rfl d_Mn_putSecret_46 ?_
    refine g_getC (pc := 47) hC (j := 1) fo_Mn_31 (ob_Mn hV) rfl d_Mn_putSecret_47 ?_
    refine g_aload_n (pc := 50) hC (i := 0) (x := (V.2.2.1 3 0)) rfl rfl d_Mn_putSecret_50 ?_
    refine g_getI (pc := 51) hC fo_Mn_18 (ob_Mn hV) rfl d_Mn_putSecret_51 ?_
    obtain ⟨q54, hq54, h⟩ := Option.bind_eq_some_iff.mp h
    refine g_vi (pc := 54) hC (As := [.int (S45.1 3 3)]) (st := []) mt_Tp_kindAt lk_Mn_40 rfl (ob_Tp hV) (Nat.le_of_ble_eq_true rfl) ⟨Nat.le_of_ble_eq_true rfl, Nat.le_of_ble_eq_true rfl⟩ rfl d_Mn_putSecret_54 (c_Tp_kindAt hV hq54) ?_
    refine g_sipush (pc := 57) hC ks_138 d_Mn_putSecret_57 ?_
    refine g_icmp_ne (pc := 60) hC (tgt := 85) (by decide) d_Mn_putSecret_60 h (fun h => ?_) (fun h => ?_)
    · refine g_iconst (pc := 85) hC kc_0 d_Mn_putSecret_85 ?_
      refine s_istore_n (pc := 86) hC (i := 3) rfl (by decide) d_Mn_putSecret_86 (lv2 := [some (.ref (V.2.2.1 3 0)), some (.ref (V.2.2.1 tx 0)), some (.int y4), some (.int 0)]) rfl ?_
      exact w_Mn_putSecret_l87 hV htx hC 5000 y4 0 S45 h
    · refine g_aload_n (pc := 63) hC (i := 1) (x := (V.2.2.1 tx 0)) rfl rfl d_Mn_putSecret_63 ?_
      refine g_dup (pc := 64) hC rfl d_Mn_putSecret_64 ?_
      refine g_getI (pc := 65) hC fo_Mn_130 (ob_Tx hV htx) rfl d_Mn_putSecret_65 ?_
      refine g_iconst (pc := 68) hC kc_1 d_Mn_putSecret_68 ?_
      refine g_iload_n (pc := 69) hC (i := 2) (x := y4) rfl rfl d_Mn_putSecret_69 ?_
      refine g_ishl (pc := 70) hC d_Mn_putSecret_70 ?_
      refine g_ior (pc := 71) hC d_Mn_putSecret_71 ?_
      refine g_putI (pc := 72) hC po_Mn_130 (ob_Tx hV htx) rfl rfl rfl d_Mn_putSecret_72 ?_
      refine g_letS h (fun S72 h => ?_)
      refine g_aload_n (pc := 75) hC (i := 0) (x := (V.2.2.1 3 0)) rfl rfl d_Mn_putSecret_75 ?_
      refine g_dup (pc := 76) hC rfl d_Mn_putSecret_76 ?_
      refine g_getI (pc := 77) hC fo_Mn_18 (ob_Mn hV) rfl d_Mn_putSecret_77 ?_
      refine g_iconst (pc := 80) hC kc_1 d_Mn_putSecret_80 ?_
      refine g_iadd (pc := 81) hC d_Mn_putSecret_81 ?_
      refine g_putI (pc := 82) hC po_Mn_18 (ob_Mn hV) rfl rfl rfl d_Mn_putSecret_82 ?_
      refine g_letS h (fun S82 h => ?_)
      refine g_iconst (pc := 85) hC kc_0 d_Mn_putSecret_85 ?_
      refine s_istore_n (pc := 86) hC (i := 3) rfl (by decide) d_Mn_putSecret_86 (lv2 := [some (.ref (V.2.2.1 3 0)), some (.ref (V.2.2.1 tx 0)), some (.int y4), some (.int 0)]) rfl ?_
      exact w_Mn_putSecret_l87 hV htx hC 5000 y4 0 S82 h
  · exact g_vW (pc := 11) hC d_Mn_putSecret_11 h
theorem c_Mn_putSecret {V : WV} {l : Launch} (hV : IsC V) {tx : Nat} (htx : isTx tx) {S : Mem} {z : Mem} (h : f_Mn_putSecret tx S = some z) : CV V l y_Mn_putSecret bc_Mn_putSecret 4 none 4 89 [.ref (V.2.2.1 3 0), .ref (V.2.2.1 tx 0)] S z :=
  ct_v rfl (IsC.ok hV) (Nat.le_of_ble_eq_true rfl) (fun _ _ hC => w_Mn_putSecret_b0 hV htx hC S h)
def f_Mn_putTie_b56 (tx : Nat) (x2 : Int32) (x3 : Int32) (x4 : Int32) (S : Mem) : Option (Mem) :=
  gIn x2 12 (letS (sA S tx 15 x2 (jMmax 0 x3)) (fun S66 =>
  gIn x2 12 (letS (sA S66 tx 16 x2 (jMmax 0 x4)) (fun S78 =>
  letS (pI S78 tx 3 ((S78.1 tx 3) + 1)) (fun S86 =>
  some S86)))))
def f_Mn_putTie_b0 (tx : Nat) (S : Mem) : Option (Mem) :=
  letS (S.1 tx 3) (fun y4 =>
  if y4 < 12 then
    Option.bind (f_Mn_oldName 5 (S.1 tx 1) S) (fun q21 =>
    letS q21.1 (fun y24 =>
    Option.bind (f_Mn_oldName 5 (q21.2.1 tx 1) q21.2) (fun q34 =>
    letS q34.1 (fun y37 =>
    if y24 = y37 then
      Option.bind (f_Mn_failed 3 ((q34.2.1 3 3) - 1) q34.2) (fun q53 =>
      f_Mn_putTie_b56 tx y4 y24 y37 q53)
    else
      f_Mn_putTie_b56 tx y4 y24 y37 q34.2))))
  else
    some S)
def f_Mn_putTie (tx : Nat) (S : Mem) : Option (Mem) := f_Mn_putTie_b0 tx S
theorem d_Mn_putTie_0 : decode bc_Mn_putTie 0 = .ok (.aload_n 1, 1) := by decide +kernel
theorem d_Mn_putTie_1 : decode bc_Mn_putTie 1 = .ok (.getfield 144, 3) := by decide +kernel
theorem d_Mn_putTie_4 : decode bc_Mn_putTie 4 = .ok (.istore_n 2, 1) := by decide +kernel
theorem d_Mn_putTie_5 : decode bc_Mn_putTie 5 = .ok (.iload_n 2, 1) := by decide +kernel
theorem d_Mn_putTie_6 : decode bc_Mn_putTie 6 = .ok (.bipush 12, 2) := by decide +kernel
theorem d_Mn_putTie_8 : decode bc_Mn_putTie 8 = .ok (.if_icmp .lt 4, 3) := by decide +kernel
theorem d_Mn_putTie_11 : decode bc_Mn_putTie 11 = .ok (.return_, 1) := by decide +kernel
theorem d_Mn_putTie_12 : decode bc_Mn_putTie 12 = .ok (.aload_n 0, 1) := by decide +kernel
theorem d_Mn_putTie_13 : decode bc_Mn_putTie 13 = .ok (.aload_n 0, 1) := by decide +kernel
theorem d_Mn_putTie_14 : decode bc_Mn_putTie 14 = .ok (.getfield 25, 3) := by decide +kernel
theorem d_Mn_putTie_17 : decode bc_Mn_putTie 17 = .ok (.aload_n 1, 1) := by decide +kernel
theorem d_Mn_putTie_18 : decode bc_Mn_putTie 18 = .ok (.getfield 106, 3) := by decide +kernel
theorem d_Mn_putTie_21 : decode bc_Mn_putTie 21 = .ok (.invokevirtual 112, 3) := by decide +kernel
theorem d_Mn_putTie_24 : decode bc_Mn_putTie 24 = .ok (.istore_n 3, 1) := by decide +kernel
theorem d_Mn_putTie_25 : decode bc_Mn_putTie 25 = .ok (.aload_n 0, 1) := by decide +kernel
theorem d_Mn_putTie_26 : decode bc_Mn_putTie 26 = .ok (.aload_n 0, 1) := by decide +kernel
theorem d_Mn_putTie_27 : decode bc_Mn_putTie 27 = .ok (.getfield 25, 3) := by decide +kernel
theorem d_Mn_putTie_30 : decode bc_Mn_putTie 30 = .ok (.aload_n 1, 1) := by decide +kernel
theorem d_Mn_putTie_31 : decode bc_Mn_putTie 31 = .ok (.getfield 106, 3) := by decide +kernel
theorem d_Mn_putTie_34 : decode bc_Mn_putTie 34 = .ok (.invokevirtual 112, 3) := by decide +kernel
theorem d_Mn_putTie_37 : decode bc_Mn_putTie 37 = .ok (.istore 4, 2) := by decide +kernel
theorem d_Mn_putTie_39 : decode bc_Mn_putTie 39 = .ok (.iload_n 3, 1) := by decide +kernel
theorem d_Mn_putTie_40 : decode bc_Mn_putTie 40 = .ok (.iload 4, 2) := by decide +kernel
theorem d_Mn_putTie_42 : decode bc_Mn_putTie 42 = .ok (.if_icmp .ne 14, 3) := by decide +kernel
theorem d_Mn_putTie_45 : decode bc_Mn_putTie 45 = .ok (.aload_n 0, 1) := by decide +kernel
theorem d_Mn_putTie_46 : decode bc_Mn_putTie 46 = .ok (.iconst 3, 1) := by decide +kernel
theorem d_Mn_putTie_47 : decode bc_Mn_putTie 47 = .ok (.aload_n 0, 1) := by decide +kernel
theorem d_Mn_putTie_48 : decode bc_Mn_putTie 48 = .ok (.getfield 18, 3) := by decide +kernel
theorem d_Mn_putTie_51 : decode bc_Mn_putTie 51 = .ok (.iconst 1, 1) := by decide +kernel
theorem d_Mn_putTie_52 : decode bc_Mn_putTie 52 = .ok (.isub, 1) := by decide +kernel
theorem d_Mn_putTie_53 : decode bc_Mn_putTie 53 = .ok (.invokevirtual 140, 3) := by decide +kernel
theorem d_Mn_putTie_56 : decode bc_Mn_putTie 56 = .ok (.aload_n 1, 1) := by decide +kernel
theorem d_Mn_putTie_57 : decode bc_Mn_putTie 57 = .ok (.getfield 147, 3) := by decide +kernel
theorem d_Mn_putTie_60 : decode bc_Mn_putTie 60 = .ok (.iload_n 2, 1) := by decide +kernel
theorem d_Mn_putTie_61 : decode bc_Mn_putTie 61 = .ok (.iconst 0, 1) := by decide +kernel
theorem d_Mn_putTie_62 : decode bc_Mn_putTie 62 = .ok (.iload_n 3, 1) := by decide +kernel
theorem d_Mn_putTie_63 : decode bc_Mn_putTie 63 = .ok (.invokestatic 116, 3) := by decide +kernel
theorem d_Mn_putTie_66 : decode bc_Mn_putTie 66 = .ok (.iastore, 1) := by decide +kernel
theorem d_Mn_putTie_67 : decode bc_Mn_putTie 67 = .ok (.aload_n 1, 1) := by decide +kernel
theorem d_Mn_putTie_68 : decode bc_Mn_putTie 68 = .ok (.getfield 150, 3) := by decide +kernel
theorem d_Mn_putTie_71 : decode bc_Mn_putTie 71 = .ok (.iload_n 2, 1) := by decide +kernel
theorem d_Mn_putTie_72 : decode bc_Mn_putTie 72 = .ok (.iconst 0, 1) := by decide +kernel
theorem d_Mn_putTie_73 : decode bc_Mn_putTie 73 = .ok (.iload 4, 2) := by decide +kernel
theorem d_Mn_putTie_75 : decode bc_Mn_putTie 75 = .ok (.invokestatic 116, 3) := by decide +kernel
theorem d_Mn_putTie_78 : decode bc_Mn_putTie 78 = .ok (.iastore, 1) := by decide +kernel
theorem d_Mn_putTie_79 : decode bc_Mn_putTie 79 = .ok (.aload_n 1, 1) := by decide +kernel
theorem d_Mn_putTie_80 : decode bc_Mn_putTie 80 = .ok (.dup, 1) := by decide +kernel
theorem d_Mn_putTie_81 : decode bc_Mn_putTie 81 = .ok (.getfield 144, 3) := by decide +kernel
theorem d_Mn_putTie_84 : decode bc_Mn_putTie 84 = .ok (.iconst 1, 1) := by decide +kernel
theorem d_Mn_putTie_85 : decode bc_Mn_putTie 85 = .ok (.iadd, 1) := by decide +kernel
theorem d_Mn_putTie_86 : decode bc_Mn_putTie 86 = .ok (.putfield 144, 3) := by decide +kernel
theorem d_Mn_putTie_89 : decode bc_Mn_putTie 89 = .ok (.return_, 1) := by decide +kernel
set_option maxRecDepth 20000 in
theorem w_Mn_putTie_b56 {X : CX} {V : WV} {tx : Nat} (hV : IsC V) (htx : isTx tx) {z : Mem} (hC : Ck X V bc_Mn_putTie 5 "SecretWells$Meaning" none 3 66) (x2 : Int32) (x3 : Int32) (x4 : Int32) (S : Mem) (h : f_Mn_putTie_b56 tx x2 x3 x4 S = some z) : G X V 5 (QV X V z) 56 [some (.ref (V.2.2.1 3 0)), some (.ref (V.2.2.1 tx 0)), some (.int x2), some (.int x3), some (.int x4)] [] S := by
  unfold f_Mn_putTie_b56 at h
  refine g_aload_n (pc := 56) hC (i := 1) (x := (V.2.2.1 tx 0)) rfl rfl d_Mn_putTie_56 ?_
  refine g_getA (pc := 57) hC fo_Mn_147 (ob_Tx hV htx) rfl d_Mn_putTie_57 ?_
  refine g_iload_n (pc := 60) hC (i := 2) (x := x2) rfl rfl d_Mn_putTie_60 ?_
  refine g_iconst (pc := 61) hC kc_0 d_Mn_putTie_61 ?_
  refine g_iload_n (pc := 62) hC (i := 3) (x := x3) rfl rfl d_Mn_putTie_62 ?_
  refine g_mmax (pc := 63) hC lk_Mn_116 (Nat.le_of_ble_eq_true rfl) ⟨Nat.le_of_ble_eq_true rfl, Nat.le_of_ble_eq_true rfl⟩ d_Mn_putTie_63 ?_
  refine g_iast (pc := 66) hC (ar_Tx_15 hV htx) d_Mn_putTie_66 h (fun h => ?_)
  refine g_letS h (fun S66 h => ?_)
  refine g_aload_n (pc := 67) hC (i := 1) (x := (V.2.2.1 tx 0)) rfl rfl d_Mn_putTie_67 ?_
  refine g_getA (pc := 68) hC fo_Mn_150 (ob_Tx hV htx) rfl d_Mn_putTie_68 ?_
  refine g_iload_n (pc := 71) hC (i := 2) (x := x2) rfl rfl d_Mn_putTie_71 ?_
  refine g_iconst (pc := 72) hC kc_0 d_Mn_putTie_72 ?_
  refine g_iload (pc := 73) hC (i := 4) (x := x4) rfl d_Mn_putTie_73 ?_
  refine g_mmax (pc := 75) hC lk_Mn_116 (Nat.le_of_ble_eq_true rfl) ⟨Nat.le_of_ble_eq_true rfl, Nat.le_of_ble_eq_true rfl⟩ d_Mn_putTie_75 ?_
  refine g_iast (pc := 78) hC (ar_Tx_16 hV htx) d_Mn_putTie_78 h (fun h => ?_)
  refine g_letS h (fun S78 h => ?_)
  refine g_aload_n (pc := 79) hC (i := 1) (x := (V.2.2.1 tx 0)) rfl rfl d_Mn_putTie_79 ?_
  refine g_dup (pc := 80) hC rfl d_Mn_putTie_80 ?_
  refine g_getI (pc := 81) hC fo_Mn_144 (ob_Tx hV htx) rfl d_Mn_putTie_81 ?_
  refine g_iconst (pc := 84) hC kc_1 d_Mn_putTie_84 ?_
  refine g_iadd (pc := 85) hC d_Mn_putTie_85 ?_
  refine g_putI (pc := 86) hC po_Mn_144 (ob_Tx hV htx) rfl rfl rfl d_Mn_putTie_86 ?_
  refine g_letS h (fun S86 h => ?_)
  exact g_vW (pc := 89) hC d_Mn_putTie_89 h
set_option maxRecDepth 20000 in
theorem w_Mn_putTie_b0 {X : CX} {V : WV} {tx : Nat} (hV : IsC V) (htx : isTx tx) {z : Mem} (hC : Ck X V bc_Mn_putTie 5 "SecretWells$Meaning" none 3 66) (S : Mem) (h : f_Mn_putTie_b0 tx S = some z) : G X V 5 (QV X V z) 0 [some (.ref (V.2.2.1 3 0)), some (.ref (V.2.2.1 tx 0)), none, none, none] [] S := by
  unfold f_Mn_putTie_b0 at h
  refine g_aload_n (pc := 0) hC (i := 1) (x := (V.2.2.1 tx 0)) rfl rfl d_Mn_putTie_0 ?_
  refine g_getI (pc := 1) hC fo_Mn_144 (ob_Tx hV htx) rfl d_Mn_putTie_1 ?_
  refine g_leti h (fun y4 h => ?_)
  refine s_istore_n (pc := 4) hC (i := 2) rfl (by decide) d_Mn_putTie_4 (lv2 := [some (.ref (V.2.2.1 3 0)), some (.ref (V.2.2.1 tx 0)), some (.int y4), none, none]) rfl ?_
  refine g_iload_n (pc := 5) hC (i := 2) (x := y4) rfl rfl d_Mn_putTie_5 ?_
  refine g_bipush (pc := 6) hC kb_12 d_Mn_putTie_6 ?_
  refine g_icmp_lt (pc := 8) hC (tgt := 12) (by decide) d_Mn_putTie_8 h (fun h => ?_) (fun h => ?_)
  · refine g_aload_n (pc := 12) hC (i := 0) (x := (V.2.2.1 3 0)) rfl rfl d_Mn_putTie_12 ?_
    refine g_aload_n (pc := 13) hC (i := 0) (x := (V.2.2.1 3 0)) rfl rfl d_Mn_putTie_13 ?_
    refine g_getA (pc := 14) hC fo_Mn_25 (ob_Mn hV) rfl d_Mn_putTie_14 ?_
    refine g_aload_n (pc := 17) hC (i := 1) (x := (V.2.2.1 tx 0)) rfl rfl d_Mn_putTie_17 ?_
    refine g_getI (pc := 18) hC fo_Mn_106 (ob_Tx hV htx) rfl d_Mn_putTie_18 ?_
    obtain ⟨q21, hq21, h⟩ := Option.bind_eq_some_iff.mp h
    refine g_vi (pc := 21) hC (As := [.ref (V.2.2.1 3 (5 + 1)), .int (S.1 tx 1)]) (st := []) mt_Mn_oldName lk_Mn_112 rfl (ob_Mn hV) (Nat.le_of_ble_eq_true rfl) ⟨Nat.le_of_ble_eq_true rfl, Nat.le_of_ble_eq_true rfl⟩ rfl d_Mn_putTie_21 (c_Mn_oldName hV (nm_5) hq21) ?_
    refine g_leti h (fun y24 h => ?_)
    refine s_istore_n (pc := 24) hC (i := 3) rfl (by decide) d_Mn_putTie_24 (lv2 := [some (.ref (V.2.2.1 3 0)), some (.ref (V.2.2.1 tx 0)), some (.int y4), some (.int y24), none]) rfl ?_
    refine g_aload_n (pc := 25) hC (i := 0) (x := (V.2.2.1 3 0)) rfl rfl d_Mn_putTie_25 ?_
    refine g_aload_n (pc := 26) hC (i := 0) (x := (V.2.2.1 3 0)) rfl rfl d_Mn_putTie_26 ?_
    refine g_getA (pc := 27) hC fo_Mn_25 (ob_Mn hV) rfl d_Mn_putTie_27 ?_
    refine g_aload_n (pc := 30) hC (i := 1) (x := (V.2.2.1 tx 0)) rfl rfl d_Mn_putTie_30 ?_
    refine g_getI (pc := 31) hC fo_Mn_106 (ob_Tx hV htx) rfl d_Mn_putTie_31 ?_
    obtain ⟨q34, hq34, h⟩ := Option.bind_eq_some_iff.mp h
    refine g_vi (pc := 34) hC (As := [.ref (V.2.2.1 3 (5 + 1)), .int (q21.2.1 tx 1)]) (st := []) mt_Mn_oldName lk_Mn_112 rfl (ob_Mn hV) (Nat.le_of_ble_eq_true rfl) ⟨Nat.le_of_ble_eq_true rfl, Nat.le_of_ble_eq_true rfl⟩ rfl d_Mn_putTie_34 (c_Mn_oldName hV (nm_5) hq34) ?_
    refine g_leti h (fun y37 h => ?_)
    refine s_istore (pc := 37) hC (i := 4) (by decide) d_Mn_putTie_37 (lv2 := [some (.ref (V.2.2.1 3 0)), some (.ref (V.2.2.1 tx 0)), some (.int y4), some (.int y24), some (.int y37)]) rfl ?_
    refine g_iload_n (pc := 39) hC (i := 3) (x := y24) rfl rfl d_Mn_putTie_39 ?_
    refine g_iload (pc := 40) hC (i := 4) (x := y37) rfl d_Mn_putTie_40 ?_
    refine g_icmp_ne (pc := 42) hC (tgt := 56) (by decide) d_Mn_putTie_42 h (fun h => ?_) (fun h => ?_)
    · exact w_Mn_putTie_b56 hV htx hC y4 y24 y37 q34.2 h
    · refine g_aload_n (pc := 45) hC (i := 0) (x := (V.2.2.1 3 0)) rfl rfl d_Mn_putTie_45 ?_
      refine g_iconst (pc := 46) hC kc_3 d_Mn_putTie_46 ?_
      refine g_aload_n (pc := 47) hC (i := 0) (x := (V.2.2.1 3 0)) rfl rfl d_Mn_putTie_47 ?_
      refine g_getI (pc := 48) hC fo_Mn_18 (ob_Mn hV) rfl d_Mn_putTie_48 ?_
      refine g_iconst (pc := 51) hC kc_1 d_Mn_putTie_51 ?_
      refine g_isub (pc := 52) hC d_Mn_putTie_52 ?_
      obtain ⟨q53, hq53, h⟩ := Option.bind_eq_some_iff.mp h
      refine g_vv (pc := 53) hC (As := [.int 3, .int ((q34.2.1 3 3) - 1)]) (st := []) mt_Mn_failed lk_Mn_140 rfl (ob_Mn hV) (Nat.le_of_ble_eq_true rfl) ⟨Nat.le_of_ble_eq_true rfl, Nat.le_of_ble_eq_true rfl⟩ rfl d_Mn_putTie_53 (c_Mn_failed hV hq53) ?_
      exact w_Mn_putTie_b56 hV htx hC y4 y24 y37 q53 h
  · exact g_vW (pc := 11) hC d_Mn_putTie_11 h
theorem c_Mn_putTie {V : WV} {l : Launch} (hV : IsC V) {tx : Nat} (htx : isTx tx) {S : Mem} {z : Mem} (h : f_Mn_putTie tx S = some z) : CV V l y_Mn_putTie bc_Mn_putTie 5 none 3 66 [.ref (V.2.2.1 3 0), .ref (V.2.2.1 tx 0)] S z :=
  ct_v rfl (IsC.ok hV) (Nat.le_of_ble_eq_true rfl) (fun _ _ hC => w_Mn_putTie_b0 hV htx hC S h)
def f_Mn_putLaw_b96 (lw : Nat) (S : Mem) : Option (Mem) :=
  Option.bind (f_Lw_finish lw S) (fun q97 =>
  some q97)
def f_Mn_putLaw_b16 (lw : Nat) (k16 : Int32 → Mem → Option (Mem)) (x2 : Int32) (S : Mem) : Option (Mem) :=
  if 400 < x2 then
    f_Mn_putLaw_b96 lw S
  else
    Option.bind (f_Tp_kindAt (S.1 3 3) S) (fun q31 =>
    if q31 = 59 then
      f_Mn_putLaw_b96 lw S
    else
      Option.bind (f_Tp_kindAt (S.1 3 3) S) (fun q47 =>
      if q47 = 0 then
        f_Mn_putLaw_b96 lw S
      else
        Option.bind (f_Tp_kindAt (S.1 3 3) S) (fun q62 =>
        Option.bind (f_Tp_valueAt (S.1 3 3) S) (fun q73 =>
        Option.bind (f_Lw_add lw q62 q73.toInt32 S) (fun q77 =>
        letS (pI q77 3 3 ((q77.1 3 3) + 1)) (fun S87 =>
        k16 (x2 + 1) S87))))))
def f_Mn_putLaw_l16 (lw : Nat) : Nat → Int32 → Mem → Option (Mem)
  | 0 => fun _ _ => none
  | n + 1 => f_Mn_putLaw_b16 lw (f_Mn_putLaw_l16 lw n)
def f_Mn_putLaw_b0 (lw : Nat) (S : Mem) : Option (Mem) :=
  Option.bind (f_Lw_begin lw S) (fun q1 =>
  letS (pI q1 3 3 ((q1.1 3 3) + 1)) (fun S11 =>
  f_Mn_putLaw_l16 lw 5000 0 S11))
def f_Mn_putLaw (lw : Nat) (S : Mem) : Option (Mem) := f_Mn_putLaw_b0 lw S
theorem d_Mn_putLaw_0 : decode bc_Mn_putLaw 0 = .ok (.aload_n 1, 1) := by decide +kernel
theorem d_Mn_putLaw_1 : decode bc_Mn_putLaw 1 = .ok (.invokevirtual 153, 3) := by decide +kernel
theorem d_Mn_putLaw_4 : decode bc_Mn_putLaw 4 = .ok (.aload_n 0, 1) := by decide +kernel
theorem d_Mn_putLaw_5 : decode bc_Mn_putLaw 5 = .ok (.dup, 1) := by decide +kernel
theorem d_Mn_putLaw_6 : decode bc_Mn_putLaw 6 = .ok (.getfield 18, 3) := by decide +kernel
theorem d_Mn_putLaw_9 : decode bc_Mn_putLaw 9 = .ok (.iconst 1, 1) := by decide +kernel
theorem d_Mn_putLaw_10 : decode bc_Mn_putLaw 10 = .ok (.iadd, 1) := by decide +kernel
theorem d_Mn_putLaw_11 : decode bc_Mn_putLaw 11 = .ok (.putfield 18, 3) := by decide +kernel
theorem d_Mn_putLaw_14 : decode bc_Mn_putLaw 14 = .ok (.iconst 0, 1) := by decide +kernel
theorem d_Mn_putLaw_15 : decode bc_Mn_putLaw 15 = .ok (.istore_n 2, 1) := by decide +kernel
theorem d_Mn_putLaw_16 : decode bc_Mn_putLaw 16 = .ok (.iload_n 2, 1) := by decide +kernel
theorem d_Mn_putLaw_17 : decode bc_Mn_putLaw 17 = .ok (.sipush 400, 3) := by decide +kernel
theorem d_Mn_putLaw_20 : decode bc_Mn_putLaw 20 = .ok (.if_icmp .gt 76, 3) := by decide +kernel
theorem d_Mn_putLaw_23 : decode bc_Mn_putLaw 23 = .ok (.aload_n 0, 1) := by decide +kernel
theorem d_Mn_putLaw_24 : decode bc_Mn_putLaw 24 = .ok (.getfield 31, 3) := by decide +kernel
theorem d_Mn_putLaw_27 : decode bc_Mn_putLaw 27 = .ok (.aload_n 0, 1) := by decide +kernel
theorem d_Mn_putLaw_28 : decode bc_Mn_putLaw 28 = .ok (.getfield 18, 3) := by decide +kernel
theorem d_Mn_putLaw_31 : decode bc_Mn_putLaw 31 = .ok (.invokevirtual 40, 3) := by decide +kernel
theorem d_Mn_putLaw_34 : decode bc_Mn_putLaw 34 = .ok (.bipush 59, 2) := by decide +kernel
theorem d_Mn_putLaw_36 : decode bc_Mn_putLaw 36 = .ok (.if_icmp .eq 60, 3) := by decide +kernel
theorem d_Mn_putLaw_39 : decode bc_Mn_putLaw 39 = .ok (.aload_n 0, 1) := by decide +kernel
theorem d_Mn_putLaw_40 : decode bc_Mn_putLaw 40 = .ok (.getfield 31, 3) := by decide +kernel
theorem d_Mn_putLaw_43 : decode bc_Mn_putLaw 43 = .ok (.aload_n 0, 1) := by decide +kernel
theorem d_Mn_putLaw_44 : decode bc_Mn_putLaw 44 = .ok (.getfield 18, 3) := by decide +kernel
theorem d_Mn_putLaw_47 : decode bc_Mn_putLaw 47 = .ok (.invokevirtual 40, 3) := by decide +kernel
theorem d_Mn_putLaw_50 : decode bc_Mn_putLaw 50 = .ok (.ifCond .eq 46, 3) := by decide +kernel
theorem d_Mn_putLaw_53 : decode bc_Mn_putLaw 53 = .ok (.aload_n 1, 1) := by decide +kernel
theorem d_Mn_putLaw_54 : decode bc_Mn_putLaw 54 = .ok (.aload_n 0, 1) := by decide +kernel
theorem d_Mn_putLaw_55 : decode bc_Mn_putLaw 55 = .ok (.getfield 31, 3) := by decide +kernel
theorem d_Mn_putLaw_58 : decode bc_Mn_putLaw 58 = .ok (.aload_n 0, 1) := by decide +kernel
theorem d_Mn_putLaw_59 : decode bc_Mn_putLaw 59 = .ok (.getfield 18, 3) := by decide +kernel
theorem d_Mn_putLaw_62 : decode bc_Mn_putLaw 62 = .ok (.invokevirtual 40, 3) := by decide +kernel
theorem d_Mn_putLaw_65 : decode bc_Mn_putLaw 65 = .ok (.aload_n 0, 1) := by decide +kernel
theorem d_Mn_putLaw_66 : decode bc_Mn_putLaw 66 = .ok (.getfield 31, 3) := by decide +kernel
theorem d_Mn_putLaw_69 : decode bc_Mn_putLaw 69 = .ok (.aload_n 0, 1) := by decide +kernel
theorem d_Mn_putLaw_70 : decode bc_Mn_putLaw 70 = .ok (.getfield 18, 3) := by decide +kernel
theorem d_Mn_putLaw_73 : decode bc_Mn_putLaw 73 = .ok (.invokevirtual 158, 3) := by decide +kernel
theorem d_Mn_putLaw_76 : decode bc_Mn_putLaw 76 = .ok (.l2i, 1) := by decide +kernel
theorem d_Mn_putLaw_77 : decode bc_Mn_putLaw 77 = .ok (.invokevirtual 162, 3) := by decide +kernel
theorem d_Mn_putLaw_80 : decode bc_Mn_putLaw 80 = .ok (.aload_n 0, 1) := by decide +kernel
theorem d_Mn_putLaw_81 : decode bc_Mn_putLaw 81 = .ok (.dup, 1) := by decide +kernel
theorem d_Mn_putLaw_82 : decode bc_Mn_putLaw 82 = .ok (.getfield 18, 3) := by decide +kernel
theorem d_Mn_putLaw_85 : decode bc_Mn_putLaw 85 = .ok (.iconst 1, 1) := by decide +kernel
theorem d_Mn_putLaw_86 : decode bc_Mn_putLaw 86 = .ok (.iadd, 1) := by decide +kernel
theorem d_Mn_putLaw_87 : decode bc_Mn_putLaw 87 = .ok (.putfield 18, 3) := by decide +kernel
theorem d_Mn_putLaw_90 : decode bc_Mn_putLaw 90 = .ok (.iinc 2 1, 3) := by decide +kernel
theorem d_Mn_putLaw_93 : decode bc_Mn_putLaw 93 = .ok (.goto (-77), 3) := by decide +kernel
theorem d_Mn_putLaw_96 : decode bc_Mn_putLaw 96 = .ok (.aload_n 1, 1) := by decide +kernel
theorem d_Mn_putLaw_97 : decode bc_Mn_putLaw 97 = .ok (.invokevirtual 165, 3) := by decide +kernel
theorem d_Mn_putLaw_100 : decode bc_Mn_putLaw 100 = .ok (.return_, 1) := by decide +kernel
set_option maxRecDepth 20000 in
theorem w_Mn_putLaw_b96 {X : CX} {V : WV} {lw : Nat} (hV : IsC V) (hlw : isLw lw) {z : Mem} (hC : Ck X V bc_Mn_putLaw 3 "SecretWells$Meaning" none 4 85) (S : Mem) (h : f_Mn_putLaw_b96 lw S = some z) : G X V 3 (QV X V z) 96 [some (.ref (V.2.2.1 3 0)), some (.ref (V.2.2.1 lw 0)), none] [] S := by
  unfold f_Mn_putLaw_b96 at h
  refine g_aload_n (pc := 96) hC (i := 1) (x := (V.2.2.1 lw 0)) rfl rfl d_Mn_putLaw_96 ?_
  obtain ⟨q97, hq97, h⟩ := Option.bind_eq_some_iff.mp h
  refine g_vv (pc := 97) hC (As := []) (st := []) mt_Lw_finish lk_Mn_165 rfl (ob_Lw hV hlw) (Nat.le_of_ble_eq_true rfl) ⟨Nat.le_of_ble_eq_true rfl, Nat.le_of_ble_eq_true rfl⟩ rfl d_Mn_putLaw_97 (c_Lw_finish hV hlw hq97) ?_
  exact g_vW (pc := 100) hC d_Mn_putLaw_100 h
set_option maxRecDepth 20000 in
theorem w_Mn_putLaw_b16 {X : CX} {V : WV} {lw : Nat} (hV : IsC V) (hlw : isLw lw) {z : Mem} (hC : Ck X V bc_Mn_putLaw 3 "SecretWells$Meaning" none 4 85) (k16 : Int32 → Mem → Option (Mem)) (hk16 : ∀ (x2 : Int32) (S : Mem), k16 x2 S = some z → G X V 3 (QV X V z) 16 [some (.ref (V.2.2.1 3 0)), some (.ref (V.2.2.1 lw 0)), some (.int x2)] [] S) (x2 : Int32) (S : Mem) (h : f_Mn_putLaw_b16 lw k16 x2 S = some z) : G X V 3 (QV X V z) 16 [some (.ref (V.2.2.1 3 0)), some (.ref (V.2.2.1 lw 0)), some (.int x2)] [] S := by
  unfold f_Mn_putLaw_b16 at h
  refine g_iload_n (pc := 16) hC (i := 2) (x := x2) rfl rfl d_Mn_putLaw_16 ?_
  refine g_sipush (pc := 17) hC ks_400 d_Mn_putLaw_17 ?_
  refine g_icmp_gt (pc := 20) hC (tgt := 96) (by decide) d_Mn_putLaw_20 h (fun h => ?_) (fun h => ?_)
  · refine g_le (lv2 := [some (.ref (V.2.2.1 3 0)), some (.ref (V.2.2.1 lw 0)), none]) (⟨rfl, ⟨rfl, trivial⟩⟩) ?_
    exact w_Mn_putLaw_b96 hV hlw hC S h
  · refine g_aload_n (pc := 23) hC (i := 0) (x := (V.2.2.1 3 0)) rfl rfl d_Mn_putLaw_23 ?_
    refine g_getC (pc := 24) hC (j := 1) fo_Mn_31 (ob_Mn hV) rfl d_Mn_putLaw_24 ?_
    refine g_aload_n (pc := 27) hC (i := 0) (x := (V.2.2.1 3 0)) rfl rfl d_Mn_putLaw_27 ?_
    refine g_getI (pc := 28) hC fo_Mn_18 (ob_Mn hV) rfl d_Mn_putLaw_28 ?_
    obtain ⟨q31, hq31, h⟩ := Option.bind_eq_some_iff.mp h
    refine g_vi (pc := 31) hC (As := [.int (S.1 3 3)]) (st := []) mt_Tp_kindAt lk_Mn_40 rfl (ob_Tp hV) (Nat.le_of_ble_eq_true rfl) ⟨Nat.le_of_ble_eq_true rfl, Nat.le_of_ble_eq_true rfl⟩ rfl d_Mn_putLaw_31 (c_Tp_kindAt hV hq31) ?_
    refine g_bipush (pc := 34) hC kb_59 d_Mn_putLaw_34 ?_
    refine g_icmp_eq (pc := 36) hC (tgt := 96) (by decide) d_Mn_putLaw_36 h (fun h => ?_) (fun h => ?_)
    · refine g_le (lv2 := [some (.ref (V.2.2.1 3 0)), some (.ref (V.2.2.1 lw 0)), none]) (⟨rfl, ⟨rfl, trivial⟩⟩) ?_
      exact w_Mn_putLaw_b96 hV hlw hC S h
    · refine g_aload_n (pc := 39) hC (i := 0) (x := (V.2.2.1 3 0)) rfl rfl d_Mn_putLaw_39 ?_
      refine g_getC (pc := 40) hC (j := 1) fo_Mn_31 (ob_Mn hV) rfl d_Mn_putLaw_40 ?_
      refine g_aload_n (pc := 43) hC (i := 0) (x := (V.2.2.1 3 0)) rfl rfl d_Mn_putLaw_43 ?_
      refine g_getI (pc := 44) hC fo_Mn_18 (ob_Mn hV) rfl d_Mn_putLaw_44 ?_
      obtain ⟨q47, hq47, h⟩ := Option.bind_eq_some_iff.mp h
      refine g_vi (pc := 47) hC (As := [.int (S.1 3 3)]) (st := []) mt_Tp_kindAt lk_Mn_40 rfl (ob_Tp hV) (Nat.le_of_ble_eq_true rfl) ⟨Nat.le_of_ble_eq_true rfl, Nat.le_of_ble_eq_true rfl⟩ rfl d_Mn_putLaw_47 (c_Tp_kindAt hV hq47) ?_
      refine g_if_eq (pc := 50) hC (tgt := 96) (by decide) d_Mn_putLaw_50 h (fun h => ?_) (fun h => ?_)
      · refine g_le (lv2 := [some (.ref (V.2.2.1 3 0)), some (.ref (V.2.2.1 lw 0)), none]) (⟨rfl, ⟨rfl, trivial⟩⟩) ?_
        exact w_Mn_putLaw_b96 hV hlw hC S h
      · refine g_aload_n (pc := 53) hC (i := 1) (x := (V.2.2.1 lw 0)) rfl rfl d_Mn_putLaw_53 ?_
        refine g_aload_n (pc := 54) hC (i := 0) (x := (V.2.2.1 3 0)) rfl rfl d_Mn_putLaw_54 ?_
        refine g_getC (pc := 55) hC (j := 1) fo_Mn_31 (ob_Mn hV) rfl d_Mn_putLaw_55 ?_
        refine g_aload_n (pc := 58) hC (i := 0) (x := (V.2.2.1 3 0)) rfl rfl d_Mn_putLaw_58 ?_
        refine g_getI (pc := 59) hC fo_Mn_18 (ob_Mn hV) rfl d_Mn_putLaw_59 ?_
        obtain ⟨q62, hq62, h⟩ := Option.bind_eq_some_iff.mp h
        refine g_vi (pc := 62) hC (As := [.int (S.1 3 3)]) (st := [.ref (V.2.2.1 lw 0)]) mt_Tp_kindAt lk_Mn_40 rfl (ob_Tp hV) (Nat.le_of_ble_eq_true rfl) ⟨Nat.le_of_ble_eq_true rfl, Nat.le_of_ble_eq_true rfl⟩ rfl d_Mn_putLaw_62 (c_Tp_kindAt hV hq62) ?_
        refine g_aload_n (pc := 65) hC (i := 0) (x := (V.2.2.1 3 0)) rfl rfl d_Mn_putLaw_65 ?_
        refine g_getC (pc := 66) hC (j := 1) fo_Mn_31 (ob_Mn hV) rfl d_Mn_putLaw_66 ?_
        refine g_aload_n (pc := 69) hC (i := 0) (x := (V.2.2.1 3 0)) rfl rfl d_Mn_putLaw_69 ?_
        refine g_getI (pc := 70) hC fo_Mn_18 (ob_Mn hV) rfl d_Mn_putLaw_70 ?_
        obtain ⟨q73, hq73, h⟩ := Option.bind_eq_some_iff.mp h
        refine g_vl (pc := 73) hC (As := [.int (S.1 3 3)]) (st := [.int q62, .ref (V.2.2.1 lw 0)]) mt_Tp_valueAt lk_Mn_158 rfl (ob_Tp hV) (Nat.le_of_ble_eq_true rfl) ⟨Nat.le_of_ble_eq_true rfl, Nat.le_of_ble_eq_true rfl⟩ rfl d_Mn_putLaw_73 (c_Tp_valueAt hV hq73) ?_
        refine g_l2i (pc := 76) hC d_Mn_putLaw_76 ?_
        obtain ⟨q77, hq77, h⟩ := Option.bind_eq_some_iff.mp h
        refine g_vv (pc := 77) hC (As := [.int q62, .int q73.toInt32]) (st := []) mt_Lw_add lk_Mn_162 rfl (ob_Lw hV hlw) (Nat.le_of_ble_eq_true rfl) ⟨Nat.le_of_ble_eq_true rfl, Nat.le_of_ble_eq_true rfl⟩ rfl d_Mn_putLaw_77 (c_Lw_add hV hlw hq77) ?_
        refine g_aload_n (pc := 80) hC (i := 0) (x := (V.2.2.1 3 0)) rfl rfl d_Mn_putLaw_80 ?_
        refine g_dup (pc := 81) hC rfl d_Mn_putLaw_81 ?_
        refine g_getI (pc := 82) hC fo_Mn_18 (ob_Mn hV) rfl d_Mn_putLaw_82 ?_
        refine g_iconst (pc := 85) hC kc_1 d_Mn_putLaw_85 ?_
        refine g_iadd (pc := 86) hC d_Mn_putLaw_86 ?_
        refine g_putI (pc := 87) hC po_Mn_18 (ob_Mn hV) rfl rfl rfl d_Mn_putLaw_87 ?_
        refine g_letS h (fun S87 h => ?_)
        refine s_iinc (pc := 90) hC (i := 2) (x := x2) (v := x2 + 1) rfl (by rw [kc_1]) (by decide) d_Mn_putLaw_90 (lv2 := [some (.ref (V.2.2.1 3 0)), some (.ref (V.2.2.1 lw 0)), some (.int (x2 + 1))]) rfl ?_
        refine g_goto (pc := 93) hC (tgt := 16) (by decide) d_Mn_putLaw_93 ?_
        exact hk16 (x2 + 1) S87 h
theorem w_Mn_putLaw_l16 {X : CX} {V : WV} {lw : Nat} (hV : IsC V) (hlw : isLw lw) {z : Mem} (hC : Ck X V bc_Mn_putLaw 3 "SecretWells$Meaning" none 4 85) : ∀ (n : Nat) (x2 : Int32) (S : Mem), f_Mn_putLaw_l16 lw n x2 S = some z → G X V 3 (QV X V z) 16 [some (.ref (V.2.2.1 3 0)), some (.ref (V.2.2.1 lw 0)), some (.int x2)] [] S := by
  intro n
  induction n with
  | zero =>
    intro x2 S h
    have h : (none : Option (Mem)) = some z := h
    cases h
  | succ n ih =>
    intro x2 S h
    exact w_Mn_putLaw_b16 hV hlw hC (f_Mn_putLaw_l16 lw n) ih x2 S h
set_option maxRecDepth 20000 in
theorem w_Mn_putLaw_b0 {X : CX} {V : WV} {lw : Nat} (hV : IsC V) (hlw : isLw lw) {z : Mem} (hC : Ck X V bc_Mn_putLaw 3 "SecretWells$Meaning" none 4 85) (S : Mem) (h : f_Mn_putLaw_b0 lw S = some z) : G X V 3 (QV X V z) 0 [some (.ref (V.2.2.1 3 0)), some (.ref (V.2.2.1 lw 0)), none] [] S := by
  unfold f_Mn_putLaw_b0 at h
  refine g_aload_n (pc := 0) hC (i := 1) (x := (V.2.2.1 lw 0)) rfl rfl d_Mn_putLaw_0 ?_
  obtain ⟨q1, hq1, h⟩ := Option.bind_eq_some_iff.mp h
  refine g_vv (pc := 1) hC (As := []) (st := []) mt_Lw_begin lk_Mn_153 rfl (ob_Lw hV hlw) (Nat.le_of_ble_eq_true rfl) ⟨Nat.le_of_ble_eq_true rfl, Nat.le_of_ble_eq_true rfl⟩ rfl d_Mn_putLaw_1 (c_Lw_begin hV hlw hq1) ?_
  refine g_aload_n (pc := 4) hC (i := 0) (x := (V.2.2.1 3 0)) rfl rfl d_Mn_putLaw_4 ?_
  refine g_dup (pc := 5) hC rfl d_Mn_putLaw_5 ?_
  refine g_getI (pc := 6) hC fo_Mn_18 (ob_Mn hV) rfl d_Mn_putLaw_6 ?_
  refine g_iconst (pc := 9) hC kc_1 d_Mn_putLaw_9 ?_
  refine g_iadd (pc := 10) hC d_Mn_putLaw_10 ?_
  refine g_putI (pc := 11) hC po_Mn_18 (ob_Mn hV) rfl rfl rfl d_Mn_putLaw_11 ?_
  refine g_letS h (fun S11 h => ?_)
  refine g_iconst (pc := 14) hC kc_0 d_Mn_putLaw_14 ?_
  refine s_istore_n (pc := 15) hC (i := 2) rfl (by decide) d_Mn_putLaw_15 (lv2 := [some (.ref (V.2.2.1 3 0)), some (.ref (V.2.2.1 lw 0)), some (.int 0)]) rfl ?_
  exact w_Mn_putLaw_l16 hV hlw hC 5000 0 S11 h
theorem c_Mn_putLaw {V : WV} {l : Launch} (hV : IsC V) {lw : Nat} (hlw : isLw lw) {S : Mem} {z : Mem} (h : f_Mn_putLaw lw S = some z) : CV V l y_Mn_putLaw bc_Mn_putLaw 3 none 4 85 [.ref (V.2.2.1 3 0), .ref (V.2.2.1 lw 0)] S z :=
  ct_v rfl (IsC.ok hV) (Nat.le_of_ble_eq_true rfl) (fun _ _ hC => w_Mn_putLaw_b0 hV hlw hC S h)
def f_Mn_putTell_b177 (tx : Nat) (S : Mem) : Option (Mem) :=
  letS (pI S 3 3 ((S.1 3 3) + 1)) (fun S184 =>
  some S184)
def f_Mn_putTell_b0 (tx : Nat) (S : Mem) : Option (Mem) :=
  Option.bind (f_Tp_kindAt (S.1 3 3) S) (fun q8 =>
  letS (pI S 3 3 ((S.1 3 3) + 1)) (fun S19 =>
  if q8 = 128 then
    Option.bind (f_Mn_putWell tx S19) (fun q74 =>
    f_Mn_putTell_b177 tx q74)
  else if q8 = 129 then
    Option.bind (f_Mn_putMan tx S19) (fun q82 =>
    f_Mn_putTell_b177 tx q82)
  else if q8 = 130 then
    Option.bind (f_Mn_putSecret tx S19) (fun q90 =>
    f_Mn_putTell_b177 tx q90)
  else if q8 = 131 then
    Option.bind (f_Mn_putTie tx S19) (fun q98 =>
    f_Mn_putTell_b177 tx q98)
  else if q8 = 132 then
    Option.bind (f_Mn_putLaw (tx + 1) S19) (fun q109 =>
    f_Mn_putTell_b177 tx q109)
  else if q8 = 133 then
    Option.bind (f_Mn_putLaw (tx + 2) S19) (fun q120 =>
    f_Mn_putTell_b177 tx q120)
  else if q8 = 134 then
    Option.bind (f_Mn_putLaw (tx + 3) S19) (fun q131 =>
    f_Mn_putTell_b177 tx q131)
  else if q8 = 135 then
    Option.bind (f_Mn_number 1 99 S19) (fun q142 =>
    letS (pI q142.2 tx 5 q142.1) (fun S145 =>
    f_Mn_putTell_b177 tx S145))
  else if q8 = 136 then
    Option.bind (f_Mn_number 0 99 S19) (fun q156 =>
    letS (pI q156.2 tx 6 q156.1) (fun S159 =>
    f_Mn_putTell_b177 tx S159))
  else 
    Option.bind (f_Mn_number 0 9999 S19) (fun q171 =>
    letS (pI q171.2 tx 7 q171.1) (fun S174 =>
    f_Mn_putTell_b177 tx S174))))
def f_Mn_putTell (tx : Nat) (S : Mem) : Option (Mem) := f_Mn_putTell_b0 tx S
theorem d_Mn_putTell_0 : decode bc_Mn_putTell 0 = .ok (.aload_n 0, 1) := by decide +kernel
theorem d_Mn_putTell_1 : decode bc_Mn_putTell 1 = .ok (.getfield 31, 3) := by decide +kernel
theorem d_Mn_putTell_4 : decode bc_Mn_putTell 4 = .ok (.aload_n 0, 1) := by decide +kernel
theorem d_Mn_putTell_5 : decode bc_Mn_putTell 5 = .ok (.getfield 18, 3) := by decide +kernel
theorem d_Mn_putTell_8 : decode bc_Mn_putTell 8 = .ok (.invokevirtual 40, 3) := by decide +kernel
theorem d_Mn_putTell_11 : decode bc_Mn_putTell 11 = .ok (.istore_n 2, 1) := by decide +kernel
theorem d_Mn_putTell_12 : decode bc_Mn_putTell 12 = .ok (.aload_n 0, 1) := by decide +kernel
theorem d_Mn_putTell_13 : decode bc_Mn_putTell 13 = .ok (.dup, 1) := by decide +kernel
theorem d_Mn_putTell_14 : decode bc_Mn_putTell 14 = .ok (.getfield 18, 3) := by decide +kernel
theorem d_Mn_putTell_17 : decode bc_Mn_putTell 17 = .ok (.iconst 1, 1) := by decide +kernel
theorem d_Mn_putTell_18 : decode bc_Mn_putTell 18 = .ok (.iadd, 1) := by decide +kernel
theorem d_Mn_putTell_19 : decode bc_Mn_putTell 19 = .ok (.putfield 18, 3) := by decide +kernel
theorem d_Mn_putTell_22 : decode bc_Mn_putTell 22 = .ok (.iload_n 2, 1) := by decide +kernel
theorem d_Mn_putTell_23 : decode bc_Mn_putTell 23 = .ok (.tableswitch 142 128 136 #[49, 57, 65, 73, 81, 92, 103, 114, 128], 49) := by decide +kernel
theorem d_Mn_putTell_72 : decode bc_Mn_putTell 72 = .ok (.aload_n 0, 1) := by decide +kernel
theorem d_Mn_putTell_73 : decode bc_Mn_putTell 73 = .ok (.aload_n 1, 1) := by decide +kernel
theorem d_Mn_putTell_74 : decode bc_Mn_putTell 74 = .ok (.invokevirtual 53, 3) := by decide +kernel
theorem d_Mn_putTell_77 : decode bc_Mn_putTell 77 = .ok (.goto 100, 3) := by decide +kernel
theorem d_Mn_putTell_80 : decode bc_Mn_putTell 80 = .ok (.aload_n 0, 1) := by decide +kernel
theorem d_Mn_putTell_81 : decode bc_Mn_putTell 81 = .ok (.aload_n 1, 1) := by decide +kernel
theorem d_Mn_putTell_82 : decode bc_Mn_putTell 82 = .ok (.invokevirtual 56, 3) := by decide +kernel
theorem d_Mn_putTell_85 : decode bc_Mn_putTell 85 = .ok (.goto 92, 3) := by decide +kernel
theorem d_Mn_putTell_88 : decode bc_Mn_putTell 88 = .ok (.aload_n 0, 1) := by decide +kernel
theorem d_Mn_putTell_89 : decode bc_Mn_putTell 89 = .ok (.aload_n 1, 1) := by decide +kernel
theorem d_Mn_putTell_90 : decode bc_Mn_putTell 90 = .ok (.invokevirtual 59, 3) := by decide +kernel
theorem d_Mn_putTell_93 : decode bc_Mn_putTell 93 = .ok (.goto 84, 3) := by decide +kernel
theorem d_Mn_putTell_96 : decode bc_Mn_putTell 96 = .ok (.aload_n 0, 1) := by decide +kernel
theorem d_Mn_putTell_97 : decode bc_Mn_putTell 97 = .ok (.aload_n 1, 1) := by decide +kernel
theorem d_Mn_putTell_98 : decode bc_Mn_putTell 98 = .ok (.invokevirtual 62, 3) := by decide +kernel
theorem d_Mn_putTell_101 : decode bc_Mn_putTell 101 = .ok (.goto 76, 3) := by decide +kernel
theorem d_Mn_putTell_104 : decode bc_Mn_putTell 104 = .ok (.aload_n 0, 1) := by decide +kernel
theorem d_Mn_putTell_105 : decode bc_Mn_putTell 105 = .ok (.aload_n 1, 1) := by decide +kernel
theorem d_Mn_putTell_106 : decode bc_Mn_putTell 106 = .ok (.getfield 65, 3) := by decide +kernel
theorem d_Mn_putTell_109 : decode bc_Mn_putTell 109 = .ok (.invokevirtual 69, 3) := by decide +kernel
theorem d_Mn_putTell_112 : decode bc_Mn_putTell 112 = .ok (.goto 65, 3) := by decide +kernel
theorem d_Mn_putTell_115 : decode bc_Mn_putTell 115 = .ok (.aload_n 0, 1) := by decide +kernel
theorem d_Mn_putTell_116 : decode bc_Mn_putTell 116 = .ok (.aload_n 1, 1) := by decide +kernel
theorem d_Mn_putTell_117 : decode bc_Mn_putTell 117 = .ok (.getfield 73, 3) := by decide +kernel
theorem d_Mn_putTell_120 : decode bc_Mn_putTell 120 = .ok (.invokevirtual 69, 3) := by decide +kernel
theorem d_Mn_putTell_123 : decode bc_Mn_putTell 123 = .ok (.goto 54, 3) := by decide +kernel
theorem d_Mn_putTell_126 : decode bc_Mn_putTell 126 = .ok (.aload_n 0, 1) := by decide +kernel
theorem d_Mn_putTell_127 : decode bc_Mn_putTell 127 = .ok (.aload_n 1, 1) := by decide +kernel
theorem d_Mn_putTell_128 : decode bc_Mn_putTell 128 = .ok (.getfield 76, 3) := by decide +kernel
theorem d_Mn_putTell_131 : decode bc_Mn_putTell 131 = .ok (.invokevirtual 69, 3) := by decide +kernel
theorem d_Mn_putTell_134 : decode bc_Mn_putTell 134 = .ok (.goto 43, 3) := by decide +kernel
theorem d_Mn_putTell_137 : decode bc_Mn_putTell 137 = .ok (.aload_n 1, 1) := by decide +kernel
theorem d_Mn_putTell_138 : decode bc_Mn_putTell 138 = .ok (.aload_n 0, 1) := by decide +kernel
theorem d_Mn_putTell_139 : decode bc_Mn_putTell 139 = .ok (.iconst 1, 1) := by decide +kernel
theorem d_Mn_putTell_140 : decode bc_Mn_putTell 140 = .ok (.bipush 99, 2) := by decide +kernel
theorem d_Mn_putTell_142 : decode bc_Mn_putTell 142 = .ok (.invokevirtual 79, 3) := by decide +kernel
theorem d_Mn_putTell_145 : decode bc_Mn_putTell 145 = .ok (.putfield 83, 3) := by decide +kernel
theorem d_Mn_putTell_148 : decode bc_Mn_putTell 148 = .ok (.goto 29, 3) := by decide +kernel
theorem d_Mn_putTell_151 : decode bc_Mn_putTell 151 = .ok (.aload_n 1, 1) := by decide +kernel
theorem d_Mn_putTell_152 : decode bc_Mn_putTell 152 = .ok (.aload_n 0, 1) := by decide +kernel
theorem d_Mn_putTell_153 : decode bc_Mn_putTell 153 = .ok (.iconst 0, 1) := by decide +kernel
theorem d_Mn_putTell_154 : decode bc_Mn_putTell 154 = .ok (.bipush 99, 2) := by decide +kernel
theorem d_Mn_putTell_156 : decode bc_Mn_putTell 156 = .ok (.invokevirtual 79, 3) := by decide +kernel
theorem d_Mn_putTell_159 : decode bc_Mn_putTell 159 = .ok (.putfield 86, 3) := by decide +kernel
theorem d_Mn_putTell_162 : decode bc_Mn_putTell 162 = .ok (.goto 15, 3) := by decide +kernel
theorem d_Mn_putTell_165 : decode bc_Mn_putTell 165 = .ok (.aload_n 1, 1) := by decide +kernel
theorem d_Mn_putTell_166 : decode bc_Mn_putTell 166 = .ok (.aload_n 0, 1) := by decide +kernel
theorem d_Mn_putTell_167 : decode bc_Mn_putTell 167 = .ok (.iconst 0, 1) := by decide +kernel
theorem d_Mn_putTell_168 : decode bc_Mn_putTell 168 = .ok (.sipush 9999, 3) := by decide +kernel
theorem d_Mn_putTell_171 : decode bc_Mn_putTell 171 = .ok (.invokevirtual 79, 3) := by decide +kernel
theorem d_Mn_putTell_174 : decode bc_Mn_putTell 174 = .ok (.putfield 89, 3) := by decide +kernel
theorem d_Mn_putTell_177 : decode bc_Mn_putTell 177 = .ok (.aload_n 0, 1) := by decide +kernel
theorem d_Mn_putTell_178 : decode bc_Mn_putTell 178 = .ok (.dup, 1) := by decide +kernel
theorem d_Mn_putTell_179 : decode bc_Mn_putTell 179 = .ok (.getfield 18, 3) := by decide +kernel
theorem d_Mn_putTell_182 : decode bc_Mn_putTell 182 = .ok (.iconst 1, 1) := by decide +kernel
theorem d_Mn_putTell_183 : decode bc_Mn_putTell 183 = .ok (.iadd, 1) := by decide +kernel
theorem d_Mn_putTell_184 : decode bc_Mn_putTell 184 = .ok (.putfield 18, 3) := by decide +kernel
theorem d_Mn_putTell_187 : decode bc_Mn_putTell 187 = .ok (.return_, 1) := by decide +kernel
set_option maxRecDepth 20000 in
theorem w_Mn_putTell_b177 {X : CX} {V : WV} {tx : Nat} (hV : IsC V) (htx : isTx tx) {z : Mem} (hC : Ck X V bc_Mn_putTell 3 "SecretWells$Meaning" none 5 112) (S : Mem) (h : f_Mn_putTell_b177 tx S = some z) : G X V 3 (QV X V z) 177 [some (.ref (V.2.2.1 3 0)), some (.ref (V.2.2.1 tx 0)), none] [] S := by
  unfold f_Mn_putTell_b177 at h
  refine g_aload_n (pc := 177) hC (i := 0) (x := (V.2.2.1 3 0)) rfl rfl d_Mn_putTell_177 ?_
  refine g_dup (pc := 178) hC rfl d_Mn_putTell_178 ?_
  refine g_getI (pc := 179) hC fo_Mn_18 (ob_Mn hV) rfl d_Mn_putTell_179 ?_
  refine g_iconst (pc := 182) hC kc_1 d_Mn_putTell_182 ?_
  refine g_iadd (pc := 183) hC d_Mn_putTell_183 ?_
  refine g_putI (pc := 184) hC po_Mn_18 (ob_Mn hV) rfl rfl rfl d_Mn_putTell_184 ?_
  refine g_letS h (fun S184 h => ?_)
  exact g_vW (pc := 187) hC d_Mn_putTell_187 h
set_option maxRecDepth 20000 in
theorem w_Mn_putTell_b0 {X : CX} {V : WV} {tx : Nat} (hV : IsC V) (htx : isTx tx) {z : Mem} (hC : Ck X V bc_Mn_putTell 3 "SecretWells$Meaning" none 5 112) (S : Mem) (h : f_Mn_putTell_b0 tx S = some z) : G X V 3 (QV X V z) 0 [some (.ref (V.2.2.1 3 0)), some (.ref (V.2.2.1 tx 0)), none] [] S := by
  unfold f_Mn_putTell_b0 at h
  refine g_aload_n (pc := 0) hC (i := 0) (x := (V.2.2.1 3 0)) rfl rfl d_Mn_putTell_0 ?_
  refine g_getC (pc := 1) hC (j := 1) fo_Mn_31 (ob_Mn hV) rfl d_Mn_putTell_1 ?_
  refine g_aload_n (pc := 4) hC (i := 0) (x := (V.2.2.1 3 0)) rfl rfl d_Mn_putTell_4 ?_
  refine g_getI (pc := 5) hC fo_Mn_18 (ob_Mn hV) rfl d_Mn_putTell_5 ?_
  obtain ⟨q8, hq8, h⟩ := Option.bind_eq_some_iff.mp h
  refine g_vi (pc := 8) hC (As := [.int (S.1 3 3)]) (st := []) mt_Tp_kindAt lk_Mn_40 rfl (ob_Tp hV) (Nat.le_of_ble_eq_true rfl) ⟨Nat.le_of_ble_eq_true rfl, Nat.le_of_ble_eq_true rfl⟩ rfl d_Mn_putTell_8 (c_Tp_kindAt hV hq8) ?_
  refine s_istore_n (pc := 11) hC (i := 2) rfl (by decide) d_Mn_putTell_11 (lv2 := [some (.ref (V.2.2.1 3 0)), some (.ref (V.2.2.1 tx 0)), some (.int q8)]) rfl ?_
  refine g_aload_n (pc := 12) hC (i := 0) (x := (V.2.2.1 3 0)) rfl rfl d_Mn_putTell_12 ?_
  refine g_dup (pc := 13) hC rfl d_Mn_putTell_13 ?_
  refine g_getI (pc := 14) hC fo_Mn_18 (ob_Mn hV) rfl d_Mn_putTell_14 ?_
  refine g_iconst (pc := 17) hC kc_1 d_Mn_putTell_17 ?_
  refine g_iadd (pc := 18) hC d_Mn_putTell_18 ?_
  refine g_putI (pc := 19) hC po_Mn_18 (ob_Mn hV) rfl rfl rfl d_Mn_putTell_19 ?_
  refine g_letS h (fun S19 h => ?_)
  refine g_iload_n (pc := 22) hC (i := 2) (x := q8) rfl rfl d_Mn_putTell_22 ?_
  by_cases hs23_128 : q8 = 128
  · rw [if_pos hs23_128] at h
    refine g_table (pc := 23) hC (tgt := 72) d_Mn_putTell_23 rfl (by rw [hs23_128]; decide) ?_
    refine g_aload_n (pc := 72) hC (i := 0) (x := (V.2.2.1 3 0)) rfl rfl d_Mn_putTell_72 ?_
    refine g_aload_n (pc := 73) hC (i := 1) (x := (V.2.2.1 tx 0)) rfl rfl d_Mn_putTell_73 ?_
    obtain ⟨q74, hq74, h⟩ := Option.bind_eq_some_iff.mp h
    refine g_vv (pc := 74) hC (As := [.ref (V.2.2.1 tx 0)]) (st := []) mt_Mn_putWell lk_Mn_53 rfl (ob_Mn hV) (Nat.le_of_ble_eq_true rfl) ⟨Nat.le_of_ble_eq_true rfl, Nat.le_of_ble_eq_true rfl⟩ rfl d_Mn_putTell_74 (c_Mn_putWell hV htx hq74) ?_
    refine g_goto (pc := 77) hC (tgt := 177) (by decide) d_Mn_putTell_77 ?_
    refine g_le (lv2 := [some (.ref (V.2.2.1 3 0)), some (.ref (V.2.2.1 tx 0)), none]) (⟨rfl, ⟨rfl, trivial⟩⟩) ?_
    exact w_Mn_putTell_b177 hV htx hC q74 h
  rw [if_neg hs23_128] at h
  by_cases hs23_129 : q8 = 129
  · rw [if_pos hs23_129] at h
    refine g_table (pc := 23) hC (tgt := 80) d_Mn_putTell_23 rfl (by rw [hs23_129]; decide) ?_
    refine g_aload_n (pc := 80) hC (i := 0) (x := (V.2.2.1 3 0)) rfl rfl d_Mn_putTell_80 ?_
    refine g_aload_n (pc := 81) hC (i := 1) (x := (V.2.2.1 tx 0)) rfl rfl d_Mn_putTell_81 ?_
    obtain ⟨q82, hq82, h⟩ := Option.bind_eq_some_iff.mp h
    refine g_vv (pc := 82) hC (As := [.ref (V.2.2.1 tx 0)]) (st := []) mt_Mn_putMan lk_Mn_56 rfl (ob_Mn hV) (Nat.le_of_ble_eq_true rfl) ⟨Nat.le_of_ble_eq_true rfl, Nat.le_of_ble_eq_true rfl⟩ rfl d_Mn_putTell_82 (c_Mn_putMan hV htx hq82) ?_
    refine g_goto (pc := 85) hC (tgt := 177) (by decide) d_Mn_putTell_85 ?_
    refine g_le (lv2 := [some (.ref (V.2.2.1 3 0)), some (.ref (V.2.2.1 tx 0)), none]) (⟨rfl, ⟨rfl, trivial⟩⟩) ?_
    exact w_Mn_putTell_b177 hV htx hC q82 h
  rw [if_neg hs23_129] at h
  by_cases hs23_130 : q8 = 130
  · rw [if_pos hs23_130] at h
    refine g_table (pc := 23) hC (tgt := 88) d_Mn_putTell_23 rfl (by rw [hs23_130]; decide) ?_
    refine g_aload_n (pc := 88) hC (i := 0) (x := (V.2.2.1 3 0)) rfl rfl d_Mn_putTell_88 ?_
    refine g_aload_n (pc := 89) hC (i := 1) (x := (V.2.2.1 tx 0)) rfl rfl d_Mn_putTell_89 ?_
    obtain ⟨q90, hq90, h⟩ := Option.bind_eq_some_iff.mp h
    refine g_vv (pc := 90) hC (As := [.ref (V.2.2.1 tx 0)]) (st := []) mt_Mn_putSecret lk_Mn_59 rfl (ob_Mn hV) (Nat.le_of_ble_eq_true rfl) ⟨Nat.le_of_ble_eq_true rfl, Nat.le_of_ble_eq_true rfl⟩ rfl d_Mn_putTell_90 (c_Mn_putSecret hV htx hq90) ?_
    refine g_goto (pc := 93) hC (tgt := 177) (by decide) d_Mn_putTell_93 ?_
    refine g_le (lv2 := [some (.ref (V.2.2.1 3 0)), some (.ref (V.2.2.1 tx 0)), none]) (⟨rfl, ⟨rfl, trivial⟩⟩) ?_
    exact w_Mn_putTell_b177 hV htx hC q90 h
  rw [if_neg hs23_130] at h
  by_cases hs23_131 : q8 = 131
  · rw [if_pos hs23_131] at h
    refine g_table (pc := 23) hC (tgt := 96) d_Mn_putTell_23 rfl (by rw [hs23_131]; decide) ?_
    refine g_aload_n (pc := 96) hC (i := 0) (x := (V.2.2.1 3 0)) rfl rfl d_Mn_putTell_96 ?_
    refine g_aload_n (pc := 97) hC (i := 1) (x := (V.2.2.1 tx 0)) rfl rfl d_Mn_putTell_97 ?_
    obtain ⟨q98, hq98, h⟩ := Option.bind_eq_some_iff.mp h
    refine g_vv (pc := 98) hC (As := [.ref (V.2.2.1 tx 0)]) (st := []) mt_Mn_putTie lk_Mn_62 rfl (ob_Mn hV) (Nat.le_of_ble_eq_true rfl) ⟨Nat.le_of_ble_eq_true rfl, Nat.le_of_ble_eq_true rfl⟩ rfl d_Mn_putTell_98 (c_Mn_putTie hV htx hq98) ?_
    refine g_goto (pc := 101) hC (tgt := 177) (by decide) d_Mn_putTell_101 ?_
    refine g_le (lv2 := [some (.ref (V.2.2.1 3 0)), some (.ref (V.2.2.1 tx 0)), none]) (⟨rfl, ⟨rfl, trivial⟩⟩) ?_
    exact w_Mn_putTell_b177 hV htx hC q98 h
  rw [if_neg hs23_131] at h
  by_cases hs23_132 : q8 = 132
  · rw [if_pos hs23_132] at h
    refine g_table (pc := 23) hC (tgt := 104) d_Mn_putTell_23 rfl (by rw [hs23_132]; decide) ?_
    refine g_aload_n (pc := 104) hC (i := 0) (x := (V.2.2.1 3 0)) rfl rfl d_Mn_putTell_104 ?_
    refine g_aload_n (pc := 105) hC (i := 1) (x := (V.2.2.1 tx 0)) rfl rfl d_Mn_putTell_105 ?_
    refine g_getC (pc := 106) hC (j := tx + 1) fo_Mn_65 (ob_Tx hV htx) rfl d_Mn_putTell_106 ?_
    obtain ⟨q109, hq109, h⟩ := Option.bind_eq_some_iff.mp h
    refine g_vv (pc := 109) hC (As := [.ref (V.2.2.1 (tx + 1) 0)]) (st := []) mt_Mn_putLaw lk_Mn_69 rfl (ob_Mn hV) (Nat.le_of_ble_eq_true rfl) ⟨Nat.le_of_ble_eq_true rfl, Nat.le_of_ble_eq_true rfl⟩ rfl d_Mn_putTell_109 (c_Mn_putLaw hV (tx_1 htx) hq109) ?_
    refine g_goto (pc := 112) hC (tgt := 177) (by decide) d_Mn_putTell_112 ?_
    refine g_le (lv2 := [some (.ref (V.2.2.1 3 0)), some (.ref (V.2.2.1 tx 0)), none]) (⟨rfl, ⟨rfl, trivial⟩⟩) ?_
    exact w_Mn_putTell_b177 hV htx hC q109 h
  rw [if_neg hs23_132] at h
  by_cases hs23_133 : q8 = 133
  · rw [if_pos hs23_133] at h
    refine g_table (pc := 23) hC (tgt := 115) d_Mn_putTell_23 rfl (by rw [hs23_133]; decide) ?_
    refine g_aload_n (pc := 115) hC (i := 0) (x := (V.2.2.1 3 0)) rfl rfl d_Mn_putTell_115 ?_
    refine g_aload_n (pc := 116) hC (i := 1) (x := (V.2.2.1 tx 0)) rfl rfl d_Mn_putTell_116 ?_
    refine g_getC (pc := 117) hC (j := tx + 2) fo_Mn_73 (ob_Tx hV htx) rfl d_Mn_putTell_117 ?_
    obtain ⟨q120, hq120, h⟩ := Option.bind_eq_some_iff.mp h
    refine g_vv (pc := 120) hC (As := [.ref (V.2.2.1 (tx + 2) 0)]) (st := []) mt_Mn_putLaw lk_Mn_69 rfl (ob_Mn hV) (Nat.le_of_ble_eq_true rfl) ⟨Nat.le_of_ble_eq_true rfl, Nat.le_of_ble_eq_true rfl⟩ rfl d_Mn_putTell_120 (c_Mn_putLaw hV (tx_2 htx) hq120) ?_
    refine g_goto (pc := 123) hC (tgt := 177) (by decide) d_Mn_putTell_123 ?_
    refine g_le (lv2 := [some (.ref (V.2.2.1 3 0)), some (.ref (V.2.2.1 tx 0)), none]) (⟨rfl, ⟨rfl, trivial⟩⟩) ?_
    exact w_Mn_putTell_b177 hV htx hC q120 h
  rw [if_neg hs23_133] at h
  by_cases hs23_134 : q8 = 134
  · rw [if_pos hs23_134] at h
    refine g_table (pc := 23) hC (tgt := 126) d_Mn_putTell_23 rfl (by rw [hs23_134]; decide) ?_
    refine g_aload_n (pc := 126) hC (i := 0) (x := (V.2.2.1 3 0)) rfl rfl d_Mn_putTell_126 ?_
    refine g_aload_n (pc := 127) hC (i := 1) (x := (V.2.2.1 tx 0)) rfl rfl d_Mn_putTell_127 ?_
    refine g_getC (pc := 128) hC (j := tx + 3) fo_Mn_76 (ob_Tx hV htx) rfl d_Mn_putTell_128 ?_
    obtain ⟨q131, hq131, h⟩ := Option.bind_eq_some_iff.mp h
    refine g_vv (pc := 131) hC (As := [.ref (V.2.2.1 (tx + 3) 0)]) (st := []) mt_Mn_putLaw lk_Mn_69 rfl (ob_Mn hV) (Nat.le_of_ble_eq_true rfl) ⟨Nat.le_of_ble_eq_true rfl, Nat.le_of_ble_eq_true rfl⟩ rfl d_Mn_putTell_131 (c_Mn_putLaw hV (tx_3 htx) hq131) ?_
    refine g_goto (pc := 134) hC (tgt := 177) (by decide) d_Mn_putTell_134 ?_
    refine g_le (lv2 := [some (.ref (V.2.2.1 3 0)), some (.ref (V.2.2.1 tx 0)), none]) (⟨rfl, ⟨rfl, trivial⟩⟩) ?_
    exact w_Mn_putTell_b177 hV htx hC q131 h
  rw [if_neg hs23_134] at h
  by_cases hs23_135 : q8 = 135
  · rw [if_pos hs23_135] at h
    refine g_table (pc := 23) hC (tgt := 137) d_Mn_putTell_23 rfl (by rw [hs23_135]; decide) ?_
    refine g_aload_n (pc := 137) hC (i := 1) (x := (V.2.2.1 tx 0)) rfl rfl d_Mn_putTell_137 ?_
    refine g_aload_n (pc := 138) hC (i := 0) (x := (V.2.2.1 3 0)) rfl rfl d_Mn_putTell_138 ?_
    refine g_iconst (pc := 139) hC kc_1 d_Mn_putTell_139 ?_
    refine g_bipush (pc := 140) hC kb_99 d_Mn_putTell_140 ?_
    obtain ⟨q142, hq142, h⟩ := Option.bind_eq_some_iff.mp h
    refine g_vi (pc := 142) hC (As := [.int 1, .int 99]) (st := [.ref (V.2.2.1 tx 0)]) mt_Mn_number lk_Mn_79 rfl (ob_Mn hV) (Nat.le_of_ble_eq_true rfl) ⟨Nat.le_of_ble_eq_true rfl, Nat.le_of_ble_eq_true rfl⟩ rfl d_Mn_putTell_142 (c_Mn_number hV hq142) ?_
    refine g_putI (pc := 145) hC po_Mn_83 (ob_Tx hV htx) rfl rfl rfl d_Mn_putTell_145 ?_
    refine g_letS h (fun S145 h => ?_)
    refine g_goto (pc := 148) hC (tgt := 177) (by decide) d_Mn_putTell_148 ?_
    refine g_le (lv2 := [some (.ref (V.2.2.1 3 0)), some (.ref (V.2.2.1 tx 0)), none]) (⟨rfl, ⟨rfl, trivial⟩⟩) ?_
    exact w_Mn_putTell_b177 hV htx hC S145 h
  rw [if_neg hs23_135] at h
  by_cases hs23_136 : q8 = 136
  · rw [if_pos hs23_136] at h
    refine g_table (pc := 23) hC (tgt := 151) d_Mn_putTell_23 rfl (by rw [hs23_136]; decide) ?_
    refine g_aload_n (pc := 151) hC (i := 1) (x := (V.2.2.1 tx 0)) rfl rfl d_Mn_putTell_151 ?_
    refine g_aload_n (pc := 152) hC (i := 0) (x := (V.2.2.1 3 0)) rfl rfl d_Mn_putTell_152 ?_
    refine g_iconst (pc := 153) hC kc_0 d_Mn_putTell_153 ?_
    refine g_bipush (pc := 154) hC kb_99 d_Mn_putTell_154 ?_
    obtain ⟨q156, hq156, h⟩ := Option.bind_eq_some_iff.mp h
    refine g_vi (pc := 156) hC (As := [.int 0, .int 99]) (st := [.ref (V.2.2.1 tx 0)]) mt_Mn_number lk_Mn_79 rfl (ob_Mn hV) (Nat.le_of_ble_eq_true rfl) ⟨Nat.le_of_ble_eq_true rfl, Nat.le_of_ble_eq_true rfl⟩ rfl d_Mn_putTell_156 (c_Mn_number hV hq156) ?_
    refine g_putI (pc := 159) hC po_Mn_86 (ob_Tx hV htx) rfl rfl rfl d_Mn_putTell_159 ?_
    refine g_letS h (fun S159 h => ?_)
    refine g_goto (pc := 162) hC (tgt := 177) (by decide) d_Mn_putTell_162 ?_
    refine g_le (lv2 := [some (.ref (V.2.2.1 3 0)), some (.ref (V.2.2.1 tx 0)), none]) (⟨rfl, ⟨rfl, trivial⟩⟩) ?_
    exact w_Mn_putTell_b177 hV htx hC S159 h
  rw [if_neg hs23_136] at h
  refine g_table (pc := 23) hC (tgt := 165) d_Mn_putTell_23 rfl ((sw_else [(128 : Int32), (129 : Int32), (130 : Int32), (131 : Int32), (132 : Int32), (133 : Int32), (134 : Int32), (135 : Int32), (136 : Int32)] (by intro v hv; simp only [List.mem_cons, List.not_mem_nil, or_false] at hv; rcases hv with rfl | rfl | rfl | rfl | rfl | rfl | rfl | rfl | rfl <;> assumption) (by decide)).trans (by decide)) ?_
  refine g_aload_n (pc := 165) hC (i := 1) (x := (V.2.2.1 tx 0)) rfl rfl d_Mn_putTell_165 ?_
  refine g_aload_n (pc := 166) hC (i := 0) (x := (V.2.2.1 3 0)) rfl rfl d_Mn_putTell_166 ?_
  refine g_iconst (pc := 167) hC kc_0 d_Mn_putTell_167 ?_
  refine g_sipush (pc := 168) hC ks_9999 d_Mn_putTell_168 ?_
  obtain ⟨q171, hq171, h⟩ := Option.bind_eq_some_iff.mp h
  refine g_vi (pc := 171) hC (As := [.int 0, .int 9999]) (st := [.ref (V.2.2.1 tx 0)]) mt_Mn_number lk_Mn_79 rfl (ob_Mn hV) (Nat.le_of_ble_eq_true rfl) ⟨Nat.le_of_ble_eq_true rfl, Nat.le_of_ble_eq_true rfl⟩ rfl d_Mn_putTell_171 (c_Mn_number hV hq171) ?_
  refine g_putI (pc := 174) hC po_Mn_89 (ob_Tx hV htx) rfl rfl rfl d_Mn_putTell_174 ?_
  refine g_letS h (fun S174 h => ?_)
  refine g_le (lv2 := [some (.ref (V.2.2.1 3 0)), some (.ref (V.2.2.1 tx 0)), none]) (⟨rfl, ⟨rfl, trivial⟩⟩) ?_
  exact w_Mn_putTell_b177 hV htx hC S174 h
theorem c_Mn_putTell {V : WV} {l : Launch} (hV : IsC V) {tx : Nat} (htx : isTx tx) {S : Mem} {z : Mem} (h : f_Mn_putTell tx S = some z) : CV V l y_Mn_putTell bc_Mn_putTell 3 none 5 112 [.ref (V.2.2.1 3 0), .ref (V.2.2.1 tx 0)] S z :=
  ct_v rfl (IsC.ok hV) (Nat.le_of_ble_eq_true rfl) (fun _ _ hC => w_Mn_putTell_b0 hV htx hC S h)
def f_Tx_measure_b14 (tx : Nat) (k2 : Int32 → Mem → Option (Mem)) (k14 : Int32 → Int32 → Int32 → Mem → Option (Mem)) (x1 : Int32) (x2 : Int32) (x3 : Int32) (S : Mem) : Option (Mem) :=
  if (S.1 tx 1) ≤ x3 then
    gIn x1 8 (
    Option.bind (f_St_share (S.2.1 tx 13 x1.toNatClampNeg) x2 (S.1 tx 1)) (fun q57 =>
    gIn x1 8 (letS (sA S tx 14 x1 q57) (fun S60 =>
    k2 (x1 + 1) S60))))
  else
    gIn x3 7 (
    letS (x2 + (((S.2.1 tx 12 x3.toNatClampNeg) >>> (x1 &&& 31)) &&& 1)) (fun y34 =>
    k14 x1 y34 (x3 + 1) S))
def f_Tx_measure_l14 (tx : Nat) (k2 : Int32 → Mem → Option (Mem)) : Nat → Int32 → Int32 → Int32 → Mem → Option (Mem)
  | 0 => fun _ _ _ _ => none
  | n + 1 => f_Tx_measure_b14 tx k2 (f_Tx_measure_l14 tx k2 n)
def f_Tx_measure_b2 (tx : Nat) (k2 : Int32 → Mem → Option (Mem)) (x1 : Int32) (S : Mem) : Option (Mem) :=
  if (S.1 tx 2) ≤ x1 then
    some S
  else
    f_Tx_measure_l14 tx k2 5000 x1 0 0 S
def f_Tx_measure_l2 (tx : Nat) : Nat → Int32 → Mem → Option (Mem)
  | 0 => fun _ _ => none
  | n + 1 => f_Tx_measure_b2 tx (f_Tx_measure_l2 tx n)
def f_Tx_measure_b0 (tx : Nat) (S : Mem) : Option (Mem) :=
  f_Tx_measure_l2 tx 5000 0 S
def f_Tx_measure (tx : Nat) (S : Mem) : Option (Mem) := f_Tx_measure_b0 tx S
theorem d_Tx_measure_0 : decode bc_Tx_measure 0 = .ok (.iconst 0, 1) := by decide +kernel
theorem d_Tx_measure_1 : decode bc_Tx_measure 1 = .ok (.istore_n 1, 1) := by decide +kernel
theorem d_Tx_measure_2 : decode bc_Tx_measure 2 = .ok (.iload_n 1, 1) := by decide +kernel
theorem d_Tx_measure_3 : decode bc_Tx_measure 3 = .ok (.aload_n 0, 1) := by decide +kernel
theorem d_Tx_measure_4 : decode bc_Tx_measure 4 = .ok (.getfield 18, 3) := by decide +kernel
theorem d_Tx_measure_7 : decode bc_Tx_measure 7 = .ok (.if_icmp .ge 60, 3) := by decide +kernel
theorem d_Tx_measure_10 : decode bc_Tx_measure 10 = .ok (.iconst 0, 1) := by decide +kernel
theorem d_Tx_measure_11 : decode bc_Tx_measure 11 = .ok (.istore_n 2, 1) := by decide +kernel
theorem d_Tx_measure_12 : decode bc_Tx_measure 12 = .ok (.iconst 0, 1) := by decide +kernel
theorem d_Tx_measure_13 : decode bc_Tx_measure 13 = .ok (.istore_n 3, 1) := by decide +kernel
theorem d_Tx_measure_14 : decode bc_Tx_measure 14 = .ok (.iload_n 3, 1) := by decide +kernel
theorem d_Tx_measure_15 : decode bc_Tx_measure 15 = .ok (.aload_n 0, 1) := by decide +kernel
theorem d_Tx_measure_16 : decode bc_Tx_measure 16 = .ok (.getfield 15, 3) := by decide +kernel
theorem d_Tx_measure_19 : decode bc_Tx_measure 19 = .ok (.if_icmp .ge 22, 3) := by decide +kernel
theorem d_Tx_measure_22 : decode bc_Tx_measure 22 = .ok (.iload_n 2, 1) := by decide +kernel
theorem d_Tx_measure_23 : decode bc_Tx_measure 23 = .ok (.aload_n 0, 1) := by decide +kernel
theorem d_Tx_measure_24 : decode bc_Tx_measure 24 = .ok (.getfield 49, 3) := by decide +kernel
theorem d_Tx_measure_27 : decode bc_Tx_measure 27 = .ok (.iload_n 3, 1) := by decide +kernel
theorem d_Tx_measure_28 : decode bc_Tx_measure 28 = .ok (.iaload, 1) := by decide +kernel
theorem d_Tx_measure_29 : decode bc_Tx_measure 29 = .ok (.iload_n 1, 1) := by decide +kernel
theorem d_Tx_measure_30 : decode bc_Tx_measure 30 = .ok (.ishr, 1) := by decide +kernel
theorem d_Tx_measure_31 : decode bc_Tx_measure 31 = .ok (.iconst 1, 1) := by decide +kernel
theorem d_Tx_measure_32 : decode bc_Tx_measure 32 = .ok (.iand, 1) := by decide +kernel
theorem d_Tx_measure_33 : decode bc_Tx_measure 33 = .ok (.iadd, 1) := by decide +kernel
theorem d_Tx_measure_34 : decode bc_Tx_measure 34 = .ok (.istore_n 2, 1) := by decide +kernel
theorem d_Tx_measure_35 : decode bc_Tx_measure 35 = .ok (.iinc 3 1, 3) := by decide +kernel
theorem d_Tx_measure_38 : decode bc_Tx_measure 38 = .ok (.goto (-24), 3) := by decide +kernel
theorem d_Tx_measure_41 : decode bc_Tx_measure 41 = .ok (.aload_n 0, 1) := by decide +kernel
theorem d_Tx_measure_42 : decode bc_Tx_measure 42 = .ok (.getfield 55, 3) := by decide +kernel
theorem d_Tx_measure_45 : decode bc_Tx_measure 45 = .ok (.iload_n 1, 1) := by decide +kernel
theorem d_Tx_measure_46 : decode bc_Tx_measure 46 = .ok (.aload_n 0, 1) := by decide +kernel
theorem d_Tx_measure_47 : decode bc_Tx_measure 47 = .ok (.getfield 52, 3) := by decide +kernel
theorem d_Tx_measure_50 : decode bc_Tx_measure 50 = .ok (.iload_n 1, 1) := by decide +kernel
theorem d_Tx_measure_51 : decode bc_Tx_measure 51 = .ok (.iaload, 1) := by decide +kernel
theorem d_Tx_measure_52 : decode bc_Tx_measure 52 = .ok (.iload_n 2, 1) := by decide +kernel
theorem d_Tx_measure_53 : decode bc_Tx_measure 53 = .ok (.aload_n 0, 1) := by decide +kernel
theorem d_Tx_measure_54 : decode bc_Tx_measure 54 = .ok (.getfield 15, 3) := by decide +kernel
theorem d_Tx_measure_57 : decode bc_Tx_measure 57 = .ok (.invokestatic 90, 3) := by decide +kernel
theorem d_Tx_measure_60 : decode bc_Tx_measure 60 = .ok (.iastore, 1) := by decide +kernel
theorem d_Tx_measure_61 : decode bc_Tx_measure 61 = .ok (.iinc 1 1, 3) := by decide +kernel
theorem d_Tx_measure_64 : decode bc_Tx_measure 64 = .ok (.goto (-62), 3) := by decide +kernel
theorem d_Tx_measure_67 : decode bc_Tx_measure 67 = .ok (.return_, 1) := by decide +kernel
set_option maxRecDepth 20000 in
theorem w_Tx_measure_b14 {X : CX} {V : WV} {tx : Nat} (hV : IsC V) (htx : isTx tx) {z : Mem} (hC : Ck X V bc_Tx_measure 4 "SecretWells$Text" none 1 22) (k2 : Int32 → Mem → Option (Mem)) (hk2 : ∀ (x1 : Int32) (S : Mem), k2 x1 S = some z → G X V 4 (QV X V z) 2 [some (.ref (V.2.2.1 tx 0)), some (.int x1), none, none] [] S) (k14 : Int32 → Int32 → Int32 → Mem → Option (Mem)) (hk14 : ∀ (x1 : Int32) (x2 : Int32) (x3 : Int32) (S : Mem), k14 x1 x2 x3 S = some z → G X V 4 (QV X V z) 14 [some (.ref (V.2.2.1 tx 0)), some (.int x1), some (.int x2), some (.int x3)] [] S) (x1 : Int32) (x2 : Int32) (x3 : Int32) (S : Mem) (h : f_Tx_measure_b14 tx k2 k14 x1 x2 x3 S = some z) : G X V 4 (QV X V z) 14 [some (.ref (V.2.2.1 tx 0)), some (.int x1), some (.int x2), some (.int x3)] [] S := by
  unfold f_Tx_measure_b14 at h
  refine g_iload_n (pc := 14) hC (i := 3) (x := x3) rfl rfl d_Tx_measure_14 ?_
  refine g_aload_n (pc := 15) hC (i := 0) (x := (V.2.2.1 tx 0)) rfl rfl d_Tx_measure_15 ?_
  refine g_getI (pc := 16) hC fo_Tx_15 (ob_Tx hV htx) rfl d_Tx_measure_16 ?_
  refine g_icmp_ge (pc := 19) hC (tgt := 41) (by decide) d_Tx_measure_19 h (fun h => ?_) (fun h => ?_)
  · refine g_aload_n (pc := 41) hC (i := 0) (x := (V.2.2.1 tx 0)) rfl rfl d_Tx_measure_41 ?_
    refine g_getA (pc := 42) hC fo_Tx_55 (ob_Tx hV htx) rfl d_Tx_measure_42 ?_
    refine g_iload_n (pc := 45) hC (i := 1) (x := x1) rfl rfl d_Tx_measure_45 ?_
    refine g_aload_n (pc := 46) hC (i := 0) (x := (V.2.2.1 tx 0)) rfl rfl d_Tx_measure_46 ?_
    refine g_getA (pc := 47) hC fo_Tx_52 (ob_Tx hV htx) rfl d_Tx_measure_47 ?_
    refine g_iload_n (pc := 50) hC (i := 1) (x := x1) rfl rfl d_Tx_measure_50 ?_
    refine g_iald (pc := 51) hC (ar_Tx_13 hV htx) d_Tx_measure_51 h (fun h => ?_)
    refine g_iload_n (pc := 52) hC (i := 2) (x := x2) rfl rfl d_Tx_measure_52 ?_
    refine g_aload_n (pc := 53) hC (i := 0) (x := (V.2.2.1 tx 0)) rfl rfl d_Tx_measure_53 ?_
    refine g_getI (pc := 54) hC fo_Tx_15 (ob_Tx hV htx) rfl d_Tx_measure_54 ?_
    obtain ⟨q57, hq57, h⟩ := Option.bind_eq_some_iff.mp h
    refine g_si (pc := 57) hC (As := [.int (S.2.1 tx 13 x1.toNatClampNeg), .int x2, .int (S.1 tx 1)]) (st := [.int x1, .ref (V.2.2.1 tx (14 + 1))]) mt_St_share lk_Tx_90 (Nat.le_of_ble_eq_true rfl) ⟨Nat.le_of_ble_eq_true rfl, Nat.le_of_ble_eq_true rfl⟩ rfl d_Tx_measure_57 (c_St_share (IsC.ok hV) hq57) ?_
    refine g_iast (pc := 60) hC (ar_Tx_14 hV htx) d_Tx_measure_60 h (fun h => ?_)
    refine g_letS h (fun S60 h => ?_)
    refine s_iinc (pc := 61) hC (i := 1) (x := x1) (v := x1 + 1) rfl (by rw [kc_1]) (by decide) d_Tx_measure_61 (lv2 := [some (.ref (V.2.2.1 tx 0)), some (.int (x1 + 1)), some (.int x2), some (.int x3)]) rfl ?_
    refine g_goto (pc := 64) hC (tgt := 2) (by decide) d_Tx_measure_64 ?_
    refine g_le (lv2 := [some (.ref (V.2.2.1 tx 0)), some (.int (x1 + 1)), none, none]) (⟨rfl, ⟨rfl, trivial⟩⟩) ?_
    exact hk2 (x1 + 1) S60 h
  · refine g_iload_n (pc := 22) hC (i := 2) (x := x2) rfl rfl d_Tx_measure_22 ?_
    refine g_aload_n (pc := 23) hC (i := 0) (x := (V.2.2.1 tx 0)) rfl rfl d_Tx_measure_23 ?_
    refine g_getA (pc := 24) hC fo_Tx_49 (ob_Tx hV htx) rfl d_Tx_measure_24 ?_
    refine g_iload_n (pc := 27) hC (i := 3) (x := x3) rfl rfl d_Tx_measure_27 ?_
    refine g_iald (pc := 28) hC (ar_Tx_12 hV htx) d_Tx_measure_28 h (fun h => ?_)
    refine g_iload_n (pc := 29) hC (i := 1) (x := x1) rfl rfl d_Tx_measure_29 ?_
    refine g_ishr (pc := 30) hC d_Tx_measure_30 ?_
    refine g_iconst (pc := 31) hC kc_1 d_Tx_measure_31 ?_
    refine g_iand (pc := 32) hC d_Tx_measure_32 ?_
    refine g_iadd (pc := 33) hC d_Tx_measure_33 ?_
    refine g_leti h (fun y34 h => ?_)
    refine s_istore_n (pc := 34) hC (i := 2) rfl (by decide) d_Tx_measure_34 (lv2 := [some (.ref (V.2.2.1 tx 0)), some (.int x1), some (.int y34), some (.int x3)]) rfl ?_
    refine s_iinc (pc := 35) hC (i := 3) (x := x3) (v := x3 + 1) rfl (by rw [kc_1]) (by decide) d_Tx_measure_35 (lv2 := [some (.ref (V.2.2.1 tx 0)), some (.int x1), some (.int y34), some (.int (x3 + 1))]) rfl ?_
    refine g_goto (pc := 38) hC (tgt := 14) (by decide) d_Tx_measure_38 ?_
    exact hk14 x1 y34 (x3 + 1) S h
theorem w_Tx_measure_l14 {X : CX} {V : WV} {tx : Nat} (hV : IsC V) (htx : isTx tx) {z : Mem} (hC : Ck X V bc_Tx_measure 4 "SecretWells$Text" none 1 22) (k2 : Int32 → Mem → Option (Mem)) (hk2 : ∀ (x1 : Int32) (S : Mem), k2 x1 S = some z → G X V 4 (QV X V z) 2 [some (.ref (V.2.2.1 tx 0)), some (.int x1), none, none] [] S) : ∀ (n : Nat) (x1 : Int32) (x2 : Int32) (x3 : Int32) (S : Mem), f_Tx_measure_l14 tx k2 n x1 x2 x3 S = some z → G X V 4 (QV X V z) 14 [some (.ref (V.2.2.1 tx 0)), some (.int x1), some (.int x2), some (.int x3)] [] S := by
  intro n
  induction n with
  | zero =>
    intro x1 x2 x3 S h
    have h : (none : Option (Mem)) = some z := h
    cases h
  | succ n ih =>
    intro x1 x2 x3 S h
    exact w_Tx_measure_b14 hV htx hC k2 hk2 (f_Tx_measure_l14 tx k2 n) ih x1 x2 x3 S h
set_option maxRecDepth 20000 in
theorem w_Tx_measure_b2 {X : CX} {V : WV} {tx : Nat} (hV : IsC V) (htx : isTx tx) {z : Mem} (hC : Ck X V bc_Tx_measure 4 "SecretWells$Text" none 1 22) (k2 : Int32 → Mem → Option (Mem)) (hk2 : ∀ (x1 : Int32) (S : Mem), k2 x1 S = some z → G X V 4 (QV X V z) 2 [some (.ref (V.2.2.1 tx 0)), some (.int x1), none, none] [] S) (x1 : Int32) (S : Mem) (h : f_Tx_measure_b2 tx k2 x1 S = some z) : G X V 4 (QV X V z) 2 [some (.ref (V.2.2.1 tx 0)), some (.int x1), none, none] [] S := by
  unfold f_Tx_measure_b2 at h
  refine g_iload_n (pc := 2) hC (i := 1) (x := x1) rfl rfl d_Tx_measure_2 ?_
  refine g_aload_n (pc := 3) hC (i := 0) (x := (V.2.2.1 tx 0)) rfl rfl d_Tx_measure_3 ?_
  refine g_getI (pc := 4) hC fo_Tx_18 (ob_Tx hV htx) rfl d_Tx_measure_4 ?_
  refine g_icmp_ge (pc := 7) hC (tgt := 67) (by decide) d_Tx_measure_7 h (fun h => ?_) (fun h => ?_)
  · exact g_vW (pc := 67) hC d_Tx_measure_67 h
  · refine g_iconst (pc := 10) hC kc_0 d_Tx_measure_10 ?_
    refine s_istore_n (pc := 11) hC (i := 2) rfl (by decide) d_Tx_measure_11 (lv2 := [some (.ref (V.2.2.1 tx 0)), some (.int x1), some (.int 0), none]) rfl ?_
    refine g_iconst (pc := 12) hC kc_0 d_Tx_measure_12 ?_
    refine s_istore_n (pc := 13) hC (i := 3) rfl (by decide) d_Tx_measure_13 (lv2 := [some (.ref (V.2.2.1 tx 0)), some (.int x1), some (.int 0), some (.int 0)]) rfl ?_
    exact w_Tx_measure_l14 hV htx hC k2 hk2 5000 x1 0 0 S h
theorem w_Tx_measure_l2 {X : CX} {V : WV} {tx : Nat} (hV : IsC V) (htx : isTx tx) {z : Mem} (hC : Ck X V bc_Tx_measure 4 "SecretWells$Text" none 1 22) : ∀ (n : Nat) (x1 : Int32) (S : Mem), f_Tx_measure_l2 tx n x1 S = some z → G X V 4 (QV X V z) 2 [some (.ref (V.2.2.1 tx 0)), some (.int x1), none, none] [] S := by
  intro n
  induction n with
  | zero =>
    intro x1 S h
    have h : (none : Option (Mem)) = some z := h
    cases h
  | succ n ih =>
    intro x1 S h
    exact w_Tx_measure_b2 hV htx hC (f_Tx_measure_l2 tx n) ih x1 S h
set_option maxRecDepth 20000 in
theorem w_Tx_measure_b0 {X : CX} {V : WV} {tx : Nat} (hV : IsC V) (htx : isTx tx) {z : Mem} (hC : Ck X V bc_Tx_measure 4 "SecretWells$Text" none 1 22) (S : Mem) (h : f_Tx_measure_b0 tx S = some z) : G X V 4 (QV X V z) 0 [some (.ref (V.2.2.1 tx 0)), none, none, none] [] S := by
  unfold f_Tx_measure_b0 at h
  refine g_iconst (pc := 0) hC kc_0 d_Tx_measure_0 ?_
  refine s_istore_n (pc := 1) hC (i := 1) rfl (by decide) d_Tx_measure_1 (lv2 := [some (.ref (V.2.2.1 tx 0)), some (.int 0), none, none]) rfl ?_
  exact w_Tx_measure_l2 hV htx hC 5000 0 S h
theorem c_Tx_measure {V : WV} {l : Launch} (hV : IsC V) {tx : Nat} (htx : isTx tx) {S : Mem} {z : Mem} (h : f_Tx_measure tx S = some z) : CV V l y_Tx_measure bc_Tx_measure 4 none 1 22 [.ref (V.2.2.1 tx 0)] S z :=
  ct_v rfl (IsC.ok hV) (Nat.le_of_ble_eq_true rfl) (fun _ _ hC => w_Tx_measure_b0 hV htx hC S h)
def f_Mn_seek_b60 (tx : Nat) (S : Mem) : Option (Int32 × Mem) :=
  Option.bind (f_Tx_measure tx S) (fun q61 =>
  some (q61.1 3 2, q61))
def f_Mn_seek_b21 (tx : Nat) (k21 : Int32 → Mem → Option (Int32 × Mem)) (x2 : Int32) (S : Mem) : Option (Int32 × Mem) :=
  if 400 < x2 then
    f_Mn_seek_b60 tx S
  else
    if (S.1 3 2) = 0 then
      Option.bind (f_Tp_kindAt (S.1 3 3) S) (fun q43 =>
      if q43 = 0 then
        f_Mn_seek_b60 tx S
      else
        Option.bind (f_Mn_putTell tx S) (fun q51 =>
        k21 (x2 + 1) q51))
    else
      f_Mn_seek_b60 tx S
def f_Mn_seek_l21 (tx : Nat) : Nat → Int32 → Mem → Option (Int32 × Mem)
  | 0 => fun _ _ => none
  | n + 1 => f_Mn_seek_b21 tx (f_Mn_seek_l21 tx n)
def f_Mn_seek_b0 (tx : Nat) (S : Mem) : Option (Int32 × Mem) :=
  letS (pI S 3 3 0) (fun S2 =>
  letS (pI S2 3 2 0) (fun S7 =>
  letS (pI S7 3 0 (-1)) (fun S12 =>
  Option.bind (f_Tx_clear tx S12) (fun q16 =>
  f_Mn_seek_l21 tx 5000 0 q16))))
def f_Mn_seek (tx : Nat) (S : Mem) : Option (Int32 × Mem) := f_Mn_seek_b0 tx S
theorem d_Mn_seek_0 : decode bc_Mn_seek 0 = .ok (.aload_n 0, 1) := by decide +kernel
theorem d_Mn_seek_1 : decode bc_Mn_seek 1 = .ok (.iconst 0, 1) := by decide +kernel
theorem d_Mn_seek_2 : decode bc_Mn_seek 2 = .ok (.putfield 18, 3) := by decide +kernel
theorem d_Mn_seek_5 : decode bc_Mn_seek 5 = .ok (.aload_n 0, 1) := by decide +kernel
theorem d_Mn_seek_6 : decode bc_Mn_seek 6 = .ok (.iconst 0, 1) := by decide +kernel
theorem d_Mn_seek_7 : decode bc_Mn_seek 7 = .ok (.putfield 15, 3) := by decide +kernel
theorem d_Mn_seek_10 : decode bc_Mn_seek 10 = .ok (.aload_n 0, 1) := by decide +kernel
theorem d_Mn_seek_11 : decode bc_Mn_seek 11 = .ok (.iconst (-1), 1) := by decide +kernel
theorem d_Mn_seek_12 : decode bc_Mn_seek 12 = .ok (.putfield 9, 3) := by decide +kernel
theorem d_Mn_seek_15 : decode bc_Mn_seek 15 = .ok (.aload_n 1, 1) := by decide +kernel
theorem d_Mn_seek_16 : decode bc_Mn_seek 16 = .ok (.invokevirtual 35, 3) := by decide +kernel
theorem d_Mn_seek_19 : decode bc_Mn_seek 19 = .ok (.iconst 0, 1) := by decide +kernel
theorem d_Mn_seek_20 : decode bc_Mn_seek 20 = .ok (.istore_n 2, 1) := by decide +kernel
theorem d_Mn_seek_21 : decode bc_Mn_seek 21 = .ok (.iload_n 2, 1) := by decide +kernel
theorem d_Mn_seek_22 : decode bc_Mn_seek 22 = .ok (.sipush 400, 3) := by decide +kernel
theorem d_Mn_seek_25 : decode bc_Mn_seek 25 = .ok (.if_icmp .gt 35, 3) := by decide +kernel
theorem d_Mn_seek_28 : decode bc_Mn_seek 28 = .ok (.aload_n 0, 1) := by decide +kernel
theorem d_Mn_seek_29 : decode bc_Mn_seek 29 = .ok (.getfield 15, 3) := by decide +kernel
theorem d_Mn_seek_32 : decode bc_Mn_seek 32 = .ok (.ifCond .ne 28, 3) := by decide +kernel
theorem d_Mn_seek_35 : decode bc_Mn_seek 35 = .ok (.aload_n 0, 1) := by decide +kernel
theorem d_Mn_seek_36 : decode bc_Mn_seek 36 = .ok (.getfield 31, 3) := by decide +kernel
theorem d_Mn_seek_39 : decode bc_Mn_seek 39 = .ok (.aload_n 0, 1) := by decide +kernel
theorem d_Mn_seek_40 : decode bc_Mn_seek 40 = .ok (.getfield 18, 3) := by decide +kernel
theorem d_Mn_seek_43 : decode bc_Mn_seek 43 = .ok (.invokevirtual 40, 3) := by decide +kernel
theorem d_Mn_seek_46 : decode bc_Mn_seek 46 = .ok (.ifCond .eq 14, 3) := by decide +kernel
theorem d_Mn_seek_49 : decode bc_Mn_seek 49 = .ok (.aload_n 0, 1) := by decide +kernel
theorem d_Mn_seek_50 : decode bc_Mn_seek 50 = .ok (.aload_n 1, 1) := by decide +kernel
theorem d_Mn_seek_51 : decode bc_Mn_seek 51 = .ok (.invokevirtual 46, 3) := by decide +kernel
theorem d_Mn_seek_54 : decode bc_Mn_seek 54 = .ok (.iinc 2 1, 3) := by decide +kernel
theorem d_Mn_seek_57 : decode bc_Mn_seek 57 = .ok (.goto (-36), 3) := by decide +kernel
theorem d_Mn_seek_60 : decode bc_Mn_seek 60 = .ok (.aload_n 1, 1) := by decide +kernel
theorem d_Mn_seek_61 : decode bc_Mn_seek 61 = .ok (.invokevirtual 50, 3) := by decide +kernel
theorem d_Mn_seek_64 : decode bc_Mn_seek 64 = .ok (.aload_n 0, 1) := by decide +kernel
theorem d_Mn_seek_65 : decode bc_Mn_seek 65 = .ok (.getfield 15, 3) := by decide +kernel
theorem d_Mn_seek_68 : decode bc_Mn_seek 68 = .ok (.ireturn, 1) := by decide +kernel
set_option maxRecDepth 20000 in
theorem w_Mn_seek_b60 {X : CX} {V : WV} {tx : Nat} (hV : IsC V) (htx : isTx tx) {z : Int32 × Mem} (hC : Ck X V bc_Mn_seek 3 "SecretWells$Meaning" (some .int) 6 134) (S : Mem) (h : f_Mn_seek_b60 tx S = some z) : G X V 3 (QI X V z.1 z.2) 60 [some (.ref (V.2.2.1 3 0)), some (.ref (V.2.2.1 tx 0)), none] [] S := by
  unfold f_Mn_seek_b60 at h
  refine g_aload_n (pc := 60) hC (i := 1) (x := (V.2.2.1 tx 0)) rfl rfl d_Mn_seek_60 ?_
  obtain ⟨q61, hq61, h⟩ := Option.bind_eq_some_iff.mp h
  refine g_vv (pc := 61) hC (As := []) (st := []) mt_Tx_measure lk_Mn_50 rfl (ob_Tx hV htx) (Nat.le_of_ble_eq_true rfl) ⟨Nat.le_of_ble_eq_true rfl, Nat.le_of_ble_eq_true rfl⟩ rfl d_Mn_seek_61 (c_Tx_measure hV htx hq61) ?_
  refine g_aload_n (pc := 64) hC (i := 0) (x := (V.2.2.1 3 0)) rfl rfl d_Mn_seek_64 ?_
  refine g_getI (pc := 65) hC fo_Mn_15 (ob_Mn hV) rfl d_Mn_seek_65 ?_
  exact g_iW (pc := 68) hC rfl d_Mn_seek_68 h
set_option maxRecDepth 20000 in
theorem w_Mn_seek_b21 {X : CX} {V : WV} {tx : Nat} (hV : IsC V) (htx : isTx tx) {z : Int32 × Mem} (hC : Ck X V bc_Mn_seek 3 "SecretWells$Meaning" (some .int) 6 134) (k21 : Int32 → Mem → Option (Int32 × Mem)) (hk21 : ∀ (x2 : Int32) (S : Mem), k21 x2 S = some z → G X V 3 (QI X V z.1 z.2) 21 [some (.ref (V.2.2.1 3 0)), some (.ref (V.2.2.1 tx 0)), some (.int x2)] [] S) (x2 : Int32) (S : Mem) (h : f_Mn_seek_b21 tx k21 x2 S = some z) : G X V 3 (QI X V z.1 z.2) 21 [some (.ref (V.2.2.1 3 0)), some (.ref (V.2.2.1 tx 0)), some (.int x2)] [] S := by
  unfold f_Mn_seek_b21 at h
  refine g_iload_n (pc := 21) hC (i := 2) (x := x2) rfl rfl d_Mn_seek_21 ?_
  refine g_sipush (pc := 22) hC ks_400 d_Mn_seek_22 ?_
  refine g_icmp_gt (pc := 25) hC (tgt := 60) (by decide) d_Mn_seek_25 h (fun h => ?_) (fun h => ?_)
  · refine g_le (lv2 := [some (.ref (V.2.2.1 3 0)), some (.ref (V.2.2.1 tx 0)), none]) (⟨rfl, ⟨rfl, trivial⟩⟩) ?_
    exact w_Mn_seek_b60 hV htx hC S h
  · refine g_aload_n (pc := 28) hC (i := 0) (x := (V.2.2.1 3 0)) rfl rfl d_Mn_seek_28 ?_
    refine g_getI (pc := 29) hC fo_Mn_15 (ob_Mn hV) rfl d_Mn_seek_29 ?_
    refine g_if_ne (pc := 32) hC (tgt := 60) (by decide) d_Mn_seek_32 h (fun h => ?_) (fun h => ?_)
    · refine g_le (lv2 := [some (.ref (V.2.2.1 3 0)), some (.ref (V.2.2.1 tx 0)), none]) (⟨rfl, ⟨rfl, trivial⟩⟩) ?_
      exact w_Mn_seek_b60 hV htx hC S h
    · refine g_aload_n (pc := 35) hC (i := 0) (x := (V.2.2.1 3 0)) rfl rfl d_Mn_seek_35 ?_
      refine g_getC (pc := 36) hC (j := 1) fo_Mn_31 (ob_Mn hV) rfl d_Mn_seek_36 ?_
      refine g_aload_n (pc := 39) hC (i := 0) (x := (V.2.2.1 3 0)) rfl rfl d_Mn_seek_39 ?_
      refine g_getI (pc := 40) hC fo_Mn_18 (ob_Mn hV) rfl d_Mn_seek_40 ?_
      obtain ⟨q43, hq43, h⟩ := Option.bind_eq_some_iff.mp h
      refine g_vi (pc := 43) hC (As := [.int (S.1 3 3)]) (st := []) mt_Tp_kindAt lk_Mn_40 rfl (ob_Tp hV) (Nat.le_of_ble_eq_true rfl) ⟨Nat.le_of_ble_eq_true rfl, Nat.le_of_ble_eq_true rfl⟩ rfl d_Mn_seek_43 (c_Tp_kindAt hV hq43) ?_
      refine g_if_eq (pc := 46) hC (tgt := 60) (by decide) d_Mn_seek_46 h (fun h => ?_) (fun h => ?_)
      · refine g_le (lv2 := [some (.ref (V.2.2.1 3 0)), some (.ref (V.2.2.1 tx 0)), none]) (⟨rfl, ⟨rfl, trivial⟩⟩) ?_
        exact w_Mn_seek_b60 hV htx hC S h
      · refine g_aload_n (pc := 49) hC (i := 0) (x := (V.2.2.1 3 0)) rfl rfl d_Mn_seek_49 ?_
        refine g_aload_n (pc := 50) hC (i := 1) (x := (V.2.2.1 tx 0)) rfl rfl d_Mn_seek_50 ?_
        obtain ⟨q51, hq51, h⟩ := Option.bind_eq_some_iff.mp h
        refine g_vv (pc := 51) hC (As := [.ref (V.2.2.1 tx 0)]) (st := []) mt_Mn_putTell lk_Mn_46 rfl (ob_Mn hV) (Nat.le_of_ble_eq_true rfl) ⟨Nat.le_of_ble_eq_true rfl, Nat.le_of_ble_eq_true rfl⟩ rfl d_Mn_seek_51 (c_Mn_putTell hV htx hq51) ?_
        refine s_iinc (pc := 54) hC (i := 2) (x := x2) (v := x2 + 1) rfl (by rw [kc_1]) (by decide) d_Mn_seek_54 (lv2 := [some (.ref (V.2.2.1 3 0)), some (.ref (V.2.2.1 tx 0)), some (.int (x2 + 1))]) rfl ?_
        refine g_goto (pc := 57) hC (tgt := 21) (by decide) d_Mn_seek_57 ?_
        exact hk21 (x2 + 1) q51 h
theorem w_Mn_seek_l21 {X : CX} {V : WV} {tx : Nat} (hV : IsC V) (htx : isTx tx) {z : Int32 × Mem} (hC : Ck X V bc_Mn_seek 3 "SecretWells$Meaning" (some .int) 6 134) : ∀ (n : Nat) (x2 : Int32) (S : Mem), f_Mn_seek_l21 tx n x2 S = some z → G X V 3 (QI X V z.1 z.2) 21 [some (.ref (V.2.2.1 3 0)), some (.ref (V.2.2.1 tx 0)), some (.int x2)] [] S := by
  intro n
  induction n with
  | zero =>
    intro x2 S h
    have h : (none : Option (Int32 × Mem)) = some z := h
    cases h
  | succ n ih =>
    intro x2 S h
    exact w_Mn_seek_b21 hV htx hC (f_Mn_seek_l21 tx n) ih x2 S h
set_option maxRecDepth 20000 in
theorem w_Mn_seek_b0 {X : CX} {V : WV} {tx : Nat} (hV : IsC V) (htx : isTx tx) {z : Int32 × Mem} (hC : Ck X V bc_Mn_seek 3 "SecretWells$Meaning" (some .int) 6 134) (S : Mem) (h : f_Mn_seek_b0 tx S = some z) : G X V 3 (QI X V z.1 z.2) 0 [some (.ref (V.2.2.1 3 0)), some (.ref (V.2.2.1 tx 0)), none] [] S := by
  unfold f_Mn_seek_b0 at h
  refine g_aload_n (pc := 0) hC (i := 0) (x := (V.2.2.1 3 0)) rfl rfl d_Mn_seek_0 ?_
  refine g_iconst (pc := 1) hC kc_0 d_Mn_seek_1 ?_
  refine g_putI (pc := 2) hC po_Mn_18 (ob_Mn hV) rfl rfl rfl d_Mn_seek_2 ?_
  refine g_letS h (fun S2 h => ?_)
  refine g_aload_n (pc := 5) hC (i := 0) (x := (V.2.2.1 3 0)) rfl rfl d_Mn_seek_5 ?_
  refine g_iconst (pc := 6) hC kc_0 d_Mn_seek_6 ?_
  refine g_putI (pc := 7) hC po_Mn_15 (ob_Mn hV) rfl rfl rfl d_Mn_seek_7 ?_
  refine g_letS h (fun S7 h => ?_)
  refine g_aload_n (pc := 10) hC (i := 0) (x := (V.2.2.1 3 0)) rfl rfl d_Mn_seek_10 ?_
  refine g_iconst (pc := 11) hC kc_m1 d_Mn_seek_11 ?_
  refine g_putI (pc := 12) hC po_Mn_9 (ob_Mn hV) rfl rfl rfl d_Mn_seek_12 ?_
  refine g_letS h (fun S12 h => ?_)
  refine g_aload_n (pc := 15) hC (i := 1) (x := (V.2.2.1 tx 0)) rfl rfl d_Mn_seek_15 ?_
  obtain ⟨q16, hq16, h⟩ := Option.bind_eq_some_iff.mp h
  refine g_vv (pc := 16) hC (As := []) (st := []) mt_Tx_clear lk_Mn_35 rfl (ob_Tx hV htx) (Nat.le_of_ble_eq_true rfl) ⟨Nat.le_of_ble_eq_true rfl, Nat.le_of_ble_eq_true rfl⟩ rfl d_Mn_seek_16 (c_Tx_clear hV htx hq16) ?_
  refine g_iconst (pc := 19) hC kc_0 d_Mn_seek_19 ?_
  refine s_istore_n (pc := 20) hC (i := 2) rfl (by decide) d_Mn_seek_20 (lv2 := [some (.ref (V.2.2.1 3 0)), some (.ref (V.2.2.1 tx 0)), some (.int 0)]) rfl ?_
  exact w_Mn_seek_l21 hV htx hC 5000 0 q16 h
theorem c_Mn_seek {V : WV} {l : Launch} (hV : IsC V) {tx : Nat} (htx : isTx tx) {S : Mem} {z : Int32 × Mem} (h : f_Mn_seek tx S = some z) : CI V l y_Mn_seek bc_Mn_seek 3 (some .int) 6 134 [.ref (V.2.2.1 3 0), .ref (V.2.2.1 tx 0)] S z.1 z.2 :=
  ct_i rfl (IsC.ok hV) (Nat.le_of_ble_eq_true rfl) (fun _ _ hC => w_Mn_seek_b0 hV htx hC S h)
def f_Nt_add_b0 (x1 : Int32) (x2 : Int32) (x3 : Int32) (S : Mem) : Option (Int32 × Mem) :=
  if (S.1 9 0) < 20 then
    gIn (S.1 9 0) 20 (letS (sA S 9 1 (S.1 9 0) x1) (fun S20 =>
    gIn (S20.1 9 0) 20 (letS (sA S20 9 2 (S20.1 9 0) x2) (fun S30 =>
    gIn (S30.1 9 0) 20 (letS (sA S30 9 3 (S30.1 9 0) x3) (fun S40 =>
    letS (pI S40 9 0 ((S40.1 9 0) + 1)) (fun S48 =>
    some ((S48.1 9 0) - 1, S48))))))))
  else
    some ((-1), S)
def f_Nt_add (x1 : Int32) (x2 : Int32) (x3 : Int32) (S : Mem) : Option (Int32 × Mem) := f_Nt_add_b0  x1 x2 x3 S
theorem d_Nt_add_0 : decode bc_Nt_add 0 = .ok (.aload_n 0, 1) := by decide +kernel
theorem d_Nt_add_1 : decode bc_Nt_add 1 = .ok (.getfield 9, 3) := by decide +kernel
theorem d_Nt_add_4 : decode bc_Nt_add 4 = .ok (.bipush 20, 2) := by decide +kernel
theorem d_Nt_add_6 : decode bc_Nt_add 6 = .ok (.if_icmp .lt 5, 3) := by decide +kernel
theorem d_Nt_add_9 : decode bc_Nt_add 9 = .ok (.iconst (-1), 1) := by decide +kernel
theorem d_Nt_add_10 : decode bc_Nt_add 10 = .ok (.ireturn, 1) := by decide +kernel
theorem d_Nt_add_11 : decode bc_Nt_add 11 = .ok (.aload_n 0, 1) := by decide +kernel
theorem d_Nt_add_12 : decode bc_Nt_add 12 = .ok (.getfield 15, 3) := by decide +kernel
theorem d_Nt_add_15 : decode bc_Nt_add 15 = .ok (.aload_n 0, 1) := by decide +kernel
theorem d_Nt_add_16 : decode bc_Nt_add 16 = .ok (.getfield 9, 3) := by decide +kernel
theorem d_Nt_add_19 : decode bc_Nt_add 19 = .ok (.iload_n 1, 1) := by decide +kernel
theorem d_Nt_add_20 : decode bc_Nt_add 20 = .ok (.iastore, 1) := by decide +kernel
theorem d_Nt_add_21 : decode bc_Nt_add 21 = .ok (.aload_n 0, 1) := by decide +kernel
theorem d_Nt_add_22 : decode bc_Nt_add 22 = .ok (.getfield 19, 3) := by decide +kernel
theorem d_Nt_add_25 : decode bc_Nt_add 25 = .ok (.aload_n 0, 1) := by decide +kernel
theorem d_Nt_add_26 : decode bc_Nt_add 26 = .ok (.getfield 9, 3) := by decide +kernel
theorem d_Nt_add_29 : decode bc_Nt_add 29 = .ok (.iload_n 2, 1) := by decide +kernel
theorem d_Nt_add_30 : decode bc_Nt_add 30 = .ok (.iastore, 1) := by decide +kernel
theorem d_Nt_add_31 : decode bc_Nt_add 31 = .ok (.aload_n 0, 1) := by decide +kernel
theorem d_Nt_add_32 : decode bc_Nt_add 32 = .ok (.getfield 22, 3) := by decide +kernel
theorem d_Nt_add_35 : decode bc_Nt_add 35 = .ok (.aload_n 0, 1) := by decide +kernel
theorem d_Nt_add_36 : decode bc_Nt_add 36 = .ok (.getfield 9, 3) := by decide +kernel
theorem d_Nt_add_39 : decode bc_Nt_add 39 = .ok (.iload_n 3, 1) := by decide +kernel
theorem d_Nt_add_40 : decode bc_Nt_add 40 = .ok (.iastore, 1) := by decide +kernel
theorem d_Nt_add_41 : decode bc_Nt_add 41 = .ok (.aload_n 0, 1) := by decide +kernel
theorem d_Nt_add_42 : decode bc_Nt_add 42 = .ok (.dup, 1) := by decide +kernel
theorem d_Nt_add_43 : decode bc_Nt_add 43 = .ok (.getfield 9, 3) := by decide +kernel
theorem d_Nt_add_46 : decode bc_Nt_add 46 = .ok (.iconst 1, 1) := by decide +kernel
theorem d_Nt_add_47 : decode bc_Nt_add 47 = .ok (.iadd, 1) := by decide +kernel
theorem d_Nt_add_48 : decode bc_Nt_add 48 = .ok (.putfield 9, 3) := by decide +kernel
theorem d_Nt_add_51 : decode bc_Nt_add 51 = .ok (.aload_n 0, 1) := by decide +kernel
theorem d_Nt_add_52 : decode bc_Nt_add 52 = .ok (.getfield 9, 3) := by decide +kernel
theorem d_Nt_add_55 : decode bc_Nt_add 55 = .ok (.iconst 1, 1) := by decide +kernel
theorem d_Nt_add_56 : decode bc_Nt_add 56 = .ok (.isub, 1) := by decide +kernel
theorem d_Nt_add_57 : decode bc_Nt_add 57 = .ok (.ireturn, 1) := by decide +kernel
set_option maxRecDepth 20000 in
theorem w_Nt_add_b0 {X : CX} {V : WV} (hV : IsC V) {z : Int32 × Mem} (hC : Ck X V bc_Nt_add 4 "SecretWells$Notes" (some .int) 0 0) (x1 : Int32) (x2 : Int32) (x3 : Int32) (S : Mem) (h : f_Nt_add_b0  x1 x2 x3 S = some z) : G X V 4 (QI X V z.1 z.2) 0 [some (.ref (V.2.2.1 9 0)), some (.int x1), some (.int x2), some (.int x3)] [] S := by
  unfold f_Nt_add_b0 at h
  refine g_aload_n (pc := 0) hC (i := 0) (x := (V.2.2.1 9 0)) rfl rfl d_Nt_add_0 ?_
  refine g_getI (pc := 1) hC fo_Nt_9 (ob_Nt hV) rfl d_Nt_add_1 ?_
  refine g_bipush (pc := 4) hC kb_20 d_Nt_add_4 ?_
  refine g_icmp_lt (pc := 6) hC (tgt := 11) (by decide) d_Nt_add_6 h (fun h => ?_) (fun h => ?_)
  · refine g_aload_n (pc := 11) hC (i := 0) (x := (V.2.2.1 9 0)) rfl rfl d_Nt_add_11 ?_
    refine g_getA (pc := 12) hC fo_Nt_15 (ob_Nt hV) rfl d_Nt_add_12 ?_
    refine g_aload_n (pc := 15) hC (i := 0) (x := (V.2.2.1 9 0)) rfl rfl d_Nt_add_15 ?_
    refine g_getI (pc := 16) hC fo_Nt_9 (ob_Nt hV) rfl d_Nt_add_16 ?_
    refine g_iload_n (pc := 19) hC (i := 1) (x := x1) rfl rfl d_Nt_add_19 ?_
    refine g_iast (pc := 20) hC (ar_Nt_1 hV) d_Nt_add_20 h (fun h => ?_)
    refine g_letS h (fun S20 h => ?_)
    refine g_aload_n (pc := 21) hC (i := 0) (x := (V.2.2.1 9 0)) rfl rfl d_Nt_add_21 ?_
    refine g_getA (pc := 22) hC fo_Nt_19 (ob_Nt hV) rfl d_Nt_add_22 ?_
    refine g_aload_n (pc := 25) hC (i := 0) (x := (V.2.2.1 9 0)) rfl rfl d_Nt_add_25 ?_
    refine g_getI (pc := 26) hC fo_Nt_9 (ob_Nt hV) rfl d_Nt_add_26 ?_
    refine g_iload_n (pc := 29) hC (i := 2) (x := x2) rfl rfl d_Nt_add_29 ?_
    refine g_iast (pc := 30) hC (ar_Nt_2 hV) d_Nt_add_30 h (fun h => ?_)
    refine g_letS h (fun S30 h => ?_)
    refine g_aload_n (pc := 31) hC (i := 0) (x := (V.2.2.1 9 0)) rfl rfl d_Nt_add_31 ?_
    refine g_getA (pc := 32) hC fo_Nt_22 (ob_Nt hV) rfl d_Nt_add_32 ?_
    refine g_aload_n (pc := 35) hC (i := 0) (x := (V.2.2.1 9 0)) rfl rfl d_Nt_add_35 ?_
    refine g_getI (pc := 36) hC fo_Nt_9 (ob_Nt hV) rfl d_Nt_add_36 ?_
    refine g_iload_n (pc := 39) hC (i := 3) (x := x3) rfl rfl d_Nt_add_39 ?_
    refine g_iast (pc := 40) hC (ar_Nt_3 hV) d_Nt_add_40 h (fun h => ?_)
    refine g_letS h (fun S40 h => ?_)
    refine g_aload_n (pc := 41) hC (i := 0) (x := (V.2.2.1 9 0)) rfl rfl d_Nt_add_41 ?_
    refine g_dup (pc := 42) hC rfl d_Nt_add_42 ?_
    refine g_getI (pc := 43) hC fo_Nt_9 (ob_Nt hV) rfl d_Nt_add_43 ?_
    refine g_iconst (pc := 46) hC kc_1 d_Nt_add_46 ?_
    refine g_iadd (pc := 47) hC d_Nt_add_47 ?_
    refine g_putI (pc := 48) hC po_Nt_9 (ob_Nt hV) rfl rfl rfl d_Nt_add_48 ?_
    refine g_letS h (fun S48 h => ?_)
    refine g_aload_n (pc := 51) hC (i := 0) (x := (V.2.2.1 9 0)) rfl rfl d_Nt_add_51 ?_
    refine g_getI (pc := 52) hC fo_Nt_9 (ob_Nt hV) rfl d_Nt_add_52 ?_
    refine g_iconst (pc := 55) hC kc_1 d_Nt_add_55 ?_
    refine g_isub (pc := 56) hC d_Nt_add_56 ?_
    exact g_iW (pc := 57) hC rfl d_Nt_add_57 h
  · refine g_iconst (pc := 9) hC kc_m1 d_Nt_add_9 ?_
    exact g_iW (pc := 10) hC rfl d_Nt_add_10 h
theorem c_Nt_add {V : WV} {l : Launch} (hV : IsC V) {x1 : Int32} {x2 : Int32} {x3 : Int32} {S : Mem} {z : Int32 × Mem} (h : f_Nt_add x1 x2 x3 S = some z) : CI V l y_Nt_add bc_Nt_add 4 (some .int) 0 0 [.ref (V.2.2.1 9 0), .int x1, .int x2, .int x3] S z.1 z.2 :=
  ct_i rfl (IsC.ok hV) (Nat.le_of_ble_eq_true rfl) (fun _ _ hC => w_Nt_add_b0 hV hC x1 x2 x3 S h)
def f_Nt_fits_b44 (tx : Nat) (S : Mem) (k3 : Int32 → Int32 → Int32 → Option (Int32)) (k44 : Int32 → Int32 → Int32 → Int32 → Int32 → Int32 → Option (Int32)) (x2 : Int32) (x3 : Int32) (x4 : Int32) (x5 : Int32) (x6 : Int32) (x7 : Int32) : Option (Int32) :=
  if (S.1 tx 2) ≤ x7 then
    gIn x4 20 (
    if x5 = (S.2.1 9 3 x4.toNatClampNeg) then
      k3 x2 x3 (x4 + 1)
    else
      some 0)
  else
    if ((x6 >>> (x7 &&& 31)) &&& 1) = 0 then
      k44 x2 x3 x4 x5 x6 (x7 + 1)
    else
      gIn x7 8 (
      letS (x5 + (S.2.1 tx 14 x7.toNatClampNeg)) (fun y73 =>
      k44 x2 x3 x4 y73 x6 (x7 + 1)))
def f_Nt_fits_l44 (tx : Nat) (S : Mem) (k3 : Int32 → Int32 → Int32 → Option (Int32)) : Nat → Int32 → Int32 → Int32 → Int32 → Int32 → Int32 → Option (Int32)
  | 0 => fun _ _ _ _ _ _ => none
  | n + 1 => f_Nt_fits_b44 tx S k3 (f_Nt_fits_l44 tx S k3 n)
def f_Nt_fits_b3 (tx : Nat) (S : Mem) (k3 : Int32 → Int32 → Int32 → Option (Int32)) (x2 : Int32) (x3 : Int32) (x4 : Int32) : Option (Int32) :=
  if x2 ≤ x4 then
    some 1
  else
    if 20 ≤ x4 then
      some 1
    else
      gIn x4 20 (
      gIn (S.2.1 9 1 x4.toNatClampNeg) 4 (
      letS (S.2.1 tx 8 (S.2.1 9 1 x4.toNatClampNeg).toNatClampNeg) (fun y28 =>
      gIn x4 20 (
      letS ((S.2.1 9 2 x4.toNatClampNeg) &&& x3) (fun y39 =>
      f_Nt_fits_l44 tx S k3 5000 x2 x3 x4 y28 y39 0)))))
def f_Nt_fits_l3 (tx : Nat) (S : Mem) : Nat → Int32 → Int32 → Int32 → Option (Int32)
  | 0 => fun _ _ _ => none
  | n + 1 => f_Nt_fits_b3 tx S (f_Nt_fits_l3 tx S n)
def f_Nt_fits_b0 (tx : Nat) (S : Mem) (x2 : Int32) (x3 : Int32) : Option (Int32) :=
  f_Nt_fits_l3 tx S 5000 x2 x3 0
def f_Nt_fits (tx : Nat) (x2 : Int32) (x3 : Int32) (S : Mem) : Option (Int32) := f_Nt_fits_b0 tx S x2 x3
theorem d_Nt_fits_0 : decode bc_Nt_fits 0 = .ok (.iconst 0, 1) := by decide +kernel
theorem d_Nt_fits_1 : decode bc_Nt_fits 1 = .ok (.istore 4, 2) := by decide +kernel
theorem d_Nt_fits_3 : decode bc_Nt_fits 3 = .ok (.iload 4, 2) := by decide +kernel
theorem d_Nt_fits_5 : decode bc_Nt_fits 5 = .ok (.iload_n 2, 1) := by decide +kernel
theorem d_Nt_fits_6 : decode bc_Nt_fits 6 = .ok (.if_icmp .ge 95, 3) := by decide +kernel
theorem d_Nt_fits_9 : decode bc_Nt_fits 9 = .ok (.iload 4, 2) := by decide +kernel
theorem d_Nt_fits_11 : decode bc_Nt_fits 11 = .ok (.bipush 20, 2) := by decide +kernel
theorem d_Nt_fits_13 : decode bc_Nt_fits 13 = .ok (.if_icmp .ge 88, 3) := by decide +kernel
theorem d_Nt_fits_16 : decode bc_Nt_fits 16 = .ok (.aload_n 1, 1) := by decide +kernel
theorem d_Nt_fits_17 : decode bc_Nt_fits 17 = .ok (.getfield 28, 3) := by decide +kernel
theorem d_Nt_fits_20 : decode bc_Nt_fits 20 = .ok (.aload_n 0, 1) := by decide +kernel
theorem d_Nt_fits_21 : decode bc_Nt_fits 21 = .ok (.getfield 15, 3) := by decide +kernel
theorem d_Nt_fits_24 : decode bc_Nt_fits 24 = .ok (.iload 4, 2) := by decide +kernel
theorem d_Nt_fits_26 : decode bc_Nt_fits 26 = .ok (.iaload, 1) := by decide +kernel
theorem d_Nt_fits_27 : decode bc_Nt_fits 27 = .ok (.iaload, 1) := by decide +kernel
theorem d_Nt_fits_28 : decode bc_Nt_fits 28 = .ok (.istore 5, 2) := by decide +kernel
theorem d_Nt_fits_30 : decode bc_Nt_fits 30 = .ok (.aload_n 0, 1) := by decide +kernel
theorem d_Nt_fits_31 : decode bc_Nt_fits 31 = .ok (.getfield 19, 3) := by decide +kernel
theorem d_Nt_fits_34 : decode bc_Nt_fits 34 = .ok (.iload 4, 2) := by decide +kernel
theorem d_Nt_fits_36 : decode bc_Nt_fits 36 = .ok (.iaload, 1) := by decide +kernel
theorem d_Nt_fits_37 : decode bc_Nt_fits 37 = .ok (.iload_n 3, 1) := by decide +kernel
theorem d_Nt_fits_38 : decode bc_Nt_fits 38 = .ok (.iand, 1) := by decide +kernel
theorem d_Nt_fits_39 : decode bc_Nt_fits 39 = .ok (.istore 6, 2) := by decide +kernel
theorem d_Nt_fits_41 : decode bc_Nt_fits 41 = .ok (.iconst 0, 1) := by decide +kernel
theorem d_Nt_fits_42 : decode bc_Nt_fits 42 = .ok (.istore 7, 2) := by decide +kernel
theorem d_Nt_fits_44 : decode bc_Nt_fits 44 = .ok (.iload 7, 2) := by decide +kernel
theorem d_Nt_fits_46 : decode bc_Nt_fits 46 = .ok (.aload_n 1, 1) := by decide +kernel
theorem d_Nt_fits_47 : decode bc_Nt_fits 47 = .ok (.getfield 33, 3) := by decide +kernel
theorem d_Nt_fits_50 : decode bc_Nt_fits 50 = .ok (.if_icmp .ge 31, 3) := by decide +kernel
theorem d_Nt_fits_53 : decode bc_Nt_fits 53 = .ok (.iload 6, 2) := by decide +kernel
theorem d_Nt_fits_55 : decode bc_Nt_fits 55 = .ok (.iload 7, 2) := by decide +kernel
theorem d_Nt_fits_57 : decode bc_Nt_fits 57 = .ok (.ishr, 1) := by decide +kernel
theorem d_Nt_fits_58 : decode bc_Nt_fits 58 = .ok (.iconst 1, 1) := by decide +kernel
theorem d_Nt_fits_59 : decode bc_Nt_fits 59 = .ok (.iand, 1) := by decide +kernel
theorem d_Nt_fits_60 : decode bc_Nt_fits 60 = .ok (.ifCond .eq 15, 3) := by decide +kernel
theorem d_Nt_fits_63 : decode bc_Nt_fits 63 = .ok (.iload 5, 2) := by decide +kernel
theorem d_Nt_fits_65 : decode bc_Nt_fits 65 = .ok (.aload_n 1, 1) := by decide +kernel
theorem d_Nt_fits_66 : decode bc_Nt_fits 66 = .ok (.getfield 36, 3) := by decide +kernel
theorem d_Nt_fits_69 : decode bc_Nt_fits 69 = .ok (.iload 7, 2) := by decide +kernel
theorem d_Nt_fits_71 : decode bc_Nt_fits 71 = .ok (.iaload, 1) := by decide +kernel
theorem d_Nt_fits_72 : decode bc_Nt_fits 72 = .ok (.iadd, 1) := by decide +kernel
theorem d_Nt_fits_73 : decode bc_Nt_fits 73 = .ok (.istore 5, 2) := by decide +kernel
theorem d_Nt_fits_75 : decode bc_Nt_fits 75 = .ok (.iinc 7 1, 3) := by decide +kernel
theorem d_Nt_fits_78 : decode bc_Nt_fits 78 = .ok (.goto (-34), 3) := by decide +kernel
theorem d_Nt_fits_81 : decode bc_Nt_fits 81 = .ok (.iload 5, 2) := by decide +kernel
theorem d_Nt_fits_83 : decode bc_Nt_fits 83 = .ok (.aload_n 0, 1) := by decide +kernel
theorem d_Nt_fits_84 : decode bc_Nt_fits 84 = .ok (.getfield 22, 3) := by decide +kernel
theorem d_Nt_fits_87 : decode bc_Nt_fits 87 = .ok (.iload 4, 2) := by decide +kernel
theorem d_Nt_fits_89 : decode bc_Nt_fits 89 = .ok (.iaload, 1) := by decide +kernel
theorem d_Nt_fits_90 : decode bc_Nt_fits 90 = .ok (.if_icmp .eq 5, 3) := by decide +kernel
theorem d_Nt_fits_93 : decode bc_Nt_fits 93 = .ok (.iconst 0, 1) := by decide +kernel
theorem d_Nt_fits_94 : decode bc_Nt_fits 94 = .ok (.ireturn, 1) := by decide +kernel
theorem d_Nt_fits_95 : decode bc_Nt_fits 95 = .ok (.iinc 4 1, 3) := by decide +kernel
theorem d_Nt_fits_98 : decode bc_Nt_fits 98 = .ok (.goto (-95), 3) := by decide +kernel
theorem d_Nt_fits_101 : decode bc_Nt_fits 101 = .ok (.iconst 1, 1) := by decide +kernel
theorem d_Nt_fits_102 : decode bc_Nt_fits 102 = .ok (.ireturn, 1) := by decide +kernel
set_option maxRecDepth 20000 in
theorem w_Nt_fits_b44 {X : CX} {V : WV} {tx : Nat} (hV : IsC V) (htx : isTx tx) {S : Mem} {z : Int32} (hC : Ck X V bc_Nt_fits 8 "SecretWells$Notes" (some .boolean) 0 0) (k3 : Int32 → Int32 → Int32 → Option (Int32)) (hk3 : ∀ (x2 : Int32) (x3 : Int32) (x4 : Int32), k3 x2 x3 x4 = some z → G X V 8 (QI X V z S) 3 [some (.ref (V.2.2.1 9 0)), some (.ref (V.2.2.1 tx 0)), some (.int x2), some (.int x3), some (.int x4), none, none, none] [] S) (k44 : Int32 → Int32 → Int32 → Int32 → Int32 → Int32 → Option (Int32)) (hk44 : ∀ (x2 : Int32) (x3 : Int32) (x4 : Int32) (x5 : Int32) (x6 : Int32) (x7 : Int32), k44 x2 x3 x4 x5 x6 x7 = some z → G X V 8 (QI X V z S) 44 [some (.ref (V.2.2.1 9 0)), some (.ref (V.2.2.1 tx 0)), some (.int x2), some (.int x3), some (.int x4), some (.int x5), some (.int x6), some (.int x7)] [] S) (x2 : Int32) (x3 : Int32) (x4 : Int32) (x5 : Int32) (x6 : Int32) (x7 : Int32) (h : f_Nt_fits_b44 tx S k3 k44 x2 x3 x4 x5 x6 x7 = some z) : G X V 8 (QI X V z S) 44 [some (.ref (V.2.2.1 9 0)), some (.ref (V.2.2.1 tx 0)), some (.int x2), some (.int x3), some (.int x4), some (.int x5), some (.int x6), some (.int x7)] [] S := by
  unfold f_Nt_fits_b44 at h
  refine g_iload (pc := 44) hC (i := 7) (x := x7) rfl d_Nt_fits_44 ?_
  refine g_aload_n (pc := 46) hC (i := 1) (x := (V.2.2.1 tx 0)) rfl rfl d_Nt_fits_46 ?_
  refine g_getI (pc := 47) hC fo_Nt_33 (ob_Tx hV htx) rfl d_Nt_fits_47 ?_
  refine g_icmp_ge (pc := 50) hC (tgt := 81) (by decide) d_Nt_fits_50 h (fun h => ?_) (fun h => ?_)
  · refine g_iload (pc := 81) hC (i := 5) (x := x5) rfl d_Nt_fits_81 ?_
    refine g_aload_n (pc := 83) hC (i := 0) (x := (V.2.2.1 9 0)) rfl rfl d_Nt_fits_83 ?_
    refine g_getA (pc := 84) hC fo_Nt_22 (ob_Nt hV) rfl d_Nt_fits_84 ?_
    refine g_iload (pc := 87) hC (i := 4) (x := x4) rfl d_Nt_fits_87 ?_
    refine g_iald (pc := 89) hC (ar_Nt_3 hV) d_Nt_fits_89 h (fun h => ?_)
    refine g_icmp_eq (pc := 90) hC (tgt := 95) (by decide) d_Nt_fits_90 h (fun h => ?_) (fun h => ?_)
    · refine s_iinc (pc := 95) hC (i := 4) (x := x4) (v := x4 + 1) rfl (by rw [kc_1]) (by decide) d_Nt_fits_95 (lv2 := [some (.ref (V.2.2.1 9 0)), some (.ref (V.2.2.1 tx 0)), some (.int x2), some (.int x3), some (.int (x4 + 1)), some (.int x5), some (.int x6), some (.int x7)]) rfl ?_
      refine g_goto (pc := 98) hC (tgt := 3) (by decide) d_Nt_fits_98 ?_
      refine g_le (lv2 := [some (.ref (V.2.2.1 9 0)), some (.ref (V.2.2.1 tx 0)), some (.int x2), some (.int x3), some (.int (x4 + 1)), none, none, none]) (⟨rfl, ⟨rfl, ⟨rfl, ⟨rfl, ⟨rfl, trivial⟩⟩⟩⟩⟩) ?_
      exact hk3 x2 x3 (x4 + 1) h
    · refine g_iconst (pc := 93) hC kc_0 d_Nt_fits_93 ?_
      exact g_iN (pc := 94) hC rfl d_Nt_fits_94 h
  · refine g_iload (pc := 53) hC (i := 6) (x := x6) rfl d_Nt_fits_53 ?_
    refine g_iload (pc := 55) hC (i := 7) (x := x7) rfl d_Nt_fits_55 ?_
    refine g_ishr (pc := 57) hC d_Nt_fits_57 ?_
    refine g_iconst (pc := 58) hC kc_1 d_Nt_fits_58 ?_
    refine g_iand (pc := 59) hC d_Nt_fits_59 ?_
    refine g_if_eq (pc := 60) hC (tgt := 75) (by decide) d_Nt_fits_60 h (fun h => ?_) (fun h => ?_)
    · refine s_iinc (pc := 75) hC (i := 7) (x := x7) (v := x7 + 1) rfl (by rw [kc_1]) (by decide) d_Nt_fits_75 (lv2 := [some (.ref (V.2.2.1 9 0)), some (.ref (V.2.2.1 tx 0)), some (.int x2), some (.int x3), some (.int x4), some (.int x5), some (.int x6), some (.int (x7 + 1))]) rfl ?_
      refine g_goto (pc := 78) hC (tgt := 44) (by decide) d_Nt_fits_78 ?_
      exact hk44 x2 x3 x4 x5 x6 (x7 + 1) h
    · refine g_iload (pc := 63) hC (i := 5) (x := x5) rfl d_Nt_fits_63 ?_
      refine g_aload_n (pc := 65) hC (i := 1) (x := (V.2.2.1 tx 0)) rfl rfl d_Nt_fits_65 ?_
      refine g_getA (pc := 66) hC fo_Nt_36 (ob_Tx hV htx) rfl d_Nt_fits_66 ?_
      refine g_iload (pc := 69) hC (i := 7) (x := x7) rfl d_Nt_fits_69 ?_
      refine g_iald (pc := 71) hC (ar_Tx_14 hV htx) d_Nt_fits_71 h (fun h => ?_)
      refine g_iadd (pc := 72) hC d_Nt_fits_72 ?_
      refine g_leti h (fun y73 h => ?_)
      refine s_istore (pc := 73) hC (i := 5) (by decide) d_Nt_fits_73 (lv2 := [some (.ref (V.2.2.1 9 0)), some (.ref (V.2.2.1 tx 0)), some (.int x2), some (.int x3), some (.int x4), some (.int y73), some (.int x6), some (.int x7)]) rfl ?_
      refine s_iinc (pc := 75) hC (i := 7) (x := x7) (v := x7 + 1) rfl (by rw [kc_1]) (by decide) d_Nt_fits_75 (lv2 := [some (.ref (V.2.2.1 9 0)), some (.ref (V.2.2.1 tx 0)), some (.int x2), some (.int x3), some (.int x4), some (.int y73), some (.int x6), some (.int (x7 + 1))]) rfl ?_
      refine g_goto (pc := 78) hC (tgt := 44) (by decide) d_Nt_fits_78 ?_
      exact hk44 x2 x3 x4 y73 x6 (x7 + 1) h
theorem w_Nt_fits_l44 {X : CX} {V : WV} {tx : Nat} (hV : IsC V) (htx : isTx tx) {S : Mem} {z : Int32} (hC : Ck X V bc_Nt_fits 8 "SecretWells$Notes" (some .boolean) 0 0) (k3 : Int32 → Int32 → Int32 → Option (Int32)) (hk3 : ∀ (x2 : Int32) (x3 : Int32) (x4 : Int32), k3 x2 x3 x4 = some z → G X V 8 (QI X V z S) 3 [some (.ref (V.2.2.1 9 0)), some (.ref (V.2.2.1 tx 0)), some (.int x2), some (.int x3), some (.int x4), none, none, none] [] S) : ∀ (n : Nat) (x2 : Int32) (x3 : Int32) (x4 : Int32) (x5 : Int32) (x6 : Int32) (x7 : Int32), f_Nt_fits_l44 tx S k3 n x2 x3 x4 x5 x6 x7 = some z → G X V 8 (QI X V z S) 44 [some (.ref (V.2.2.1 9 0)), some (.ref (V.2.2.1 tx 0)), some (.int x2), some (.int x3), some (.int x4), some (.int x5), some (.int x6), some (.int x7)] [] S := by
  intro n
  induction n with
  | zero =>
    intro x2 x3 x4 x5 x6 x7 h
    have h : (none : Option (Int32)) = some z := h
    cases h
  | succ n ih =>
    intro x2 x3 x4 x5 x6 x7 h
    exact w_Nt_fits_b44 hV htx hC k3 hk3 (f_Nt_fits_l44 tx S k3 n) ih x2 x3 x4 x5 x6 x7 h
set_option maxRecDepth 20000 in
theorem w_Nt_fits_b3 {X : CX} {V : WV} {tx : Nat} (hV : IsC V) (htx : isTx tx) {S : Mem} {z : Int32} (hC : Ck X V bc_Nt_fits 8 "SecretWells$Notes" (some .boolean) 0 0) (k3 : Int32 → Int32 → Int32 → Option (Int32)) (hk3 : ∀ (x2 : Int32) (x3 : Int32) (x4 : Int32), k3 x2 x3 x4 = some z → G X V 8 (QI X V z S) 3 [some (.ref (V.2.2.1 9 0)), some (.ref (V.2.2.1 tx 0)), some (.int x2), some (.int x3), some (.int x4), none, none, none] [] S) (x2 : Int32) (x3 : Int32) (x4 : Int32) (h : f_Nt_fits_b3 tx S k3 x2 x3 x4 = some z) : G X V 8 (QI X V z S) 3 [some (.ref (V.2.2.1 9 0)), some (.ref (V.2.2.1 tx 0)), some (.int x2), some (.int x3), some (.int x4), none, none, none] [] S := by
  unfold f_Nt_fits_b3 at h
  refine g_iload (pc := 3) hC (i := 4) (x := x4) rfl d_Nt_fits_3 ?_
  refine g_iload_n (pc := 5) hC (i := 2) (x := x2) rfl rfl d_Nt_fits_5 ?_
  refine g_icmp_ge (pc := 6) hC (tgt := 101) (by decide) d_Nt_fits_6 h (fun h => ?_) (fun h => ?_)
  · refine g_iconst (pc := 101) hC kc_1 d_Nt_fits_101 ?_
    exact g_iN (pc := 102) hC rfl d_Nt_fits_102 h
  · refine g_iload (pc := 9) hC (i := 4) (x := x4) rfl d_Nt_fits_9 ?_
    refine g_bipush (pc := 11) hC kb_20 d_Nt_fits_11 ?_
    refine g_icmp_ge (pc := 13) hC (tgt := 101) (by decide) d_Nt_fits_13 h (fun h => ?_) (fun h => ?_)
    · refine g_iconst (pc := 101) hC kc_1 d_Nt_fits_101 ?_
      exact g_iN (pc := 102) hC rfl d_Nt_fits_102 h
    · refine g_aload_n (pc := 16) hC (i := 1) (x := (V.2.2.1 tx 0)) rfl rfl d_Nt_fits_16 ?_
      refine g_getA (pc := 17) hC fo_Nt_28 (ob_Tx hV htx) rfl d_Nt_fits_17 ?_
      refine g_aload_n (pc := 20) hC (i := 0) (x := (V.2.2.1 9 0)) rfl rfl d_Nt_fits_20 ?_
      refine g_getA (pc := 21) hC fo_Nt_15 (ob_Nt hV) rfl d_Nt_fits_21 ?_
      refine g_iload (pc := 24) hC (i := 4) (x := x4) rfl d_Nt_fits_24 ?_
      refine g_iald (pc := 26) hC (ar_Nt_1 hV) d_Nt_fits_26 h (fun h => ?_)
      refine g_iald (pc := 27) hC (ar_Tx_8 hV htx) d_Nt_fits_27 h (fun h => ?_)
      refine g_leti h (fun y28 h => ?_)
      refine s_istore (pc := 28) hC (i := 5) (by decide) d_Nt_fits_28 (lv2 := [some (.ref (V.2.2.1 9 0)), some (.ref (V.2.2.1 tx 0)), some (.int x2), some (.int x3), some (.int x4), some (.int y28), none, none]) rfl ?_
      refine g_aload_n (pc := 30) hC (i := 0) (x := (V.2.2.1 9 0)) rfl rfl d_Nt_fits_30 ?_
      refine g_getA (pc := 31) hC fo_Nt_19 (ob_Nt hV) rfl d_Nt_fits_31 ?_
      refine g_iload (pc := 34) hC (i := 4) (x := x4) rfl d_Nt_fits_34 ?_
      refine g_iald (pc := 36) hC (ar_Nt_2 hV) d_Nt_fits_36 h (fun h => ?_)
      refine g_iload_n (pc := 37) hC (i := 3) (x := x3) rfl rfl d_Nt_fits_37 ?_
      refine g_iand (pc := 38) hC d_Nt_fits_38 ?_
      refine g_leti h (fun y39 h => ?_)
      refine s_istore (pc := 39) hC (i := 6) (by decide) d_Nt_fits_39 (lv2 := [some (.ref (V.2.2.1 9 0)), some (.ref (V.2.2.1 tx 0)), some (.int x2), some (.int x3), some (.int x4), some (.int y28), some (.int y39), none]) rfl ?_
      refine g_iconst (pc := 41) hC kc_0 d_Nt_fits_41 ?_
      refine s_istore (pc := 42) hC (i := 7) (by decide) d_Nt_fits_42 (lv2 := [some (.ref (V.2.2.1 9 0)), some (.ref (V.2.2.1 tx 0)), some (.int x2), some (.int x3), some (.int x4), some (.int y28), some (.int y39), some (.int 0)]) rfl ?_
      exact w_Nt_fits_l44 hV htx hC k3 hk3 5000 x2 x3 x4 y28 y39 0 h
theorem w_Nt_fits_l3 {X : CX} {V : WV} {tx : Nat} (hV : IsC V) (htx : isTx tx) {S : Mem} {z : Int32} (hC : Ck X V bc_Nt_fits 8 "SecretWells$Notes" (some .boolean) 0 0) : ∀ (n : Nat) (x2 : Int32) (x3 : Int32) (x4 : Int32), f_Nt_fits_l3 tx S n x2 x3 x4 = some z → G X V 8 (QI X V z S) 3 [some (.ref (V.2.2.1 9 0)), some (.ref (V.2.2.1 tx 0)), some (.int x2), some (.int x3), some (.int x4), none, none, none] [] S := by
  intro n
  induction n with
  | zero =>
    intro x2 x3 x4 h
    have h : (none : Option (Int32)) = some z := h
    cases h
  | succ n ih =>
    intro x2 x3 x4 h
    exact w_Nt_fits_b3 hV htx hC (f_Nt_fits_l3 tx S n) ih x2 x3 x4 h
set_option maxRecDepth 20000 in
theorem w_Nt_fits_b0 {X : CX} {V : WV} {tx : Nat} (hV : IsC V) (htx : isTx tx) {S : Mem} {z : Int32} (hC : Ck X V bc_Nt_fits 8 "SecretWells$Notes" (some .boolean) 0 0) (x2 : Int32) (x3 : Int32) (h : f_Nt_fits_b0 tx S x2 x3 = some z) : G X V 8 (QI X V z S) 0 [some (.ref (V.2.2.1 9 0)), some (.ref (V.2.2.1 tx 0)), some (.int x2), some (.int x3), none, none, none, none] [] S := by
  unfold f_Nt_fits_b0 at h
  refine g_iconst (pc := 0) hC kc_0 d_Nt_fits_0 ?_
  refine s_istore (pc := 1) hC (i := 4) (by decide) d_Nt_fits_1 (lv2 := [some (.ref (V.2.2.1 9 0)), some (.ref (V.2.2.1 tx 0)), some (.int x2), some (.int x3), some (.int 0), none, none, none]) rfl ?_
  exact w_Nt_fits_l3 hV htx hC 5000 x2 x3 0 h
theorem c_Nt_fits {V : WV} {l : Launch} (hV : IsC V) {tx : Nat} (htx : isTx tx) {x2 : Int32} {x3 : Int32} {S : Mem} {z : Int32} (h : f_Nt_fits tx x2 x3 S = some z) : CI V l y_Nt_fits bc_Nt_fits 8 (some .boolean) 0 0 [.ref (V.2.2.1 9 0), .ref (V.2.2.1 tx 0), .int x2, .int x3] S z S :=
  ct_i rfl (IsC.ok hV) (Nat.le_of_ble_eq_true rfl) (fun _ _ hC => w_Nt_fits_b0 hV htx hC x2 x3 h)
def f_Nt_trueOnes_b6 (tx : Nat) (S : Mem) (k6 : Int32 → Int32 → Int32 → Int32 → Option (Int32)) (x2 : Int32) (x3 : Int32) (x4 : Int32) (x5 : Int32) : Option (Int32) :=
  if ((1 : Int32) <<< ((S.1 tx 2) &&& 31)) ≤ x5 then
    if x3 = (-1) then
      some x4
    else
      some (-1)
  else
    Option.bind (f_Nt_fits tx x2 x5 S) (fun q22 =>
    if q22 = 0 then
      k6 x2 x3 x4 (x5 + 1)
    else
      if x4 = x3 then
        some x5
      else
        k6 x2 x3 (x4 + 1) (x5 + 1))
def f_Nt_trueOnes_l6 (tx : Nat) (S : Mem) : Nat → Int32 → Int32 → Int32 → Int32 → Option (Int32)
  | 0 => fun _ _ _ _ => none
  | n + 1 => f_Nt_trueOnes_b6 tx S (f_Nt_trueOnes_l6 tx S n)
def f_Nt_trueOnes_b0 (tx : Nat) (S : Mem) (x2 : Int32) (x3 : Int32) : Option (Int32) :=
  f_Nt_trueOnes_l6 tx S 5000 x2 x3 0 0
def f_Nt_trueOnes (tx : Nat) (x2 : Int32) (x3 : Int32) (S : Mem) : Option (Int32) := f_Nt_trueOnes_b0 tx S x2 x3
theorem d_Nt_trueOnes_0 : decode bc_Nt_trueOnes 0 = .ok (.iconst 0, 1) := by decide +kernel
theorem d_Nt_trueOnes_1 : decode bc_Nt_trueOnes 1 = .ok (.istore 4, 2) := by decide +kernel
theorem d_Nt_trueOnes_3 : decode bc_Nt_trueOnes 3 = .ok (.iconst 0, 1) := by decide +kernel
theorem d_Nt_trueOnes_4 : decode bc_Nt_trueOnes 4 = .ok (.istore 5, 2) := by decide +kernel
theorem d_Nt_trueOnes_6 : decode bc_Nt_trueOnes 6 = .ok (.iload 5, 2) := by decide +kernel
theorem d_Nt_trueOnes_8 : decode bc_Nt_trueOnes 8 = .ok (.iconst 1, 1) := by decide +kernel
theorem d_Nt_trueOnes_9 : decode bc_Nt_trueOnes 9 = .ok (.aload_n 1, 1) := by decide +kernel
theorem d_Nt_trueOnes_10 : decode bc_Nt_trueOnes 10 = .ok (.getfield 33, 3) := by decide +kernel
theorem d_Nt_trueOnes_13 : decode bc_Nt_trueOnes 13 = .ok (.ishl, 1) := by decide +kernel
theorem d_Nt_trueOnes_14 : decode bc_Nt_trueOnes 14 = .ok (.if_icmp .ge 32, 3) := by decide +kernel
theorem d_Nt_trueOnes_17 : decode bc_Nt_trueOnes 17 = .ok (.aload_n 0, 1) := by decide +kernel
theorem d_Nt_trueOnes_18 : decode bc_Nt_trueOnes 18 = .ok (.aload_n 1, 1) := by decide +kernel
theorem d_Nt_trueOnes_19 : decode bc_Nt_trueOnes 19 = .ok (.iload_n 2, 1) := by decide +kernel
theorem d_Nt_trueOnes_20 : decode bc_Nt_trueOnes 20 = .ok (.iload 5, 2) := by decide +kernel
theorem d_Nt_trueOnes_22 : decode bc_Nt_trueOnes 22 = .ok (.invokevirtual 39, 3) := by decide +kernel
theorem d_Nt_trueOnes_25 : decode bc_Nt_trueOnes 25 = .ok (.ifCond .eq 15, 3) := by decide +kernel
theorem d_Nt_trueOnes_28 : decode bc_Nt_trueOnes 28 = .ok (.iload 4, 2) := by decide +kernel
theorem d_Nt_trueOnes_30 : decode bc_Nt_trueOnes 30 = .ok (.iload_n 3, 1) := by decide +kernel
theorem d_Nt_trueOnes_31 : decode bc_Nt_trueOnes 31 = .ok (.if_icmp .ne 6, 3) := by decide +kernel
theorem d_Nt_trueOnes_34 : decode bc_Nt_trueOnes 34 = .ok (.iload 5, 2) := by decide +kernel
theorem d_Nt_trueOnes_36 : decode bc_Nt_trueOnes 36 = .ok (.ireturn, 1) := by decide +kernel
theorem d_Nt_trueOnes_37 : decode bc_Nt_trueOnes 37 = .ok (.iinc 4 1, 3) := by decide +kernel
theorem d_Nt_trueOnes_40 : decode bc_Nt_trueOnes 40 = .ok (.iinc 5 1, 3) := by decide +kernel
theorem d_Nt_trueOnes_43 : decode bc_Nt_trueOnes 43 = .ok (.goto (-37), 3) := by decide +kernel
theorem d_Nt_trueOnes_46 : decode bc_Nt_trueOnes 46 = .ok (.iload_n 3, 1) := by decide +kernel
theorem d_Nt_trueOnes_47 : decode bc_Nt_trueOnes 47 = .ok (.iconst (-1), 1) := by decide +kernel
theorem d_Nt_trueOnes_48 : decode bc_Nt_trueOnes 48 = .ok (.if_icmp .ne 8, 3) := by decide +kernel
theorem d_Nt_trueOnes_51 : decode bc_Nt_trueOnes 51 = .ok (.iload 4, 2) := by decide +kernel
theorem d_Nt_trueOnes_53 : decode bc_Nt_trueOnes 53 = .ok (.goto 4, 3) := by decide +kernel
theorem d_Nt_trueOnes_56 : decode bc_Nt_trueOnes 56 = .ok (.iconst (-1), 1) := by decide +kernel
theorem d_Nt_trueOnes_57 : decode bc_Nt_trueOnes 57 = .ok (.ireturn, 1) := by decide +kernel
set_option maxRecDepth 20000 in
theorem w_Nt_trueOnes_b6 {X : CX} {V : WV} {tx : Nat} (hV : IsC V) (htx : isTx tx) {S : Mem} {z : Int32} (hC : Ck X V bc_Nt_trueOnes 6 "SecretWells$Notes" (some .int) 1 27) (k6 : Int32 → Int32 → Int32 → Int32 → Option (Int32)) (hk6 : ∀ (x2 : Int32) (x3 : Int32) (x4 : Int32) (x5 : Int32), k6 x2 x3 x4 x5 = some z → G X V 6 (QI X V z S) 6 [some (.ref (V.2.2.1 9 0)), some (.ref (V.2.2.1 tx 0)), some (.int x2), some (.int x3), some (.int x4), some (.int x5)] [] S) (x2 : Int32) (x3 : Int32) (x4 : Int32) (x5 : Int32) (h : f_Nt_trueOnes_b6 tx S k6 x2 x3 x4 x5 = some z) : G X V 6 (QI X V z S) 6 [some (.ref (V.2.2.1 9 0)), some (.ref (V.2.2.1 tx 0)), some (.int x2), some (.int x3), some (.int x4), some (.int x5)] [] S := by
  unfold f_Nt_trueOnes_b6 at h
  refine g_iload (pc := 6) hC (i := 5) (x := x5) rfl d_Nt_trueOnes_6 ?_
  refine g_iconst (pc := 8) hC kc_1 d_Nt_trueOnes_8 ?_
  refine g_aload_n (pc := 9) hC (i := 1) (x := (V.2.2.1 tx 0)) rfl rfl d_Nt_trueOnes_9 ?_
  refine g_getI (pc := 10) hC fo_Nt_33 (ob_Tx hV htx) rfl d_Nt_trueOnes_10 ?_
  refine g_ishl (pc := 13) hC d_Nt_trueOnes_13 ?_
  refine g_icmp_ge (pc := 14) hC (tgt := 46) (by decide) d_Nt_trueOnes_14 h (fun h => ?_) (fun h => ?_)
  · refine g_iload_n (pc := 46) hC (i := 3) (x := x3) rfl rfl d_Nt_trueOnes_46 ?_
    refine g_iconst (pc := 47) hC kc_m1 d_Nt_trueOnes_47 ?_
    refine g_icmp_ne (pc := 48) hC (tgt := 56) (by decide) d_Nt_trueOnes_48 h (fun h => ?_) (fun h => ?_)
    · refine g_iconst (pc := 56) hC kc_m1 d_Nt_trueOnes_56 ?_
      exact g_iN (pc := 57) hC rfl d_Nt_trueOnes_57 h
    · refine g_iload (pc := 51) hC (i := 4) (x := x4) rfl d_Nt_trueOnes_51 ?_
      refine g_goto (pc := 53) hC (tgt := 57) (by decide) d_Nt_trueOnes_53 ?_
      exact g_iN (pc := 57) hC rfl d_Nt_trueOnes_57 h
  · refine g_aload_n (pc := 17) hC (i := 0) (x := (V.2.2.1 9 0)) rfl rfl d_Nt_trueOnes_17 ?_
    refine g_aload_n (pc := 18) hC (i := 1) (x := (V.2.2.1 tx 0)) rfl rfl d_Nt_trueOnes_18 ?_
    refine g_iload_n (pc := 19) hC (i := 2) (x := x2) rfl rfl d_Nt_trueOnes_19 ?_
    refine g_iload (pc := 20) hC (i := 5) (x := x5) rfl d_Nt_trueOnes_20 ?_
    obtain ⟨q22, hq22, h⟩ := Option.bind_eq_some_iff.mp h
    refine g_vi (pc := 22) hC (As := [.ref (V.2.2.1 tx 0), .int x2, .int x5]) (st := []) mt_Nt_fits lk_Nt_39 rfl (ob_Nt hV) (Nat.le_of_ble_eq_true rfl) ⟨Nat.le_of_ble_eq_true rfl, Nat.le_of_ble_eq_true rfl⟩ rfl d_Nt_trueOnes_22 (c_Nt_fits hV htx hq22) ?_
    refine g_if_eq (pc := 25) hC (tgt := 40) (by decide) d_Nt_trueOnes_25 h (fun h => ?_) (fun h => ?_)
    · refine s_iinc (pc := 40) hC (i := 5) (x := x5) (v := x5 + 1) rfl (by rw [kc_1]) (by decide) d_Nt_trueOnes_40 (lv2 := [some (.ref (V.2.2.1 9 0)), some (.ref (V.2.2.1 tx 0)), some (.int x2), some (.int x3), some (.int x4), some (.int (x5 + 1))]) rfl ?_
      refine g_goto (pc := 43) hC (tgt := 6) (by decide) d_Nt_trueOnes_43 ?_
      exact hk6 x2 x3 x4 (x5 + 1) h
    · refine g_iload (pc := 28) hC (i := 4) (x := x4) rfl d_Nt_trueOnes_28 ?_
      refine g_iload_n (pc := 30) hC (i := 3) (x := x3) rfl rfl d_Nt_trueOnes_30 ?_
      refine g_icmp_ne (pc := 31) hC (tgt := 37) (by decide) d_Nt_trueOnes_31 h (fun h => ?_) (fun h => ?_)
      · refine s_iinc (pc := 37) hC (i := 4) (x := x4) (v := x4 + 1) rfl (by rw [kc_1]) (by decide) d_Nt_trueOnes_37 (lv2 := [some (.ref (V.2.2.1 9 0)), some (.ref (V.2.2.1 tx 0)), some (.int x2), some (.int x3), some (.int (x4 + 1)), some (.int x5)]) rfl ?_
        refine s_iinc (pc := 40) hC (i := 5) (x := x5) (v := x5 + 1) rfl (by rw [kc_1]) (by decide) d_Nt_trueOnes_40 (lv2 := [some (.ref (V.2.2.1 9 0)), some (.ref (V.2.2.1 tx 0)), some (.int x2), some (.int x3), some (.int (x4 + 1)), some (.int (x5 + 1))]) rfl ?_
        refine g_goto (pc := 43) hC (tgt := 6) (by decide) d_Nt_trueOnes_43 ?_
        exact hk6 x2 x3 (x4 + 1) (x5 + 1) h
      · refine g_iload (pc := 34) hC (i := 5) (x := x5) rfl d_Nt_trueOnes_34 ?_
        exact g_iN (pc := 36) hC rfl d_Nt_trueOnes_36 h
theorem w_Nt_trueOnes_l6 {X : CX} {V : WV} {tx : Nat} (hV : IsC V) (htx : isTx tx) {S : Mem} {z : Int32} (hC : Ck X V bc_Nt_trueOnes 6 "SecretWells$Notes" (some .int) 1 27) : ∀ (n : Nat) (x2 : Int32) (x3 : Int32) (x4 : Int32) (x5 : Int32), f_Nt_trueOnes_l6 tx S n x2 x3 x4 x5 = some z → G X V 6 (QI X V z S) 6 [some (.ref (V.2.2.1 9 0)), some (.ref (V.2.2.1 tx 0)), some (.int x2), some (.int x3), some (.int x4), some (.int x5)] [] S := by
  intro n
  induction n with
  | zero =>
    intro x2 x3 x4 x5 h
    have h : (none : Option (Int32)) = some z := h
    cases h
  | succ n ih =>
    intro x2 x3 x4 x5 h
    exact w_Nt_trueOnes_b6 hV htx hC (f_Nt_trueOnes_l6 tx S n) ih x2 x3 x4 x5 h
set_option maxRecDepth 20000 in
theorem w_Nt_trueOnes_b0 {X : CX} {V : WV} {tx : Nat} (hV : IsC V) (htx : isTx tx) {S : Mem} {z : Int32} (hC : Ck X V bc_Nt_trueOnes 6 "SecretWells$Notes" (some .int) 1 27) (x2 : Int32) (x3 : Int32) (h : f_Nt_trueOnes_b0 tx S x2 x3 = some z) : G X V 6 (QI X V z S) 0 [some (.ref (V.2.2.1 9 0)), some (.ref (V.2.2.1 tx 0)), some (.int x2), some (.int x3), none, none] [] S := by
  unfold f_Nt_trueOnes_b0 at h
  refine g_iconst (pc := 0) hC kc_0 d_Nt_trueOnes_0 ?_
  refine s_istore (pc := 1) hC (i := 4) (by decide) d_Nt_trueOnes_1 (lv2 := [some (.ref (V.2.2.1 9 0)), some (.ref (V.2.2.1 tx 0)), some (.int x2), some (.int x3), some (.int 0), none]) rfl ?_
  refine g_iconst (pc := 3) hC kc_0 d_Nt_trueOnes_3 ?_
  refine s_istore (pc := 4) hC (i := 5) (by decide) d_Nt_trueOnes_4 (lv2 := [some (.ref (V.2.2.1 9 0)), some (.ref (V.2.2.1 tx 0)), some (.int x2), some (.int x3), some (.int 0), some (.int 0)]) rfl ?_
  exact w_Nt_trueOnes_l6 hV htx hC 5000 x2 x3 0 0 h
theorem c_Nt_trueOnes {V : WV} {l : Launch} (hV : IsC V) {tx : Nat} (htx : isTx tx) {x2 : Int32} {x3 : Int32} {S : Mem} {z : Int32} (h : f_Nt_trueOnes tx x2 x3 S = some z) : CI V l y_Nt_trueOnes bc_Nt_trueOnes 6 (some .int) 1 27 [.ref (V.2.2.1 9 0), .ref (V.2.2.1 tx 0), .int x2, .int x3] S z S :=
  ct_i rfl (IsC.ok hV) (Nat.le_of_ble_eq_true rfl) (fun _ _ hC => w_Nt_trueOnes_b0 hV htx hC x2 x3 h)
