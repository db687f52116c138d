/-! methods of the bytecode as functions, and the machine's walks of them. By program (wip/whole/gen/make.py): Mo_put, Mo_feed, Mo_back, Mo_byteAt, Mo_isDigit, Mo_isLetter, Mo_appends, Mo_word, Mo_token, Mo_sign, Mo_cut0, Mo_is, Mo_fail, Mo_wrong, Mo_goesOn, Mo_must, Mo_plain, Mo_roomFor, Mo_named, Mo_bounded, Mo_notes, Mo_tellWell, Mo_known, Mo_tellMan -/
def f_Mo_put_b3 (k3 : Int32 → Int32 → Mem → Option (Mem)) (x1 : Int32) (x2 : Int32) (S : Mem) : Option (Mem) :=
  if x2 < 0 then
    some S
  else
    gIn (S.1 0 2) 2000 (letS (sA S 0 1 (S.1 0 2) (vp_nar .byte ((x1 >>> (x2 &&& 31)).toInt8.toInt32))) (fun S19 =>
    letS (pI S19 0 2 ((S19.1 0 2) + 1)) (fun S27 =>
    k3 x1 (x2 + (-8)) S27)))
def f_Mo_put_l3 : Nat → Int32 → Int32 → Mem → Option (Mem)
  | 0 => fun _ _ _ => none
  | n + 1 => f_Mo_put_b3  (f_Mo_put_l3  n)
def f_Mo_put_b0 (x1 : Int32) (S : Mem) : Option (Mem) :=
  f_Mo_put_l3 5000 x1 24 S
def f_Mo_put (x1 : Int32) (S : Mem) : Option (Mem) := f_Mo_put_b0  x1 S
theorem d_Mo_put_0 : decode bc_Mo_put 0 = .ok (.bipush 24, 2) := by decide +kernel
theorem d_Mo_put_2 : decode bc_Mo_put 2 = .ok (.istore_n 2, 1) := by decide +kernel
theorem d_Mo_put_3 : decode bc_Mo_put 3 = .ok (.iload_n 2, 1) := by decide +kernel
theorem d_Mo_put_4 : decode bc_Mo_put 4 = .ok (.ifCond .lt 32, 3) := by decide +kernel
theorem d_Mo_put_7 : decode bc_Mo_put 7 = .ok (.aload_n 0, 1) := by decide +kernel
theorem d_Mo_put_8 : decode bc_Mo_put 8 = .ok (.getfield 13, 3) := by decide +kernel
theorem d_Mo_put_11 : decode bc_Mo_put 11 = .ok (.aload_n 0, 1) := by decide +kernel
theorem d_Mo_put_12 : decode bc_Mo_put 12 = .ok (.getfield 178, 3) := by decide +kernel
theorem d_Mo_put_15 : decode bc_Mo_put 15 = .ok (.iload_n 1, 1) := by decide +kernel
theorem d_Mo_put_16 : decode bc_Mo_put 16 = .ok (.iload_n 2, 1) := by decide +kernel
theorem d_Mo_put_17 : decode bc_Mo_put 17 = .ok (.ishr, 1) := by decide +kernel
theorem d_Mo_put_18 : decode bc_Mo_put 18 = .ok (.i2b, 1) := by decide +kernel
theorem d_Mo_put_19 : decode bc_Mo_put 19 = .ok (.bastore, 1) := by decide +kernel
theorem d_Mo_put_20 : decode bc_Mo_put 20 = .ok (.aload_n 0, 1) := by decide +kernel
theorem d_Mo_put_21 : decode bc_Mo_put 21 = .ok (.dup, 1) := by decide +kernel
theorem d_Mo_put_22 : decode bc_Mo_put 22 = .ok (.getfield 178, 3) := by decide +kernel
theorem d_Mo_put_25 : decode bc_Mo_put 25 = .ok (.iconst 1, 1) := by decide +kernel
theorem d_Mo_put_26 : decode bc_Mo_put 26 = .ok (.iadd, 1) := by decide +kernel
theorem d_Mo_put_27 : decode bc_Mo_put 27 = .ok (.putfield 178, 3) := by decide +kernel
theorem d_Mo_put_30 : decode bc_Mo_put 30 = .ok (.iinc 2 (-8), 3) := by decide +kernel
theorem d_Mo_put_33 : decode bc_Mo_put 33 = .ok (.goto (-30), 3) := by decide +kernel
theorem d_Mo_put_36 : decode bc_Mo_put 36 = .ok (.return_, 1) := by decide +kernel
set_option maxRecDepth 20000 in
theorem w_Mo_put_b3 {X : CX} {V : WV} (hV : IsM V) {z : Mem} (hC : Ck X V bc_Mo_put 3 "SecretWellsModel" none 0 0) (k3 : Int32 → Int32 → Mem → Option (Mem)) (hk3 : ∀ (x1 : Int32) (x2 : Int32) (S : Mem), k3 x1 x2 S = some z → G X V 3 (QV X V z) 3 [some (.ref (V.2.2.1 0 0)), some (.int x1), some (.int x2)] [] S) (x1 : Int32) (x2 : Int32) (S : Mem) (h : f_Mo_put_b3  k3 x1 x2 S = some z) : G X V 3 (QV X V z) 3 [some (.ref (V.2.2.1 0 0)), some (.int x1), some (.int x2)] [] S := by
  unfold f_Mo_put_b3 at h
  refine g_iload_n (pc := 3) hC (i := 2) (x := x2) rfl rfl d_Mo_put_3 ?_
  refine g_if_lt (pc := 4) hC (tgt := 36) (by decide) d_Mo_put_4 h (fun h => ?_) (fun h => ?_)
  · exact g_vW (pc := 36) hC d_Mo_put_36 h
  · refine g_aload_n (pc := 7) hC (i := 0) (x := (V.2.2.1 0 0)) rfl rfl d_Mo_put_7 ?_
    refine g_getA (pc := 8) hC fo_Mo_13 (ob_Mo hV) rfl d_Mo_put_8 ?_
    refine g_aload_n (pc := 11) hC (i := 0) (x := (V.2.2.1 0 0)) rfl rfl d_Mo_put_11 ?_
    refine g_getI (pc := 12) hC fo_Mo_178 (ob_Mo hV) rfl d_Mo_put_12 ?_
    refine g_iload_n (pc := 15) hC (i := 1) (x := x1) rfl rfl d_Mo_put_15 ?_
    refine g_iload_n (pc := 16) hC (i := 2) (x := x2) rfl rfl d_Mo_put_16 ?_
    refine g_ishr (pc := 17) hC d_Mo_put_17 ?_
    refine g_i2b (pc := 18) hC d_Mo_put_18 ?_
    refine g_bast (pc := 19) hC (ar_Mo_1 hV) d_Mo_put_19 h (fun h => ?_)
    refine g_letS h (fun S19 h => ?_)
    refine g_aload_n (pc := 20) hC (i := 0) (x := (V.2.2.1 0 0)) rfl rfl d_Mo_put_20 ?_
    refine g_dup (pc := 21) hC rfl d_Mo_put_21 ?_
    refine g_getI (pc := 22) hC fo_Mo_178 (ob_Mo hV) rfl d_Mo_put_22 ?_
    refine g_iconst (pc := 25) hC kc_1 d_Mo_put_25 ?_
    refine g_iadd (pc := 26) hC d_Mo_put_26 ?_
    refine g_putI (pc := 27) hC po_Mo_178 (ob_Mo hV) rfl rfl rfl d_Mo_put_27 ?_
    refine g_letS h (fun S27 h => ?_)
    refine s_iinc (pc := 30) hC (i := 2) (x := x2) (v := x2 + (-8)) rfl (by rw [kc_m8]) (by decide) d_Mo_put_30 (lv2 := [some (.ref (V.2.2.1 0 0)), some (.int x1), some (.int (x2 + (-8)))]) rfl ?_
    refine g_goto (pc := 33) hC (tgt := 3) (by decide) d_Mo_put_33 ?_
    exact hk3 x1 (x2 + (-8)) S27 h
theorem w_Mo_put_l3 {X : CX} {V : WV} (hV : IsM V) {z : Mem} (hC : Ck X V bc_Mo_put 3 "SecretWellsModel" none 0 0) : ∀ (n : Nat) (x1 : Int32) (x2 : Int32) (S : Mem), f_Mo_put_l3  n x1 x2 S = some z → G X V 3 (QV X V z) 3 [some (.ref (V.2.2.1 0 0)), some (.int x1), some (.int x2)] [] S := by
  intro n
  induction n with
  | zero =>
    intro x1 x2 S h
    have h : (none : Option (Mem)) = some z := h
    cases h
  | succ n ih =>
    intro x1 x2 S h
    exact w_Mo_put_b3 hV hC (f_Mo_put_l3  n) ih x1 x2 S h
set_option maxRecDepth 20000 in
theorem w_Mo_put_b0 {X : CX} {V : WV} (hV : IsM V) {z : Mem} (hC : Ck X V bc_Mo_put 3 "SecretWellsModel" none 0 0) (x1 : Int32) (S : Mem) (h : f_Mo_put_b0  x1 S = some z) : G X V 3 (QV X V z) 0 [some (.ref (V.2.2.1 0 0)), some (.int x1), none] [] S := by
  unfold f_Mo_put_b0 at h
  refine g_bipush (pc := 0) hC kb_24 d_Mo_put_0 ?_
  refine s_istore_n (pc := 2) hC (i := 2) rfl (by decide) d_Mo_put_2 (lv2 := [some (.ref (V.2.2.1 0 0)), some (.int x1), some (.int 24)]) rfl ?_
  exact w_Mo_put_l3 hV hC 5000 x1 24 S h
theorem c_Mo_put {V : WV} {l : Launch} (hV : IsM V) {x1 : Int32} {S : Mem} {z : Mem} (h : f_Mo_put x1 S = some z) : CV V l y_Mo_put bc_Mo_put 3 none 0 0 [.ref (V.2.2.1 0 0), .int x1] S z :=
  ct_v rfl (IsM.ok hV) (Nat.le_of_ble_eq_true rfl) (fun _ _ hC => w_Mo_put_b0 hV hC x1 S h)
def f_Mo_feed_b0 (x1 : Int32) (x2 : Int32) (x3 : Int32) (x4 : Int32) (x5 : Int32) (S : Mem) : Option (Int32 × Mem) :=
  if ((S.1 0 2) + 20) ≤ 2000 then
    Option.bind (f_Mo_put x1 S) (fun q17 =>
    Option.bind (f_Mo_put x2 q17) (fun q22 =>
    Option.bind (f_Mo_put x3 q22) (fun q27 =>
    Option.bind (f_Mo_put x4 q27) (fun q33 =>
    Option.bind (f_Mo_put x5 q33) (fun q39 =>
    some (q39.1 0 2, q39))))))
  else
    some ((-1), S)
def f_Mo_feed (x1 : Int32) (x2 : Int32) (x3 : Int32) (x4 : Int32) (x5 : Int32) (S : Mem) : Option (Int32 × Mem) := f_Mo_feed_b0  x1 x2 x3 x4 x5 S
theorem d_Mo_feed_0 : decode bc_Mo_feed 0 = .ok (.aload_n 0, 1) := by decide +kernel
theorem d_Mo_feed_1 : decode bc_Mo_feed 1 = .ok (.getfield 178, 3) := by decide +kernel
theorem d_Mo_feed_4 : decode bc_Mo_feed 4 = .ok (.bipush 20, 2) := by decide +kernel
theorem d_Mo_feed_6 : decode bc_Mo_feed 6 = .ok (.iadd, 1) := by decide +kernel
theorem d_Mo_feed_7 : decode bc_Mo_feed 7 = .ok (.sipush 2000, 3) := by decide +kernel
theorem d_Mo_feed_10 : decode bc_Mo_feed 10 = .ok (.if_icmp .le 5, 3) := by decide +kernel
theorem d_Mo_feed_13 : decode bc_Mo_feed 13 = .ok (.iconst (-1), 1) := by decide +kernel
theorem d_Mo_feed_14 : decode bc_Mo_feed 14 = .ok (.ireturn, 1) := by decide +kernel
theorem d_Mo_feed_15 : decode bc_Mo_feed 15 = .ok (.aload_n 0, 1) := by decide +kernel
theorem d_Mo_feed_16 : decode bc_Mo_feed 16 = .ok (.iload_n 1, 1) := by decide +kernel
theorem d_Mo_feed_17 : decode bc_Mo_feed 17 = .ok (.invokevirtual 181, 3) := by decide +kernel
theorem d_Mo_feed_20 : decode bc_Mo_feed 20 = .ok (.aload_n 0, 1) := by decide +kernel
theorem d_Mo_feed_21 : decode bc_Mo_feed 21 = .ok (.iload_n 2, 1) := by decide +kernel
theorem d_Mo_feed_22 : decode bc_Mo_feed 22 = .ok (.invokevirtual 181, 3) := by decide +kernel
theorem d_Mo_feed_25 : decode bc_Mo_feed 25 = .ok (.aload_n 0, 1) := by decide +kernel
theorem d_Mo_feed_26 : decode bc_Mo_feed 26 = .ok (.iload_n 3, 1) := by decide +kernel
theorem d_Mo_feed_27 : decode bc_Mo_feed 27 = .ok (.invokevirtual 181, 3) := by decide +kernel
theorem d_Mo_feed_30 : decode bc_Mo_feed 30 = .ok (.aload_n 0, 1) := by decide +kernel
theorem d_Mo_feed_31 : decode bc_Mo_feed 31 = .ok (.iload 4, 2) := by decide +kernel
theorem d_Mo_feed_33 : decode bc_Mo_feed 33 = .ok (.invokevirtual 181, 3) := by decide +kernel
theorem d_Mo_feed_36 : decode bc_Mo_feed 36 = .ok (.aload_n 0, 1) := by decide +kernel
theorem d_Mo_feed_37 : decode bc_Mo_feed 37 = .ok (.iload 5, 2) := by decide +kernel
theorem d_Mo_feed_39 : decode bc_Mo_feed 39 = .ok (.invokevirtual 181, 3) := by decide +kernel
theorem d_Mo_feed_42 : decode bc_Mo_feed 42 = .ok (.aload_n 0, 1) := by decide +kernel
theorem d_Mo_feed_43 : decode bc_Mo_feed 43 = .ok (.getfield 178, 3) := by decide +kernel
theorem d_Mo_feed_46 : decode bc_Mo_feed 46 = .ok (.ireturn, 1) := by decide +kernel
set_option maxRecDepth 20000 in
theorem w_Mo_feed_b0 {X : CX} {V : WV} (hV : IsM V) {z : Int32 × Mem} (hC : Ck X V bc_Mo_feed 6 "SecretWellsModel" (some .int) 1 22) (x1 : Int32) (x2 : Int32) (x3 : Int32) (x4 : Int32) (x5 : Int32) (S : Mem) (h : f_Mo_feed_b0  x1 x2 x3 x4 x5 S = some z) : G X V 6 (QI X V z.1 z.2) 0 [some (.ref (V.2.2.1 0 0)), some (.int x1), some (.int x2), some (.int x3), some (.int x4), some (.int x5)] [] S := by
  unfold f_Mo_feed_b0 at h
  refine g_aload_n (pc := 0) hC (i := 0) (x := (V.2.2.1 0 0)) rfl rfl d_Mo_feed_0 ?_
  refine g_getI (pc := 1) hC fo_Mo_178 (ob_Mo hV) rfl d_Mo_feed_1 ?_
  refine g_bipush (pc := 4) hC kb_20 d_Mo_feed_4 ?_
  refine g_iadd (pc := 6) hC d_Mo_feed_6 ?_
  refine g_sipush (pc := 7) hC ks_2000 d_Mo_feed_7 ?_
  refine g_icmp_le (pc := 10) hC (tgt := 15) (by decide) d_Mo_feed_10 h (fun h => ?_) (fun h => ?_)
  · refine g_aload_n (pc := 15) hC (i := 0) (x := (V.2.2.1 0 0)) rfl rfl d_Mo_feed_15 ?_
    refine g_iload_n (pc := 16) hC (i := 1) (x := x1) rfl rfl d_Mo_feed_16 ?_
    obtain ⟨q17, hq17, h⟩ := Option.bind_eq_some_iff.mp h
    refine g_vv (pc := 17) hC (As := [.int x1]) (st := []) mt_Mo_put lk_Mo_181 rfl (ob_Mo hV) (Nat.le_of_ble_eq_true rfl) ⟨Nat.le_of_ble_eq_true rfl, Nat.le_of_ble_eq_true rfl⟩ rfl d_Mo_feed_17 (c_Mo_put hV hq17) ?_
    refine g_aload_n (pc := 20) hC (i := 0) (x := (V.2.2.1 0 0)) rfl rfl d_Mo_feed_20 ?_
    refine g_iload_n (pc := 21) hC (i := 2) (x := x2) rfl rfl d_Mo_feed_21 ?_
    obtain ⟨q22, hq22, h⟩ := Option.bind_eq_some_iff.mp h
    refine g_vv (pc := 22) hC (As := [.int x2]) (st := []) mt_Mo_put lk_Mo_181 rfl (ob_Mo hV) (Nat.le_of_ble_eq_true rfl) ⟨Nat.le_of_ble_eq_true rfl, Nat.le_of_ble_eq_true rfl⟩ rfl d_Mo_feed_22 (c_Mo_put hV hq22) ?_
    refine g_aload_n (pc := 25) hC (i := 0) (x := (V.2.2.1 0 0)) rfl rfl d_Mo_feed_25 ?_
    refine g_iload_n (pc := 26) hC (i := 3) (x := x3) rfl rfl d_Mo_feed_26 ?_
    obtain ⟨q27, hq27, h⟩ := Option.bind_eq_some_iff.mp h
    refine g_vv (pc := 27) hC (As := [.int x3]) (st := []) mt_Mo_put lk_Mo_181 rfl (ob_Mo hV) (Nat.le_of_ble_eq_true rfl) ⟨Nat.le_of_ble_eq_true rfl, Nat.le_of_ble_eq_true rfl⟩ rfl d_Mo_feed_27 (c_Mo_put hV hq27) ?_
    refine g_aload_n (pc := 30) hC (i := 0) (x := (V.2.2.1 0 0)) rfl rfl d_Mo_feed_30 ?_
    refine g_iload (pc := 31) hC (i := 4) (x := x4) rfl d_Mo_feed_31 ?_
    obtain ⟨q33, hq33, h⟩ := Option.bind_eq_some_iff.mp h
    refine g_vv (pc := 33) hC (As := [.int x4]) (st := []) mt_Mo_put lk_Mo_181 rfl (ob_Mo hV) (Nat.le_of_ble_eq_true rfl) ⟨Nat.le_of_ble_eq_true rfl, Nat.le_of_ble_eq_true rfl⟩ rfl d_Mo_feed_33 (c_Mo_put hV hq33) ?_
    refine g_aload_n (pc := 36) hC (i := 0) (x := (V.2.2.1 0 0)) rfl rfl d_Mo_feed_36 ?_
    refine g_iload (pc := 37) hC (i := 5) (x := x5) rfl d_Mo_feed_37 ?_
    obtain ⟨q39, hq39, h⟩ := Option.bind_eq_some_iff.mp h
    refine g_vv (pc := 39) hC (As := [.int x5]) (st := []) mt_Mo_put lk_Mo_181 rfl (ob_Mo hV) (Nat.le_of_ble_eq_true rfl) ⟨Nat.le_of_ble_eq_true rfl, Nat.le_of_ble_eq_true rfl⟩ rfl d_Mo_feed_39 (c_Mo_put hV hq39) ?_
    refine g_aload_n (pc := 42) hC (i := 0) (x := (V.2.2.1 0 0)) rfl rfl d_Mo_feed_42 ?_
    refine g_getI (pc := 43) hC fo_Mo_178 (ob_Mo hV) rfl d_Mo_feed_43 ?_
    exact g_iW (pc := 46) hC rfl d_Mo_feed_46 h
  · refine g_iconst (pc := 13) hC kc_m1 d_Mo_feed_13 ?_
    exact g_iW (pc := 14) hC rfl d_Mo_feed_14 h
theorem c_Mo_feed {V : WV} {l : Launch} (hV : IsM V) {x1 : Int32} {x2 : Int32} {x3 : Int32} {x4 : Int32} {x5 : Int32} {S : Mem} {z : Int32 × Mem} (h : f_Mo_feed x1 x2 x3 x4 x5 S = some z) : CI V l y_Mo_feed bc_Mo_feed 6 (some .int) 1 22 [.ref (V.2.2.1 0 0), .int x1, .int x2, .int x3, .int x4, .int x5] S z.1 z.2 :=
  ct_i rfl (IsM.ok hV) (Nat.le_of_ble_eq_true rfl) (fun _ _ hC => w_Mo_feed_b0 hV hC x1 x2 x3 x4 x5 S h)
def f_Mo_back_b0 (x1 : Int32) (S : Mem) : Option (Int32 × Mem) :=
  if x1 < 0 then
    some ((-1), S)
  else
    if x1 ≤ (S.1 0 2) then
      letS (pI S 0 2 ((S.1 0 2) - x1)) (fun S21 =>
      some (S21.1 0 2, S21))
    else
      some ((-1), S)
def f_Mo_back (x1 : Int32) (S : Mem) : Option (Int32 × Mem) := f_Mo_back_b0  x1 S
theorem d_Mo_back_0 : decode bc_Mo_back 0 = .ok (.iload_n 1, 1) := by decide +kernel
theorem d_Mo_back_1 : decode bc_Mo_back 1 = .ok (.ifCond .lt 11, 3) := by decide +kernel
theorem d_Mo_back_4 : decode bc_Mo_back 4 = .ok (.iload_n 1, 1) := by decide +kernel
theorem d_Mo_back_5 : decode bc_Mo_back 5 = .ok (.aload_n 0, 1) := by decide +kernel
theorem d_Mo_back_6 : decode bc_Mo_back 6 = .ok (.getfield 178, 3) := by decide +kernel
theorem d_Mo_back_9 : decode bc_Mo_back 9 = .ok (.if_icmp .le 5, 3) := by decide +kernel
theorem d_Mo_back_12 : decode bc_Mo_back 12 = .ok (.iconst (-1), 1) := by decide +kernel
theorem d_Mo_back_13 : decode bc_Mo_back 13 = .ok (.ireturn, 1) := by decide +kernel
theorem d_Mo_back_14 : decode bc_Mo_back 14 = .ok (.aload_n 0, 1) := by decide +kernel
theorem d_Mo_back_15 : decode bc_Mo_back 15 = .ok (.dup, 1) := by decide +kernel
theorem d_Mo_back_16 : decode bc_Mo_back 16 = .ok (.getfield 178, 3) := by decide +kernel
theorem d_Mo_back_19 : decode bc_Mo_back 19 = .ok (.iload_n 1, 1) := by decide +kernel
theorem d_Mo_back_20 : decode bc_Mo_back 20 = .ok (.isub, 1) := by decide +kernel
theorem d_Mo_back_21 : decode bc_Mo_back 21 = .ok (.putfield 178, 3) := by decide +kernel
theorem d_Mo_back_24 : decode bc_Mo_back 24 = .ok (.aload_n 0, 1) := by decide +kernel
theorem d_Mo_back_25 : decode bc_Mo_back 25 = .ok (.getfield 178, 3) := by decide +kernel
theorem d_Mo_back_28 : decode bc_Mo_back 28 = .ok (.ireturn, 1) := by decide +kernel
set_option maxRecDepth 20000 in
theorem w_Mo_back_b0 {X : CX} {V : WV} (hV : IsM V) {z : Int32 × Mem} (hC : Ck X V bc_Mo_back 2 "SecretWellsModel" (some .int) 0 0) (x1 : Int32) (S : Mem) (h : f_Mo_back_b0  x1 S = some z) : G X V 2 (QI X V z.1 z.2) 0 [some (.ref (V.2.2.1 0 0)), some (.int x1)] [] S := by
  unfold f_Mo_back_b0 at h
  refine g_iload_n (pc := 0) hC (i := 1) (x := x1) rfl rfl d_Mo_back_0 ?_
  refine g_if_lt (pc := 1) hC (tgt := 12) (by decide) d_Mo_back_1 h (fun h => ?_) (fun h => ?_)
  · refine g_iconst (pc := 12) hC kc_m1 d_Mo_back_12 ?_
    exact g_iW (pc := 13) hC rfl d_Mo_back_13 h
  · refine g_iload_n (pc := 4) hC (i := 1) (x := x1) rfl rfl d_Mo_back_4 ?_
    refine g_aload_n (pc := 5) hC (i := 0) (x := (V.2.2.1 0 0)) rfl rfl d_Mo_back_5 ?_
    refine g_getI (pc := 6) hC fo_Mo_178 (ob_Mo hV) rfl d_Mo_back_6 ?_
    refine g_icmp_le (pc := 9) hC (tgt := 14) (by decide) d_Mo_back_9 h (fun h => ?_) (fun h => ?_)
    · refine g_aload_n (pc := 14) hC (i := 0) (x := (V.2.2.1 0 0)) rfl rfl d_Mo_back_14 ?_
      refine g_dup (pc := 15) hC rfl d_Mo_back_15 ?_
      refine g_getI (pc := 16) hC fo_Mo_178 (ob_Mo hV) rfl d_Mo_back_16 ?_
      refine g_iload_n (pc := 19) hC (i := 1) (x := x1) rfl rfl d_Mo_back_19 ?_
      refine g_isub (pc := 20) hC d_Mo_back_20 ?_
      refine g_putI (pc := 21) hC po_Mo_178 (ob_Mo hV) rfl rfl rfl d_Mo_back_21 ?_
      refine g_letS h (fun S21 h => ?_)
      refine g_aload_n (pc := 24) hC (i := 0) (x := (V.2.2.1 0 0)) rfl rfl d_Mo_back_24 ?_
      refine g_getI (pc := 25) hC fo_Mo_178 (ob_Mo hV) rfl d_Mo_back_25 ?_
      exact g_iW (pc := 28) hC rfl d_Mo_back_28 h
    · refine g_iconst (pc := 12) hC kc_m1 d_Mo_back_12 ?_
      exact g_iW (pc := 13) hC rfl d_Mo_back_13 h
theorem c_Mo_back {V : WV} {l : Launch} (hV : IsM V) {x1 : Int32} {S : Mem} {z : Int32 × Mem} (h : f_Mo_back x1 S = some z) : CI V l y_Mo_back bc_Mo_back 2 (some .int) 0 0 [.ref (V.2.2.1 0 0), .int x1] S z.1 z.2 :=
  ct_i rfl (IsM.ok hV) (Nat.le_of_ble_eq_true rfl) (fun _ _ hC => w_Mo_back_b0 hV hC x1 S h)
def f_Mo_byteAt_b0 (S : Mem) (x1 : Int32) : Option (Int32) :=
  if (S.1 0 4) ≤ x1 then
    some 0
  else
    gIn x1 2000 (
    some ((S.2.1 0 3 x1.toNatClampNeg) &&& 255))
def f_Mo_byteAt (x1 : Int32) (S : Mem) : Option (Int32) := f_Mo_byteAt_b0 S x1
theorem d_Mo_byteAt_0 : decode bc_Mo_byteAt 0 = .ok (.iload_n 1, 1) := by decide +kernel
theorem d_Mo_byteAt_1 : decode bc_Mo_byteAt 1 = .ok (.aload_n 0, 1) := by decide +kernel
theorem d_Mo_byteAt_2 : decode bc_Mo_byteAt 2 = .ok (.getfield 184, 3) := by decide +kernel
theorem d_Mo_byteAt_5 : decode bc_Mo_byteAt 5 = .ok (.if_icmp .ge 16, 3) := by decide +kernel
theorem d_Mo_byteAt_8 : decode bc_Mo_byteAt 8 = .ok (.aload_n 0, 1) := by decide +kernel
theorem d_Mo_byteAt_9 : decode bc_Mo_byteAt 9 = .ok (.getfield 17, 3) := by decide +kernel
theorem d_Mo_byteAt_12 : decode bc_Mo_byteAt 12 = .ok (.iload_n 1, 1) := by decide +kernel
theorem d_Mo_byteAt_13 : decode bc_Mo_byteAt 13 = .ok (.baload, 1) := by decide +kernel
theorem d_Mo_byteAt_14 : decode bc_Mo_byteAt 14 = .ok (.sipush 255, 3) := by decide +kernel
theorem d_Mo_byteAt_17 : decode bc_Mo_byteAt 17 = .ok (.iand, 1) := by decide +kernel
theorem d_Mo_byteAt_18 : decode bc_Mo_byteAt 18 = .ok (.goto 4, 3) := by decide +kernel
theorem d_Mo_byteAt_21 : decode bc_Mo_byteAt 21 = .ok (.iconst 0, 1) := by decide +kernel
theorem d_Mo_byteAt_22 : decode bc_Mo_byteAt 22 = .ok (.ireturn, 1) := by decide +kernel
set_option maxRecDepth 20000 in
theorem w_Mo_byteAt_b0 {X : CX} {V : WV} (hV : IsM V) {S : Mem} {z : Int32} (hC : Ck X V bc_Mo_byteAt 2 "SecretWellsModel" (some .int) 0 0) (x1 : Int32) (h : f_Mo_byteAt_b0 S x1 = some z) : G X V 2 (QI X V z S) 0 [some (.ref (V.2.2.1 0 0)), some (.int x1)] [] S := by
  unfold f_Mo_byteAt_b0 at h
  refine g_iload_n (pc := 0) hC (i := 1) (x := x1) rfl rfl d_Mo_byteAt_0 ?_
  refine g_aload_n (pc := 1) hC (i := 0) (x := (V.2.2.1 0 0)) rfl rfl d_Mo_byteAt_1 ?_
  refine g_getI (pc := 2) hC fo_Mo_184 (ob_Mo hV) rfl d_Mo_byteAt_2 ?_
  refine g_icmp_ge (pc := 5) hC (tgt := 21) (by decide) d_Mo_byteAt_5 h (fun h => ?_) (fun h => ?_)
  · refine g_iconst (pc := 21) hC kc_0 d_Mo_byteAt_21 ?_
    exact g_iN (pc := 22) hC rfl d_Mo_byteAt_22 h
  · refine g_aload_n (pc := 8) hC (i := 0) (x := (V.2.2.1 0 0)) rfl rfl d_Mo_byteAt_8 ?_
    refine g_getA (pc := 9) hC fo_Mo_17 (ob_Mo hV) rfl d_Mo_byteAt_9 ?_
    refine g_iload_n (pc := 12) hC (i := 1) (x := x1) rfl rfl d_Mo_byteAt_12 ?_
    refine g_bald (pc := 13) hC (ar_Mo_3 hV) d_Mo_byteAt_13 h (fun h => ?_)
    refine g_sipush (pc := 14) hC ks_255 d_Mo_byteAt_14 ?_
    refine g_iand (pc := 17) hC d_Mo_byteAt_17 ?_
    refine g_goto (pc := 18) hC (tgt := 22) (by decide) d_Mo_byteAt_18 ?_
    exact g_iN (pc := 22) hC rfl d_Mo_byteAt_22 h
theorem c_Mo_byteAt {V : WV} {l : Launch} (hV : IsM V) {x1 : Int32} {S : Mem} {z : Int32} (h : f_Mo_byteAt x1 S = some z) : CI V l y_Mo_byteAt bc_Mo_byteAt 2 (some .int) 0 0 [.ref (V.2.2.1 0 0), .int x1] S z S :=
  ct_i rfl (IsM.ok hV) (Nat.le_of_ble_eq_true rfl) (fun _ _ hC => w_Mo_byteAt_b0 hV hC x1 h)
def f_Mo_isDigit_b0 (x0 : Int32) : Option (Int32) :=
  if x0 < 48 then
    some 0
  else
    if 57 < x0 then
      some 0
    else
      some 1
def f_Mo_isDigit (x0 : Int32) : Option (Int32) := f_Mo_isDigit_b0  x0
theorem d_Mo_isDigit_0 : decode bc_Mo_isDigit 0 = .ok (.iload_n 0, 1) := by decide +kernel
theorem d_Mo_isDigit_1 : decode bc_Mo_isDigit 1 = .ok (.bipush 48, 2) := by decide +kernel
theorem d_Mo_isDigit_3 : decode bc_Mo_isDigit 3 = .ok (.if_icmp .lt 13, 3) := by decide +kernel
theorem d_Mo_isDigit_6 : decode bc_Mo_isDigit 6 = .ok (.iload_n 0, 1) := by decide +kernel
theorem d_Mo_isDigit_7 : decode bc_Mo_isDigit 7 = .ok (.bipush 57, 2) := by decide +kernel
theorem d_Mo_isDigit_9 : decode bc_Mo_isDigit 9 = .ok (.if_icmp .gt 7, 3) := by decide +kernel
theorem d_Mo_isDigit_12 : decode bc_Mo_isDigit 12 = .ok (.iconst 1, 1) := by decide +kernel
theorem d_Mo_isDigit_13 : decode bc_Mo_isDigit 13 = .ok (.goto 4, 3) := by decide +kernel
theorem d_Mo_isDigit_16 : decode bc_Mo_isDigit 16 = .ok (.iconst 0, 1) := by decide +kernel
theorem d_Mo_isDigit_17 : decode bc_Mo_isDigit 17 = .ok (.ireturn, 1) := by decide +kernel
set_option maxRecDepth 20000 in
theorem w_Mo_isDigit_b0 {X : CX} {V : WV} (hVO : VOk V) {S : Mem} {z : Int32} (hC : Ck X V bc_Mo_isDigit 1 "SecretWellsModel" (some .boolean) 0 0) (x0 : Int32) (h : f_Mo_isDigit_b0  x0 = some z) : G X V 1 (QI X V z S) 0 [some (.int x0)] [] S := by
  unfold f_Mo_isDigit_b0 at h
  refine g_iload_n (pc := 0) hC (i := 0) (x := x0) rfl rfl d_Mo_isDigit_0 ?_
  refine g_bipush (pc := 1) hC kb_48 d_Mo_isDigit_1 ?_
  refine g_icmp_lt (pc := 3) hC (tgt := 16) (by decide) d_Mo_isDigit_3 h (fun h => ?_) (fun h => ?_)
  · refine g_iconst (pc := 16) hC kc_0 d_Mo_isDigit_16 ?_
    exact g_iN (pc := 17) hC rfl d_Mo_isDigit_17 h
  · refine g_iload_n (pc := 6) hC (i := 0) (x := x0) rfl rfl d_Mo_isDigit_6 ?_
    refine g_bipush (pc := 7) hC kb_57 d_Mo_isDigit_7 ?_
    refine g_icmp_gt (pc := 9) hC (tgt := 16) (by decide) d_Mo_isDigit_9 h (fun h => ?_) (fun h => ?_)
    · refine g_iconst (pc := 16) hC kc_0 d_Mo_isDigit_16 ?_
      exact g_iN (pc := 17) hC rfl d_Mo_isDigit_17 h
    · refine g_iconst (pc := 12) hC kc_1 d_Mo_isDigit_12 ?_
      refine g_goto (pc := 13) hC (tgt := 17) (by decide) d_Mo_isDigit_13 ?_
      exact g_iN (pc := 17) hC rfl d_Mo_isDigit_17 h
theorem c_Mo_isDigit {V : WV} {l : Launch} (hVO : VOk V) {x0 : Int32} {S : Mem} {z : Int32} (h : f_Mo_isDigit x0 = some z) : CI V l y_Mo_isDigit bc_Mo_isDigit 1 (some .boolean) 0 0 [.int x0] S z S :=
  ct_i rfl hVO (Nat.le_of_ble_eq_true rfl) (fun _ _ hC => w_Mo_isDigit_b0 hVO hC x0 h)
def f_Mo_isLetter_b0 (x0 : Int32) : Option (Int32) :=
  if x0 < 97 then
    some 0
  else
    if 122 < x0 then
      some 0
    else
      some 1
def f_Mo_isLetter (x0 : Int32) : Option (Int32) := f_Mo_isLetter_b0  x0
theorem d_Mo_isLetter_0 : decode bc_Mo_isLetter 0 = .ok (.iload_n 0, 1) := by decide +kernel
theorem d_Mo_isLetter_1 : decode bc_Mo_isLetter 1 = .ok (.bipush 97, 2) := by decide +kernel
theorem d_Mo_isLetter_3 : decode bc_Mo_isLetter 3 = .ok (.if_icmp .lt 13, 3) := by decide +kernel
theorem d_Mo_isLetter_6 : decode bc_Mo_isLetter 6 = .ok (.iload_n 0, 1) := by decide +kernel
theorem d_Mo_isLetter_7 : decode bc_Mo_isLetter 7 = .ok (.bipush 122, 2) := by decide +kernel
theorem d_Mo_isLetter_9 : decode bc_Mo_isLetter 9 = .ok (.if_icmp .gt 7, 3) := by decide +kernel
theorem d_Mo_isLetter_12 : decode bc_Mo_isLetter 12 = .ok (.iconst 1, 1) := by decide +kernel
theorem d_Mo_isLetter_13 : decode bc_Mo_isLetter 13 = .ok (.goto 4, 3) := by decide +kernel
theorem d_Mo_isLetter_16 : decode bc_Mo_isLetter 16 = .ok (.iconst 0, 1) := by decide +kernel
theorem d_Mo_isLetter_17 : decode bc_Mo_isLetter 17 = .ok (.ireturn, 1) := by decide +kernel
set_option maxRecDepth 20000 in
theorem w_Mo_isLetter_b0 {X : CX} {V : WV} (hVO : VOk V) {S : Mem} {z : Int32} (hC : Ck X V bc_Mo_isLetter 1 "SecretWellsModel" (some .boolean) 0 0) (x0 : Int32) (h : f_Mo_isLetter_b0  x0 = some z) : G X V 1 (QI X V z S) 0 [some (.int x0)] [] S := by
  unfold f_Mo_isLetter_b0 at h
  refine g_iload_n (pc := 0) hC (i := 0) (x := x0) rfl rfl d_Mo_isLetter_0 ?_
  refine g_bipush (pc := 1) hC kb_97 d_Mo_isLetter_1 ?_
  refine g_icmp_lt (pc := 3) hC (tgt := 16) (by decide) d_Mo_isLetter_3 h (fun h => ?_) (fun h => ?_)
  · refine g_iconst (pc := 16) hC kc_0 d_Mo_isLetter_16 ?_
    exact g_iN (pc := 17) hC rfl d_Mo_isLetter_17 h
  · refine g_iload_n (pc := 6) hC (i := 0) (x := x0) rfl rfl d_Mo_isLetter_6 ?_
    refine g_bipush (pc := 7) hC kb_122 d_Mo_isLetter_7 ?_
    refine g_icmp_gt (pc := 9) hC (tgt := 16) (by decide) d_Mo_isLetter_9 h (fun h => ?_) (fun h => ?_)
    · refine g_iconst (pc := 16) hC kc_0 d_Mo_isLetter_16 ?_
      exact g_iN (pc := 17) hC rfl d_Mo_isLetter_17 h
    · refine g_iconst (pc := 12) hC kc_1 d_Mo_isLetter_12 ?_
      refine g_goto (pc := 13) hC (tgt := 17) (by decide) d_Mo_isLetter_13 ?_
      exact g_iN (pc := 17) hC rfl d_Mo_isLetter_17 h
theorem c_Mo_isLetter {V : WV} {l : Launch} (hVO : VOk V) {x0 : Int32} {S : Mem} {z : Int32} (h : f_Mo_isLetter x0 = some z) : CI V l y_Mo_isLetter bc_Mo_isLetter 1 (some .boolean) 0 0 [.int x0] S z S :=
  ct_i rfl hVO (Nat.le_of_ble_eq_true rfl) (fun _ _ hC => w_Mo_isLetter_b0 hVO hC x0 h)
def f_Mo_appends_b0 (x0 : Int64) (x2 : Int32) : Option (Int64) :=
  if x2 = 0 then
    some x0
  else
    some ((27 * x0) + (((x2 - 97) + 1).toInt64))
def f_Mo_appends (x0 : Int64) (x2 : Int32) : Option (Int64) := f_Mo_appends_b0  x0 x2
theorem d_Mo_appends_0 : decode bc_Mo_appends 0 = .ok (.iload_n 2, 1) := by decide +kernel
theorem d_Mo_appends_1 : decode bc_Mo_appends 1 = .ok (.ifCond .ne 7, 3) := by decide +kernel
theorem d_Mo_appends_4 : decode bc_Mo_appends 4 = .ok (.lload_n 0, 1) := by decide +kernel
theorem d_Mo_appends_5 : decode bc_Mo_appends 5 = .ok (.goto 16, 3) := by decide +kernel
theorem d_Mo_appends_8 : decode bc_Mo_appends 8 = .ok (.ldc2_w 187, 3) := by decide +kernel
theorem d_Mo_appends_11 : decode bc_Mo_appends 11 = .ok (.lload_n 0, 1) := by decide +kernel
theorem d_Mo_appends_12 : decode bc_Mo_appends 12 = .ok (.lmul, 1) := by decide +kernel
theorem d_Mo_appends_13 : decode bc_Mo_appends 13 = .ok (.iload_n 2, 1) := by decide +kernel
theorem d_Mo_appends_14 : decode bc_Mo_appends 14 = .ok (.bipush 97, 2) := by decide +kernel
theorem d_Mo_appends_16 : decode bc_Mo_appends 16 = .ok (.isub, 1) := by decide +kernel
theorem d_Mo_appends_17 : decode bc_Mo_appends 17 = .ok (.iconst 1, 1) := by decide +kernel
theorem d_Mo_appends_18 : decode bc_Mo_appends 18 = .ok (.iadd, 1) := by decide +kernel
theorem d_Mo_appends_19 : decode bc_Mo_appends 19 = .ok (.i2l, 1) := by decide +kernel
theorem d_Mo_appends_20 : decode bc_Mo_appends 20 = .ok (.ladd, 1) := by decide +kernel
theorem d_Mo_appends_21 : decode bc_Mo_appends 21 = .ok (.lreturn, 1) := by decide +kernel
set_option maxRecDepth 20000 in
theorem w_Mo_appends_b0 {X : CX} {V : WV} (hVO : VOk V) {S : Mem} {z : Int64} (hC : Ck X V bc_Mo_appends 3 "SecretWellsModel" (some .long) 0 0) (x0 : Int64) (x2 : Int32) (h : f_Mo_appends_b0  x0 x2 = some z) : G X V 3 (QL X V z S) 0 [some (.long x0), none, some (.int x2)] [] S := by
  unfold f_Mo_appends_b0 at h
  refine g_iload_n (pc := 0) hC (i := 2) (x := x2) rfl rfl d_Mo_appends_0 ?_
  refine g_if_ne (pc := 1) hC (tgt := 8) (by decide) d_Mo_appends_1 h (fun h => ?_) (fun h => ?_)
  · refine g_ldc2 (pc := 8) hC q_Mo_k187 d_Mo_appends_8 ?_
    refine g_lload_n (pc := 11) hC (i := 0) (x := x0) rfl rfl d_Mo_appends_11 ?_
    refine g_lmul (pc := 12) hC d_Mo_appends_12 ?_
    refine g_iload_n (pc := 13) hC (i := 2) (x := x2) rfl rfl d_Mo_appends_13 ?_
    refine g_bipush (pc := 14) hC kb_97 d_Mo_appends_14 ?_
    refine g_isub (pc := 16) hC d_Mo_appends_16 ?_
    refine g_iconst (pc := 17) hC kc_1 d_Mo_appends_17 ?_
    refine g_iadd (pc := 18) hC d_Mo_appends_18 ?_
    refine g_i2l (pc := 19) hC d_Mo_appends_19 ?_
    refine g_ladd (pc := 20) hC d_Mo_appends_20 ?_
    exact g_lN (pc := 21) hC d_Mo_appends_21 h
  · refine g_lload_n (pc := 4) hC (i := 0) (x := x0) rfl rfl d_Mo_appends_4 ?_
    refine g_goto (pc := 5) hC (tgt := 21) (by decide) d_Mo_appends_5 ?_
    exact g_lN (pc := 21) hC d_Mo_appends_21 h
theorem c_Mo_appends {V : WV} {l : Launch} (hVO : VOk V) {x0 : Int64} {x2 : Int32} {S : Mem} {z : Int64} (h : f_Mo_appends x0 x2 = some z) : CL V l y_Mo_appends bc_Mo_appends 3 (some .long) 0 0 [.long x0, .int x2] S z S :=
  ct_l rfl hVO (Nat.le_of_ble_eq_true rfl) (fun _ _ hC => w_Mo_appends_b0 hVO hC x0 x2 h)
def f_Mo_word_b0 (x0 : Int32) (x1 : Int32) (x2 : Int32) (x3 : Int32) (x4 : Int32) (x5 : Int32) (x6 : Int32) : Option (Int64) :=
  Option.bind (f_Mo_appends 0 x0) (fun q2 =>
  Option.bind (f_Mo_appends q2 x1) (fun q6 =>
  Option.bind (f_Mo_appends q6 x2) (fun q10 =>
  Option.bind (f_Mo_appends q10 x3) (fun q14 =>
  Option.bind (f_Mo_appends q14 x4) (fun q19 =>
  Option.bind (f_Mo_appends q19 x5) (fun q24 =>
  Option.bind (f_Mo_appends q24 x6) (fun q29 =>
  some q29)))))))
def f_Mo_word (x0 : Int32) (x1 : Int32) (x2 : Int32) (x3 : Int32) (x4 : Int32) (x5 : Int32) (x6 : Int32) : Option (Int64) := f_Mo_word_b0  x0 x1 x2 x3 x4 x5 x6
theorem d_Mo_word_0 : decode bc_Mo_word 0 = .ok (.lconst 0, 1) := by decide +kernel
theorem d_Mo_word_1 : decode bc_Mo_word 1 = .ok (.iload_n 0, 1) := by decide +kernel
theorem d_Mo_word_2 : decode bc_Mo_word 2 = .ok (.invokestatic 189, 3) := by decide +kernel
theorem d_Mo_word_5 : decode bc_Mo_word 5 = .ok (.iload_n 1, 1) := by decide +kernel
theorem d_Mo_word_6 : decode bc_Mo_word 6 = .ok (.invokestatic 189, 3) := by decide +kernel
theorem d_Mo_word_9 : decode bc_Mo_word 9 = .ok (.iload_n 2, 1) := by decide +kernel
theorem d_Mo_word_10 : decode bc_Mo_word 10 = .ok (.invokestatic 189, 3) := by decide +kernel
theorem d_Mo_word_13 : decode bc_Mo_word 13 = .ok (.iload_n 3, 1) := by decide +kernel
theorem d_Mo_word_14 : decode bc_Mo_word 14 = .ok (.invokestatic 189, 3) := by decide +kernel
theorem d_Mo_word_17 : decode bc_Mo_word 17 = .ok (.iload 4, 2) := by decide +kernel
theorem d_Mo_word_19 : decode bc_Mo_word 19 = .ok (.invokestatic 189, 3) := by decide +kernel
theorem d_Mo_word_22 : decode bc_Mo_word 22 = .ok (.iload 5, 2) := by decide +kernel
theorem d_Mo_word_24 : decode bc_Mo_word 24 = .ok (.invokestatic 189, 3) := by decide +kernel
theorem d_Mo_word_27 : decode bc_Mo_word 27 = .ok (.iload 6, 2) := by decide +kernel
theorem d_Mo_word_29 : decode bc_Mo_word 29 = .ok (.invokestatic 189, 3) := by decide +kernel
theorem d_Mo_word_32 : decode bc_Mo_word 32 = .ok (.lreturn, 1) := by decide +kernel
set_option maxRecDepth 20000 in
theorem w_Mo_word_b0 {X : CX} {V : WV} (hVO : VOk V) {S : Mem} {z : Int64} (hC : Ck X V bc_Mo_word 7 "SecretWellsModel" (some .long) 1 22) (x0 : Int32) (x1 : Int32) (x2 : Int32) (x3 : Int32) (x4 : Int32) (x5 : Int32) (x6 : Int32) (h : f_Mo_word_b0  x0 x1 x2 x3 x4 x5 x6 = some z) : G X V 7 (QL X V z S) 0 [some (.int x0), some (.int x1), some (.int x2), some (.int x3), some (.int x4), some (.int x5), some (.int x6)] [] S := by
  unfold f_Mo_word_b0 at h
  refine g_lconst (pc := 0) hC (v := 0) (by decide) d_Mo_word_0 ?_
  refine g_iload_n (pc := 1) hC (i := 0) (x := x0) rfl rfl d_Mo_word_1 ?_
  obtain ⟨q2, hq2, h⟩ := Option.bind_eq_some_iff.mp h
  refine g_sl (pc := 2) hC (As := [.long 0, .int x0]) (st := []) mt_Mo_appends lk_Mo_189 (Nat.le_of_ble_eq_true rfl) ⟨Nat.le_of_ble_eq_true rfl, Nat.le_of_ble_eq_true rfl⟩ rfl d_Mo_word_2 (c_Mo_appends hVO hq2) ?_
  refine g_iload_n (pc := 5) hC (i := 1) (x := x1) rfl rfl d_Mo_word_5 ?_
  obtain ⟨q6, hq6, h⟩ := Option.bind_eq_some_iff.mp h
  refine g_sl (pc := 6) hC (As := [.long q2, .int x1]) (st := []) mt_Mo_appends lk_Mo_189 (Nat.le_of_ble_eq_true rfl) ⟨Nat.le_of_ble_eq_true rfl, Nat.le_of_ble_eq_true rfl⟩ rfl d_Mo_word_6 (c_Mo_appends hVO hq6) ?_
  refine g_iload_n (pc := 9) hC (i := 2) (x := x2) rfl rfl d_Mo_word_9 ?_
  obtain ⟨q10, hq10, h⟩ := Option.bind_eq_some_iff.mp h
  refine g_sl (pc := 10) hC (As := [.long q6, .int x2]) (st := []) mt_Mo_appends lk_Mo_189 (Nat.le_of_ble_eq_true rfl) ⟨Nat.le_of_ble_eq_true rfl, Nat.le_of_ble_eq_true rfl⟩ rfl d_Mo_word_10 (c_Mo_appends hVO hq10) ?_
  refine g_iload_n (pc := 13) hC (i := 3) (x := x3) rfl rfl d_Mo_word_13 ?_
  obtain ⟨q14, hq14, h⟩ := Option.bind_eq_some_iff.mp h
  refine g_sl (pc := 14) hC (As := [.long q10, .int x3]) (st := []) mt_Mo_appends lk_Mo_189 (Nat.le_of_ble_eq_true rfl) ⟨Nat.le_of_ble_eq_true rfl, Nat.le_of_ble_eq_true rfl⟩ rfl d_Mo_word_14 (c_Mo_appends hVO hq14) ?_
  refine g_iload (pc := 17) hC (i := 4) (x := x4) rfl d_Mo_word_17 ?_
  obtain ⟨q19, hq19, h⟩ := Option.bind_eq_some_iff.mp h
  refine g_sl (pc := 19) hC (As := [.long q14, .int x4]) (st := []) mt_Mo_appends lk_Mo_189 (Nat.le_of_ble_eq_true rfl) ⟨Nat.le_of_ble_eq_true rfl, Nat.le_of_ble_eq_true rfl⟩ rfl d_Mo_word_19 (c_Mo_appends hVO hq19) ?_
  refine g_iload (pc := 22) hC (i := 5) (x := x5) rfl d_Mo_word_22 ?_
  obtain ⟨q24, hq24, h⟩ := Option.bind_eq_some_iff.mp h
  refine g_sl (pc := 24) hC (As := [.long q19, .int x5]) (st := []) mt_Mo_appends lk_Mo_189 (Nat.le_of_ble_eq_true rfl) ⟨Nat.le_of_ble_eq_true rfl, Nat.le_of_ble_eq_true rfl⟩ rfl d_Mo_word_24 (c_Mo_appends hVO hq24) ?_
  refine g_iload (pc := 27) hC (i := 6) (x := x6) rfl d_Mo_word_27 ?_
  obtain ⟨q29, hq29, h⟩ := Option.bind_eq_some_iff.mp h
  refine g_sl (pc := 29) hC (As := [.long q24, .int x6]) (st := []) mt_Mo_appends lk_Mo_189 (Nat.le_of_ble_eq_true rfl) ⟨Nat.le_of_ble_eq_true rfl, Nat.le_of_ble_eq_true rfl⟩ rfl d_Mo_word_29 (c_Mo_appends hVO hq29) ?_
  exact g_lN (pc := 32) hC d_Mo_word_32 h
theorem c_Mo_word {V : WV} {l : Launch} (hVO : VOk V) {x0 : Int32} {x1 : Int32} {x2 : Int32} {x3 : Int32} {x4 : Int32} {x5 : Int32} {x6 : Int32} {S : Mem} {z : Int64} (h : f_Mo_word x0 x1 x2 x3 x4 x5 x6 = some z) : CL V l y_Mo_word bc_Mo_word 7 (some .long) 1 22 [.int x0, .int x1, .int x2, .int x3, .int x4, .int x5, .int x6] S z S :=
  ct_l rfl hVO (Nat.le_of_ble_eq_true rfl) (fun _ _ hC => w_Mo_word_b0 hVO hC x0 x1 x2 x3 x4 x5 x6 h)
def f_Mo_token_b0 (x1 : Int32) (x2 : Int32) (x3 : Int32) (x4 : Int64) (S : Mem) : Option (Mem) :=
  gIn (S.1 0 10) 403 (letS (sA S 0 5 (S.1 0 10) x1) (fun S9 =>
  gIn (S9.1 0 10) 403 (letS (sA S9 0 6 (S9.1 0 10) x2) (fun S19 =>
  gIn (S19.1 0 10) 403 (letS (sA S19 0 7 (S19.1 0 10) x3) (fun S29 =>
  gIn (S29.1 0 10) 403 (letS (sL S29 0 8 (S29.1 0 10) x4) (fun S40 =>
  letS (pI S40 0 10 ((S40.1 0 10) + 1)) (fun S48 =>
  some S48)))))))))
def f_Mo_token (x1 : Int32) (x2 : Int32) (x3 : Int32) (x4 : Int64) (S : Mem) : Option (Mem) := f_Mo_token_b0  x1 x2 x3 x4 S
theorem d_Mo_token_0 : decode bc_Mo_token 0 = .ok (.aload_n 0, 1) := by decide +kernel
theorem d_Mo_token_1 : decode bc_Mo_token 1 = .ok (.getfield 20, 3) := by decide +kernel
theorem d_Mo_token_4 : decode bc_Mo_token 4 = .ok (.aload_n 0, 1) := by decide +kernel
theorem d_Mo_token_5 : decode bc_Mo_token 5 = .ok (.getfield 193, 3) := by decide +kernel
theorem d_Mo_token_8 : decode bc_Mo_token 8 = .ok (.iload_n 1, 1) := by decide +kernel
theorem d_Mo_token_9 : decode bc_Mo_token 9 = .ok (.iastore, 1) := by decide +kernel
theorem d_Mo_token_10 : decode bc_Mo_token 10 = .ok (.aload_n 0, 1) := by decide +kernel
theorem d_Mo_token_11 : decode bc_Mo_token 11 = .ok (.getfield 24, 3) := by decide +kernel
theorem d_Mo_token_14 : decode bc_Mo_token 14 = .ok (.aload_n 0, 1) := by decide +kernel
theorem d_Mo_token_15 : decode bc_Mo_token 15 = .ok (.getfield 193, 3) := by decide +kernel
theorem d_Mo_token_18 : decode bc_Mo_token 18 = .ok (.iload_n 2, 1) := by decide +kernel
theorem d_Mo_token_19 : decode bc_Mo_token 19 = .ok (.iastore, 1) := by decide +kernel
theorem d_Mo_token_20 : decode bc_Mo_token 20 = .ok (.aload_n 0, 1) := by decide +kernel
theorem d_Mo_token_21 : decode bc_Mo_token 21 = .ok (.getfield 27, 3) := by decide +kernel
theorem d_Mo_token_24 : decode bc_Mo_token 24 = .ok (.aload_n 0, 1) := by decide +kernel
theorem d_Mo_token_25 : decode bc_Mo_token 25 = .ok (.getfield 193, 3) := by decide +kernel
theorem d_Mo_token_28 : decode bc_Mo_token 28 = .ok (.iload_n 3, 1) := by decide +kernel
theorem d_Mo_token_29 : decode bc_Mo_token 29 = .ok (.iastore, 1) := by decide +kernel
theorem d_Mo_token_30 : decode bc_Mo_token 30 = .ok (.aload_n 0, 1) := by decide +kernel
theorem d_Mo_token_31 : decode bc_Mo_token 31 = .ok (.getfield 30, 3) := by decide +kernel
theorem d_Mo_token_34 : decode bc_Mo_token 34 = .ok (.aload_n 0, 1) := by decide +kernel
theorem d_Mo_token_35 : decode bc_Mo_token 35 = .ok (.getfield 193, 3) := by decide +kernel
theorem d_Mo_token_38 : decode bc_Mo_token 38 = .ok (.lload 4, 2) := by decide +kernel
theorem d_Mo_token_40 : decode bc_Mo_token 40 = .ok (.lastore, 1) := by decide +kernel
theorem d_Mo_token_41 : decode bc_Mo_token 41 = .ok (.aload_n 0, 1) := by decide +kernel
theorem d_Mo_token_42 : decode bc_Mo_token 42 = .ok (.dup, 1) := by decide +kernel
theorem d_Mo_token_43 : decode bc_Mo_token 43 = .ok (.getfield 193, 3) := by decide +kernel
theorem d_Mo_token_46 : decode bc_Mo_token 46 = .ok (.iconst 1, 1) := by decide +kernel
theorem d_Mo_token_47 : decode bc_Mo_token 47 = .ok (.iadd, 1) := by decide +kernel
theorem d_Mo_token_48 : decode bc_Mo_token 48 = .ok (.putfield 193, 3) := by decide +kernel
theorem d_Mo_token_51 : decode bc_Mo_token 51 = .ok (.return_, 1) := by decide +kernel
set_option maxRecDepth 20000 in
theorem w_Mo_token_b0 {X : CX} {V : WV} (hV : IsM V) {z : Mem} (hC : Ck X V bc_Mo_token 6 "SecretWellsModel" none 0 0) (x1 : Int32) (x2 : Int32) (x3 : Int32) (x4 : Int64) (S : Mem) (h : f_Mo_token_b0  x1 x2 x3 x4 S = some z) : G X V 6 (QV X V z) 0 [some (.ref (V.2.2.1 0 0)), some (.int x1), some (.int x2), some (.int x3), some (.long x4), none] [] S := by
  unfold f_Mo_token_b0 at h
  refine g_aload_n (pc := 0) hC (i := 0) (x := (V.2.2.1 0 0)) rfl rfl d_Mo_token_0 ?_
  refine g_getA (pc := 1) hC fo_Mo_20 (ob_Mo hV) rfl d_Mo_token_1 ?_
  refine g_aload_n (pc := 4) hC (i := 0) (x := (V.2.2.1 0 0)) rfl rfl d_Mo_token_4 ?_
  refine g_getI (pc := 5) hC fo_Mo_193 (ob_Mo hV) rfl d_Mo_token_5 ?_
  refine g_iload_n (pc := 8) hC (i := 1) (x := x1) rfl rfl d_Mo_token_8 ?_
  refine g_iast (pc := 9) hC (ar_Mo_5 hV) d_Mo_token_9 h (fun h => ?_)
  refine g_letS h (fun S9 h => ?_)
  refine g_aload_n (pc := 10) hC (i := 0) (x := (V.2.2.1 0 0)) rfl rfl d_Mo_token_10 ?_
  refine g_getA (pc := 11) hC fo_Mo_24 (ob_Mo hV) rfl d_Mo_token_11 ?_
  refine g_aload_n (pc := 14) hC (i := 0) (x := (V.2.2.1 0 0)) rfl rfl d_Mo_token_14 ?_
  refine g_getI (pc := 15) hC fo_Mo_193 (ob_Mo hV) rfl d_Mo_token_15 ?_
  refine g_iload_n (pc := 18) hC (i := 2) (x := x2) rfl rfl d_Mo_token_18 ?_
  refine g_iast (pc := 19) hC (ar_Mo_6 hV) d_Mo_token_19 h (fun h => ?_)
  refine g_letS h (fun S19 h => ?_)
  refine g_aload_n (pc := 20) hC (i := 0) (x := (V.2.2.1 0 0)) rfl rfl d_Mo_token_20 ?_
  refine g_getA (pc := 21) hC fo_Mo_27 (ob_Mo hV) rfl d_Mo_token_21 ?_
  refine g_aload_n (pc := 24) hC (i := 0) (x := (V.2.2.1 0 0)) rfl rfl d_Mo_token_24 ?_
  refine g_getI (pc := 25) hC fo_Mo_193 (ob_Mo hV) rfl d_Mo_token_25 ?_
  refine g_iload_n (pc := 28) hC (i := 3) (x := x3) rfl rfl d_Mo_token_28 ?_
  refine g_iast (pc := 29) hC (ar_Mo_7 hV) d_Mo_token_29 h (fun h => ?_)
  refine g_letS h (fun S29 h => ?_)
  refine g_aload_n (pc := 30) hC (i := 0) (x := (V.2.2.1 0 0)) rfl rfl d_Mo_token_30 ?_
  refine g_getA (pc := 31) hC fo_Mo_30 (ob_Mo hV) rfl d_Mo_token_31 ?_
  refine g_aload_n (pc := 34) hC (i := 0) (x := (V.2.2.1 0 0)) rfl rfl d_Mo_token_34 ?_
  refine g_getI (pc := 35) hC fo_Mo_193 (ob_Mo hV) rfl d_Mo_token_35 ?_
  refine g_lload (pc := 38) hC (i := 4) (x := x4) rfl d_Mo_token_38 ?_
  refine g_last (pc := 40) hC (ar_Mo_8 hV) d_Mo_token_40 h (fun h => ?_)
  refine g_letS h (fun S40 h => ?_)
  refine g_aload_n (pc := 41) hC (i := 0) (x := (V.2.2.1 0 0)) rfl rfl d_Mo_token_41 ?_
  refine g_dup (pc := 42) hC rfl d_Mo_token_42 ?_
  refine g_getI (pc := 43) hC fo_Mo_193 (ob_Mo hV) rfl d_Mo_token_43 ?_
  refine g_iconst (pc := 46) hC kc_1 d_Mo_token_46 ?_
  refine g_iadd (pc := 47) hC d_Mo_token_47 ?_
  refine g_putI (pc := 48) hC po_Mo_193 (ob_Mo hV) rfl rfl rfl d_Mo_token_48 ?_
  refine g_letS h (fun S48 h => ?_)
  exact g_vW (pc := 51) hC d_Mo_token_51 h
theorem c_Mo_token {V : WV} {l : Launch} (hV : IsM V) {x1 : Int32} {x2 : Int32} {x3 : Int32} {x4 : Int64} {S : Mem} {z : Mem} (h : f_Mo_token x1 x2 x3 x4 S = some z) : CV V l y_Mo_token bc_Mo_token 6 none 0 0 [.ref (V.2.2.1 0 0), .int x1, .int x2, .int x3, .long x4] S z :=
  ct_v rfl (IsM.ok hV) (Nat.le_of_ble_eq_true rfl) (fun _ _ hC => w_Mo_token_b0 hV hC x1 x2 x3 x4 S h)
def f_Mo_sign_b95 (x1 : Int32) (x4 : Int32) (S : Mem) : Option (Int32 × Mem) :=
  Option.bind (f_Mo_token x4 x1 0 0 S) (fun q101 =>
  some (1, q101))
def f_Mo_sign_b85 (x1 : Int32) (x2 : Int32) (x4 : Int32) (S : Mem) : Option (Int32 × Mem) :=
  if x2 = 60 then
    f_Mo_sign_b95 x1 13 S
  else
    f_Mo_sign_b95 x1 x4 S
def f_Mo_sign_b75 (x1 : Int32) (x2 : Int32) (x4 : Int32) (S : Mem) : Option (Int32 × Mem) :=
  if x2 = 47 then
    f_Mo_sign_b85 x1 x2 15 S
  else
    f_Mo_sign_b85 x1 x2 x4 S
def f_Mo_sign_b65 (x1 : Int32) (x2 : Int32) (x4 : Int32) (S : Mem) : Option (Int32 × Mem) :=
  if x2 = 42 then
    f_Mo_sign_b75 x1 x2 10 S
  else
    f_Mo_sign_b75 x1 x2 x4 S
def f_Mo_sign_b55 (x1 : Int32) (x2 : Int32) (x4 : Int32) (S : Mem) : Option (Int32 × Mem) :=
  if x2 = 45 then
    f_Mo_sign_b65 x1 x2 9 S
  else
    f_Mo_sign_b65 x1 x2 x4 S
def f_Mo_sign_b43 (x1 : Int32) (x2 : Int32) (s0 : Int32) (S : Mem) : Option (Int32 × Mem) :=
  if x2 = 43 then
    f_Mo_sign_b55 x1 x2 8 S
  else
    f_Mo_sign_b55 x1 x2 s0 S
def f_Mo_sign_b0 (x1 : Int32) (x2 : Int32) (x3 : Int32) (S : Mem) : Option (Int32 × Mem) :=
  if x2 = 59 then
    f_Mo_sign_b43 x1 x2 4 S
  else
    if x2 = 61 then
      f_Mo_sign_b43 x1 x2 5 S
    else
      if x2 = 40 then
        f_Mo_sign_b43 x1 x2 6 S
      else
        if x2 = 41 then
          f_Mo_sign_b43 x1 x2 7 S
        else
          f_Mo_sign_b43 x1 x2 3 S
def f_Mo_sign (x1 : Int32) (x2 : Int32) (x3 : Int32) (S : Mem) : Option (Int32 × Mem) := f_Mo_sign_b0  x1 x2 x3 S
theorem d_Mo_sign_0 : decode bc_Mo_sign 0 = .ok (.iload_n 2, 1) := by decide +kernel
theorem d_Mo_sign_1 : decode bc_Mo_sign 1 = .ok (.bipush 59, 2) := by decide +kernel
theorem d_Mo_sign_3 : decode bc_Mo_sign 3 = .ok (.if_icmp .ne 7, 3) := by decide +kernel
theorem d_Mo_sign_6 : decode bc_Mo_sign 6 = .ok (.iconst 4, 1) := by decide +kernel
theorem d_Mo_sign_7 : decode bc_Mo_sign 7 = .ok (.goto 36, 3) := by decide +kernel
theorem d_Mo_sign_10 : decode bc_Mo_sign 10 = .ok (.iload_n 2, 1) := by decide +kernel
theorem d_Mo_sign_11 : decode bc_Mo_sign 11 = .ok (.bipush 61, 2) := by decide +kernel
theorem d_Mo_sign_13 : decode bc_Mo_sign 13 = .ok (.if_icmp .ne 7, 3) := by decide +kernel
theorem d_Mo_sign_16 : decode bc_Mo_sign 16 = .ok (.iconst 5, 1) := by decide +kernel
theorem d_Mo_sign_17 : decode bc_Mo_sign 17 = .ok (.goto 26, 3) := by decide +kernel
theorem d_Mo_sign_20 : decode bc_Mo_sign 20 = .ok (.iload_n 2, 1) := by decide +kernel
theorem d_Mo_sign_21 : decode bc_Mo_sign 21 = .ok (.bipush 40, 2) := by decide +kernel
theorem d_Mo_sign_23 : decode bc_Mo_sign 23 = .ok (.if_icmp .ne 8, 3) := by decide +kernel
theorem d_Mo_sign_26 : decode bc_Mo_sign 26 = .ok (.bipush 6, 2) := by decide +kernel
theorem d_Mo_sign_28 : decode bc_Mo_sign 28 = .ok (.goto 15, 3) := by decide +kernel
theorem d_Mo_sign_31 : decode bc_Mo_sign 31 = .ok (.iload_n 2, 1) := by decide +kernel
theorem d_Mo_sign_32 : decode bc_Mo_sign 32 = .ok (.bipush 41, 2) := by decide +kernel
theorem d_Mo_sign_34 : decode bc_Mo_sign 34 = .ok (.if_icmp .ne 8, 3) := by decide +kernel
theorem d_Mo_sign_37 : decode bc_Mo_sign 37 = .ok (.bipush 7, 2) := by decide +kernel
theorem d_Mo_sign_39 : decode bc_Mo_sign 39 = .ok (.goto 4, 3) := by decide +kernel
theorem d_Mo_sign_42 : decode bc_Mo_sign 42 = .ok (.iconst 3, 1) := by decide +kernel
theorem d_Mo_sign_43 : decode bc_Mo_sign 43 = .ok (.istore 4, 2) := by decide +kernel
theorem d_Mo_sign_45 : decode bc_Mo_sign 45 = .ok (.iload_n 2, 1) := by decide +kernel
theorem d_Mo_sign_46 : decode bc_Mo_sign 46 = .ok (.bipush 43, 2) := by decide +kernel
theorem d_Mo_sign_48 : decode bc_Mo_sign 48 = .ok (.if_icmp .ne 7, 3) := by decide +kernel
theorem d_Mo_sign_51 : decode bc_Mo_sign 51 = .ok (.bipush 8, 2) := by decide +kernel
theorem d_Mo_sign_53 : decode bc_Mo_sign 53 = .ok (.istore 4, 2) := by decide +kernel
theorem d_Mo_sign_55 : decode bc_Mo_sign 55 = .ok (.iload_n 2, 1) := by decide +kernel
theorem d_Mo_sign_56 : decode bc_Mo_sign 56 = .ok (.bipush 45, 2) := by decide +kernel
theorem d_Mo_sign_58 : decode bc_Mo_sign 58 = .ok (.if_icmp .ne 7, 3) := by decide +kernel
theorem d_Mo_sign_61 : decode bc_Mo_sign 61 = .ok (.bipush 9, 2) := by decide +kernel
theorem d_Mo_sign_63 : decode bc_Mo_sign 63 = .ok (.istore 4, 2) := by decide +kernel
theorem d_Mo_sign_65 : decode bc_Mo_sign 65 = .ok (.iload_n 2, 1) := by decide +kernel
theorem d_Mo_sign_66 : decode bc_Mo_sign 66 = .ok (.bipush 42, 2) := by decide +kernel
theorem d_Mo_sign_68 : decode bc_Mo_sign 68 = .ok (.if_icmp .ne 7, 3) := by decide +kernel
theorem d_Mo_sign_71 : decode bc_Mo_sign 71 = .ok (.bipush 10, 2) := by decide +kernel
theorem d_Mo_sign_73 : decode bc_Mo_sign 73 = .ok (.istore 4, 2) := by decide +kernel
theorem d_Mo_sign_75 : decode bc_Mo_sign 75 = .ok (.iload_n 2, 1) := by decide +kernel
theorem d_Mo_sign_76 : decode bc_Mo_sign 76 = .ok (.bipush 47, 2) := by decide +kernel
theorem d_Mo_sign_78 : decode bc_Mo_sign 78 = .ok (.if_icmp .ne 7, 3) := by decide +kernel
theorem d_Mo_sign_81 : decode bc_Mo_sign 81 = .ok (.bipush 15, 2) := by decide +kernel
theorem d_Mo_sign_83 : decode bc_Mo_sign 83 = .ok (.istore 4, 2) := by decide +kernel
theorem d_Mo_sign_85 : decode bc_Mo_sign 85 = .ok (.iload_n 2, 1) := by decide +kernel
theorem d_Mo_sign_86 : decode bc_Mo_sign 86 = .ok (.bipush 60, 2) := by decide +kernel
theorem d_Mo_sign_88 : decode bc_Mo_sign 88 = .ok (.if_icmp .ne 7, 3) := by decide +kernel
theorem d_Mo_sign_91 : decode bc_Mo_sign 91 = .ok (.bipush 13, 2) := by decide +kernel
theorem d_Mo_sign_93 : decode bc_Mo_sign 93 = .ok (.istore 4, 2) := by decide +kernel
theorem d_Mo_sign_95 : decode bc_Mo_sign 95 = .ok (.aload_n 0, 1) := by decide +kernel
theorem d_Mo_sign_96 : decode bc_Mo_sign 96 = .ok (.iload 4, 2) := by decide +kernel
theorem d_Mo_sign_98 : decode bc_Mo_sign 98 = .ok (.iload_n 1, 1) := by decide +kernel
theorem d_Mo_sign_99 : decode bc_Mo_sign 99 = .ok (.iconst 0, 1) := by decide +kernel
theorem d_Mo_sign_100 : decode bc_Mo_sign 100 = .ok (.lconst 0, 1) := by decide +kernel
theorem d_Mo_sign_101 : decode bc_Mo_sign 101 = .ok (.invokevirtual 200, 3) := by decide +kernel
theorem d_Mo_sign_104 : decode bc_Mo_sign 104 = .ok (.iconst 1, 1) := by decide +kernel
theorem d_Mo_sign_105 : decode bc_Mo_sign 105 = .ok (.ireturn, 1) := by decide +kernel
set_option maxRecDepth 20000 in
theorem w_Mo_sign_b95 {X : CX} {V : WV} (hV : IsM V) {z : Int32 × Mem} (hC : Ck X V bc_Mo_sign 5 "SecretWellsModel" (some .int) 1 25) (x1 : Int32) (x4 : Int32) (S : Mem) (h : f_Mo_sign_b95  x1 x4 S = some z) : G X V 5 (QI X V z.1 z.2) 95 [some (.ref (V.2.2.1 0 0)), some (.int x1), none, none, some (.int x4)] [] S := by
  unfold f_Mo_sign_b95 at h
  refine g_aload_n (pc := 95) hC (i := 0) (x := (V.2.2.1 0 0)) rfl rfl d_Mo_sign_95 ?_
  refine g_iload (pc := 96) hC (i := 4) (x := x4) rfl d_Mo_sign_96 ?_
  refine g_iload_n (pc := 98) hC (i := 1) (x := x1) rfl rfl d_Mo_sign_98 ?_
  refine g_iconst (pc := 99) hC kc_0 d_Mo_sign_99 ?_
  refine g_lconst (pc := 100) hC (v := 0) (by decide) d_Mo_sign_100 ?_
  obtain ⟨q101, hq101, h⟩ := Option.bind_eq_some_iff.mp h
  refine g_vv (pc := 101) hC (As := [.int x4, .int x1, .int 0, .long 0]) (st := []) mt_Mo_token lk_Mo_200 rfl (ob_Mo hV) (Nat.le_of_ble_eq_true rfl) ⟨Nat.le_of_ble_eq_true rfl, Nat.le_of_ble_eq_true rfl⟩ rfl d_Mo_sign_101 (c_Mo_token hV hq101) ?_
  refine g_iconst (pc := 104) hC kc_1 d_Mo_sign_104 ?_
  exact g_iW (pc := 105) hC rfl d_Mo_sign_105 h
set_option maxRecDepth 20000 in
theorem w_Mo_sign_b85 {X : CX} {V : WV} (hV : IsM V) {z : Int32 × Mem} (hC : Ck X V bc_Mo_sign 5 "SecretWellsModel" (some .int) 1 25) (x1 : Int32) (x2 : Int32) (x4 : Int32) (S : Mem) (h : f_Mo_sign_b85  x1 x2 x4 S = some z) : G X V 5 (QI X V z.1 z.2) 85 [some (.ref (V.2.2.1 0 0)), some (.int x1), some (.int x2), none, some (.int x4)] [] S := by
  unfold f_Mo_sign_b85 at h
  refine g_iload_n (pc := 85) hC (i := 2) (x := x2) rfl rfl d_Mo_sign_85 ?_
  refine g_bipush (pc := 86) hC kb_60 d_Mo_sign_86 ?_
  refine g_icmp_ne (pc := 88) hC (tgt := 95) (by decide) d_Mo_sign_88 h (fun h => ?_) (fun h => ?_)
  · refine g_le (lv2 := [some (.ref (V.2.2.1 0 0)), some (.int x1), none, none, some (.int x4)]) (⟨rfl, ⟨rfl, ⟨rfl, trivial⟩⟩⟩) ?_
    exact w_Mo_sign_b95 hV hC x1 x4 S h
  · refine g_bipush (pc := 91) hC kb_13 d_Mo_sign_91 ?_
    refine s_istore (pc := 93) hC (i := 4) (by decide) d_Mo_sign_93 (lv2 := [some (.ref (V.2.2.1 0 0)), some (.int x1), some (.int x2), none, some (.int 13)]) rfl ?_
    refine g_le (lv2 := [some (.ref (V.2.2.1 0 0)), some (.int x1), none, none, some (.int 13)]) (⟨rfl, ⟨rfl, ⟨rfl, trivial⟩⟩⟩) ?_
    exact w_Mo_sign_b95 hV hC x1 13 S h
set_option maxRecDepth 20000 in
theorem w_Mo_sign_b75 {X : CX} {V : WV} (hV : IsM V) {z : Int32 × Mem} (hC : Ck X V bc_Mo_sign 5 "SecretWellsModel" (some .int) 1 25) (x1 : Int32) (x2 : Int32) (x4 : Int32) (S : Mem) (h : f_Mo_sign_b75  x1 x2 x4 S = some z) : G X V 5 (QI X V z.1 z.2) 75 [some (.ref (V.2.2.1 0 0)), some (.int x1), some (.int x2), none, some (.int x4)] [] S := by
  unfold f_Mo_sign_b75 at h
  refine g_iload_n (pc := 75) hC (i := 2) (x := x2) rfl rfl d_Mo_sign_75 ?_
  refine g_bipush (pc := 76) hC kb_47 d_Mo_sign_76 ?_
  refine g_icmp_ne (pc := 78) hC (tgt := 85) (by decide) d_Mo_sign_78 h (fun h => ?_) (fun h => ?_)
  · exact w_Mo_sign_b85 hV hC x1 x2 x4 S h
  · refine g_bipush (pc := 81) hC kb_15 d_Mo_sign_81 ?_
    refine s_istore (pc := 83) hC (i := 4) (by decide) d_Mo_sign_83 (lv2 := [some (.ref (V.2.2.1 0 0)), some (.int x1), some (.int x2), none, some (.int 15)]) rfl ?_
    exact w_Mo_sign_b85 hV hC x1 x2 15 S h
set_option maxRecDepth 20000 in
theorem w_Mo_sign_b65 {X : CX} {V : WV} (hV : IsM V) {z : Int32 × Mem} (hC : Ck X V bc_Mo_sign 5 "SecretWellsModel" (some .int) 1 25) (x1 : Int32) (x2 : Int32) (x4 : Int32) (S : Mem) (h : f_Mo_sign_b65  x1 x2 x4 S = some z) : G X V 5 (QI X V z.1 z.2) 65 [some (.ref (V.2.2.1 0 0)), some (.int x1), some (.int x2), none, some (.int x4)] [] S := by
  unfold f_Mo_sign_b65 at h
  refine g_iload_n (pc := 65) hC (i := 2) (x := x2) rfl rfl d_Mo_sign_65 ?_
  refine g_bipush (pc := 66) hC kb_42 d_Mo_sign_66 ?_
  refine g_icmp_ne (pc := 68) hC (tgt := 75) (by decide) d_Mo_sign_68 h (fun h => ?_) (fun h => ?_)
  · exact w_Mo_sign_b75 hV hC x1 x2 x4 S h
  · refine g_bipush (pc := 71) hC kb_10 d_Mo_sign_71 ?_
    refine s_istore (pc := 73) hC (i := 4) (by decide) d_Mo_sign_73 (lv2 := [some (.ref (V.2.2.1 0 0)), some (.int x1), some (.int x2), none, some (.int 10)]) rfl ?_
    exact w_Mo_sign_b75 hV hC x1 x2 10 S h
set_option maxRecDepth 20000 in
theorem w_Mo_sign_b55 {X : CX} {V : WV} (hV : IsM V) {z : Int32 × Mem} (hC : Ck X V bc_Mo_sign 5 "SecretWellsModel" (some .int) 1 25) (x1 : Int32) (x2 : Int32) (x4 : Int32) (S : Mem) (h : f_Mo_sign_b55  x1 x2 x4 S = some z) : G X V 5 (QI X V z.1 z.2) 55 [some (.ref (V.2.2.1 0 0)), some (.int x1), some (.int x2), none, some (.int x4)] [] S := by
  unfold f_Mo_sign_b55 at h
  refine g_iload_n (pc := 55) hC (i := 2) (x := x2) rfl rfl d_Mo_sign_55 ?_
  refine g_bipush (pc := 56) hC kb_45 d_Mo_sign_56 ?_
  refine g_icmp_ne (pc := 58) hC (tgt := 65) (by decide) d_Mo_sign_58 h (fun h => ?_) (fun h => ?_)
  · exact w_Mo_sign_b65 hV hC x1 x2 x4 S h
  · refine g_bipush (pc := 61) hC kb_9 d_Mo_sign_61 ?_
    refine s_istore (pc := 63) hC (i := 4) (by decide) d_Mo_sign_63 (lv2 := [some (.ref (V.2.2.1 0 0)), some (.int x1), some (.int x2), none, some (.int 9)]) rfl ?_
    exact w_Mo_sign_b65 hV hC x1 x2 9 S h
set_option maxRecDepth 20000 in
theorem w_Mo_sign_b43 {X : CX} {V : WV} (hV : IsM V) {z : Int32 × Mem} (hC : Ck X V bc_Mo_sign 5 "SecretWellsModel" (some .int) 1 25) (x1 : Int32) (x2 : Int32) (s0 : Int32) (S : Mem) (h : f_Mo_sign_b43  x1 x2 s0 S = some z) : G X V 5 (QI X V z.1 z.2) 43 [some (.ref (V.2.2.1 0 0)), some (.int x1), some (.int x2), none, none] [.int s0] S := by
  unfold f_Mo_sign_b43 at h
  refine s_istore (pc := 43) hC (i := 4) (by decide) d_Mo_sign_43 (lv2 := [some (.ref (V.2.2.1 0 0)), some (.int x1), some (.int x2), none, some (.int s0)]) rfl ?_
  refine g_iload_n (pc := 45) hC (i := 2) (x := x2) rfl rfl d_Mo_sign_45 ?_
  refine g_bipush (pc := 46) hC kb_43 d_Mo_sign_46 ?_
  refine g_icmp_ne (pc := 48) hC (tgt := 55) (by decide) d_Mo_sign_48 h (fun h => ?_) (fun h => ?_)
  · exact w_Mo_sign_b55 hV hC x1 x2 s0 S h
  · refine g_bipush (pc := 51) hC kb_8 d_Mo_sign_51 ?_
    refine s_istore (pc := 53) hC (i := 4) (by decide) d_Mo_sign_53 (lv2 := [some (.ref (V.2.2.1 0 0)), some (.int x1), some (.int x2), none, some (.int 8)]) rfl ?_
    exact w_Mo_sign_b55 hV hC x1 x2 8 S h
set_option maxRecDepth 20000 in
theorem w_Mo_sign_b0 {X : CX} {V : WV} (hV : IsM V) {z : Int32 × Mem} (hC : Ck X V bc_Mo_sign 5 "SecretWellsModel" (some .int) 1 25) (x1 : Int32) (x2 : Int32) (x3 : Int32) (S : Mem) (h : f_Mo_sign_b0  x1 x2 x3 S = some z) : G X V 5 (QI X V z.1 z.2) 0 [some (.ref (V.2.2.1 0 0)), some (.int x1), some (.int x2), some (.int x3), none] [] S := by
  unfold f_Mo_sign_b0 at h
  refine g_iload_n (pc := 0) hC (i := 2) (x := x2) rfl rfl d_Mo_sign_0 ?_
  refine g_bipush (pc := 1) hC kb_59 d_Mo_sign_1 ?_
  refine g_icmp_ne (pc := 3) hC (tgt := 10) (by decide) d_Mo_sign_3 h (fun h => ?_) (fun h => ?_)
  · refine g_iload_n (pc := 10) hC (i := 2) (x := x2) rfl rfl d_Mo_sign_10 ?_
    refine g_bipush (pc := 11) hC kb_61 d_Mo_sign_11 ?_
    refine g_icmp_ne (pc := 13) hC (tgt := 20) (by decide) d_Mo_sign_13 h (fun h => ?_) (fun h => ?_)
    · refine g_iload_n (pc := 20) hC (i := 2) (x := x2) rfl rfl d_Mo_sign_20 ?_
      refine g_bipush (pc := 21) hC kb_40 d_Mo_sign_21 ?_
      refine g_icmp_ne (pc := 23) hC (tgt := 31) (by decide) d_Mo_sign_23 h (fun h => ?_) (fun h => ?_)
      · refine g_iload_n (pc := 31) hC (i := 2) (x := x2) rfl rfl d_Mo_sign_31 ?_
        refine g_bipush (pc := 32) hC kb_41 d_Mo_sign_32 ?_
        refine g_icmp_ne (pc := 34) hC (tgt := 42) (by decide) d_Mo_sign_34 h (fun h => ?_) (fun h => ?_)
        · refine g_iconst (pc := 42) hC kc_3 d_Mo_sign_42 ?_
          refine g_le (lv2 := [some (.ref (V.2.2.1 0 0)), some (.int x1), some (.int x2), none, none]) (⟨rfl, ⟨rfl, ⟨rfl, trivial⟩⟩⟩) ?_
          exact w_Mo_sign_b43 hV hC x1 x2 3 S h
        · refine g_bipush (pc := 37) hC kb_7 d_Mo_sign_37 ?_
          refine g_goto (pc := 39) hC (tgt := 43) (by decide) d_Mo_sign_39 ?_
          refine g_le (lv2 := [some (.ref (V.2.2.1 0 0)), some (.int x1), some (.int x2), none, none]) (⟨rfl, ⟨rfl, ⟨rfl, trivial⟩⟩⟩) ?_
          exact w_Mo_sign_b43 hV hC x1 x2 7 S h
      · refine g_bipush (pc := 26) hC kb_6 d_Mo_sign_26 ?_
        refine g_goto (pc := 28) hC (tgt := 43) (by decide) d_Mo_sign_28 ?_
        refine g_le (lv2 := [some (.ref (V.2.2.1 0 0)), some (.int x1), some (.int x2), none, none]) (⟨rfl, ⟨rfl, ⟨rfl, trivial⟩⟩⟩) ?_
        exact w_Mo_sign_b43 hV hC x1 x2 6 S h
    · refine g_iconst (pc := 16) hC kc_5 d_Mo_sign_16 ?_
      refine g_goto (pc := 17) hC (tgt := 43) (by decide) d_Mo_sign_17 ?_
      refine g_le (lv2 := [some (.ref (V.2.2.1 0 0)), some (.int x1), some (.int x2), none, none]) (⟨rfl, ⟨rfl, ⟨rfl, trivial⟩⟩⟩) ?_
      exact w_Mo_sign_b43 hV hC x1 x2 5 S h
  · refine g_iconst (pc := 6) hC kc_4 d_Mo_sign_6 ?_
    refine g_goto (pc := 7) hC (tgt := 43) (by decide) d_Mo_sign_7 ?_
    refine g_le (lv2 := [some (.ref (V.2.2.1 0 0)), some (.int x1), some (.int x2), none, none]) (⟨rfl, ⟨rfl, ⟨rfl, trivial⟩⟩⟩) ?_
    exact w_Mo_sign_b43 hV hC x1 x2 4 S h
theorem c_Mo_sign {V : WV} {l : Launch} (hV : IsM V) {x1 : Int32} {x2 : Int32} {x3 : Int32} {S : Mem} {z : Int32 × Mem} (h : f_Mo_sign x1 x2 x3 S = some z) : CI V l y_Mo_sign bc_Mo_sign 5 (some .int) 1 25 [.ref (V.2.2.1 0 0), .int x1, .int x2, .int x3] S z.1 z.2 :=
  ct_i rfl (IsM.ok hV) (Nat.le_of_ble_eq_true rfl) (fun _ _ hC => w_Mo_sign_b0 hV hC x1 x2 x3 S h)
def f_Mo_cut0_b179 (k7 : Int32 → Mem → Option (Mem)) (x1 : Int32) (x3 : Int32) (x4 : Int64) (x6 : Int32) (S : Mem) : Option (Mem) :=
  Option.bind (f_Mo_token x6 x1 0 x4 S) (fun q186 =>
  letS (x1 + x3) (fun y192 =>
  k7 y192 q186))
def f_Mo_cut0_b146 (k7 : Int32 → Mem → Option (Mem)) (k146 : Int32 → Int32 → Int64 → Int32 → Int32 → Mem → Option (Mem)) (x1 : Int32) (x3 : Int32) (x4 : Int64) (x6 : Int32) (x7 : Int32) (S : Mem) : Option (Mem) :=
  if 22 ≤ x7 then
    f_Mo_cut0_b179 k7 x1 x3 x4 x6 S
  else
    gIn x7 22 (
    if (lg_cmp (S.2.2 0 9 x7.toNatClampNeg) x4) = 0 then
      letS (20 + x7) (fun y171 =>
      k146 x1 x3 x4 y171 (x7 + 1) S)
    else
      k146 x1 x3 x4 x6 (x7 + 1) S)
def f_Mo_cut0_l146 (k7 : Int32 → Mem → Option (Mem)) : Nat → Int32 → Int32 → Int64 → Int32 → Int32 → Mem → Option (Mem)
  | 0 => fun _ _ _ _ _ _ => none
  | n + 1 => f_Mo_cut0_b146  k7 (f_Mo_cut0_l146  k7 n)
def f_Mo_cut0_b135 (k7 : Int32 → Mem → Option (Mem)) (x1 : Int32) (x3 : Int32) (x4 : Int64) (s0 : Int32) (S : Mem) : Option (Mem) :=
  if 7 < x3 then
    f_Mo_cut0_b179 k7 x1 x3 x4 s0 S
  else
    f_Mo_cut0_l146 k7 5000 x1 x3 x4 s0 0 S
def f_Mo_cut0_b85 (k7 : Int32 → Mem → Option (Mem)) (k85 : Int32 → Int32 → Int64 → Mem → Option (Mem)) (x1 : Int32) (x3 : Int32) (x4 : Int64) (S : Mem) : Option (Mem) :=
  Option.bind (f_Mo_byteAt (x1 + x3) S) (fun q89 =>
  Option.bind (f_Mo_isLetter q89) (fun q92 =>
  if q92 = 0 then
    if x3 ≤ 8 then
      f_Mo_cut0_b135 k7 x1 x3 x4 1 S
    else
      f_Mo_cut0_b135 k7 x1 x3 x4 3 S
  else
    if 8 ≤ x3 then
      k85 x1 (x3 + 1) x4 S
    else
      Option.bind (f_Mo_byteAt (x1 + x3) S) (fun q110 =>
      Option.bind (f_Mo_appends x4 q110) (fun q113 =>
      k85 x1 (x3 + 1) q113 S))))
def f_Mo_cut0_l85 (k7 : Int32 → Mem → Option (Mem)) : Nat → Int32 → Int32 → Int64 → Mem → Option (Mem)
  | 0 => fun _ _ _ _ => none
  | n + 1 => f_Mo_cut0_b85  k7 (f_Mo_cut0_l85  k7 n)
def f_Mo_cut0_b261 (k7 : Int32 → Mem → Option (Mem)) (x1 : Int32) (x3 : Int32) (x4 : Int32) (s0 : Int32) (S : Mem) : Option (Mem) :=
  Option.bind (f_Mo_token s0 x1 x4 0 S) (fun q265 =>
  letS (x1 + x3) (fun y271 =>
  k7 y271 q265))
def f_Mo_cut0_b208 (k7 : Int32 → Mem → Option (Mem)) (k208 : Int32 → Int32 → Int32 → Mem → Option (Mem)) (x1 : Int32) (x3 : Int32) (x4 : Int32) (S : Mem) : Option (Mem) :=
  Option.bind (f_Mo_byteAt (x1 + x3) S) (fun q212 =>
  Option.bind (f_Mo_isDigit q212) (fun q215 =>
  if q215 = 0 then
    if x3 ≤ 4 then
      f_Mo_cut0_b261 k7 x1 x3 x4 2 S
    else
      f_Mo_cut0_b261 k7 x1 x3 x4 3 S
  else
    if 4 ≤ x3 then
      k208 x1 (x3 + 1) x4 S
    else
      Option.bind (f_Mo_byteAt (x1 + x3) S) (fun q235 =>
      letS (((10 * x4) + q235) - 48) (fun y242 =>
      k208 x1 (x3 + 1) y242 S))))
def f_Mo_cut0_l208 (k7 : Int32 → Mem → Option (Mem)) : Nat → Int32 → Int32 → Int32 → Mem → Option (Mem)
  | 0 => fun _ _ _ _ => none
  | n + 1 => f_Mo_cut0_b208  k7 (f_Mo_cut0_l208  k7 n)
def f_Mo_cut0_b7 (k7 : Int32 → Mem → Option (Mem)) (x1 : Int32) (S : Mem) : Option (Mem) :=
  if 400 < (S.1 0 10) then
    some S
  else
    Option.bind (f_Mo_byteAt x1 S) (fun q19 =>
    if x1 < (S.1 0 4) then
      if q19 = 9 then
        k7 (x1 + 1) S
      else
        if q19 = 10 then
          k7 (x1 + 1) S
        else
          if q19 = 13 then
            k7 (x1 + 1) S
          else
            if q19 = 32 then
              k7 (x1 + 1) S
            else
              Option.bind (f_Mo_isLetter q19) (fun q74 =>
              if q74 = 0 then
                Option.bind (f_Mo_isDigit q19) (fun q197 =>
                if q197 = 0 then
                  Option.bind (f_Mo_byteAt (x1 + 1) S) (fun q283 =>
                  Option.bind (f_Mo_sign x1 q19 q283 S) (fun q286 =>
                  letS (x1 + q286.1) (fun y290 =>
                  k7 y290 q286.2)))
                else
                  f_Mo_cut0_l208 k7 5000 x1 0 0 S)
              else
                f_Mo_cut0_l85 k7 5000 x1 0 0 S)
    else
      Option.bind (f_Mo_token 0 (S.1 0 4) 0 0 S) (fun q39 =>
      some q39))
def f_Mo_cut0_l7 : Nat → Int32 → Mem → Option (Mem)
  | 0 => fun _ _ => none
  | n + 1 => f_Mo_cut0_b7  (f_Mo_cut0_l7  n)
def f_Mo_cut0_b0 (S : Mem) : Option (Mem) :=
  letS (pI S 0 10 0) (fun S2 =>
  f_Mo_cut0_l7 5000 0 S2)
def f_Mo_cut0 (S : Mem) : Option (Mem) := f_Mo_cut0_b0  S
theorem d_Mo_cut0_0 : decode bc_Mo_cut0 0 = .ok (.aload_n 0, 1) := by decide +kernel
theorem d_Mo_cut0_1 : decode bc_Mo_cut0 1 = .ok (.iconst 0, 1) := by decide +kernel
theorem d_Mo_cut0_2 : decode bc_Mo_cut0 2 = .ok (.putfield 193, 3) := by decide +kernel
theorem d_Mo_cut0_5 : decode bc_Mo_cut0 5 = .ok (.iconst 0, 1) := by decide +kernel
theorem d_Mo_cut0_6 : decode bc_Mo_cut0 6 = .ok (.istore_n 1, 1) := by decide +kernel
theorem d_Mo_cut0_7 : decode bc_Mo_cut0 7 = .ok (.aload_n 0, 1) := by decide +kernel
theorem d_Mo_cut0_8 : decode bc_Mo_cut0 8 = .ok (.getfield 193, 3) := by decide +kernel
theorem d_Mo_cut0_11 : decode bc_Mo_cut0 11 = .ok (.sipush 400, 3) := by decide +kernel
theorem d_Mo_cut0_14 : decode bc_Mo_cut0 14 = .ok (.if_icmp .gt 280, 3) := by decide +kernel
theorem d_Mo_cut0_17 : decode bc_Mo_cut0 17 = .ok (.aload_n 0, 1) := by decide +kernel
theorem d_Mo_cut0_18 : decode bc_Mo_cut0 18 = .ok (.iload_n 1, 1) := by decide +kernel
theorem d_Mo_cut0_19 : decode bc_Mo_cut0 19 = .ok (.invokevirtual 196, 3) := by decide +kernel
theorem d_Mo_cut0_22 : decode bc_Mo_cut0 22 = .ok (.istore_n 2, 1) := by decide +kernel
theorem d_Mo_cut0_23 : decode bc_Mo_cut0 23 = .ok (.iload_n 1, 1) := by decide +kernel
theorem d_Mo_cut0_24 : decode bc_Mo_cut0 24 = .ok (.aload_n 0, 1) := by decide +kernel
theorem d_Mo_cut0_25 : decode bc_Mo_cut0 25 = .ok (.getfield 184, 3) := by decide +kernel
theorem d_Mo_cut0_28 : decode bc_Mo_cut0 28 = .ok (.if_icmp .lt 15, 3) := by decide +kernel
theorem d_Mo_cut0_31 : decode bc_Mo_cut0 31 = .ok (.aload_n 0, 1) := by decide +kernel
theorem d_Mo_cut0_32 : decode bc_Mo_cut0 32 = .ok (.iconst 0, 1) := by decide +kernel
theorem d_Mo_cut0_33 : decode bc_Mo_cut0 33 = .ok (.aload_n 0, 1) := by decide +kernel
theorem d_Mo_cut0_34 : decode bc_Mo_cut0 34 = .ok (.getfield 184, 3) := by decide +kernel
theorem d_Mo_cut0_37 : decode bc_Mo_cut0 37 = .ok (.iconst 0, 1) := by decide +kernel
theorem d_Mo_cut0_38 : decode bc_Mo_cut0 38 = .ok (.lconst 0, 1) := by decide +kernel
theorem d_Mo_cut0_39 : decode bc_Mo_cut0 39 = .ok (.invokevirtual 200, 3) := by decide +kernel
theorem d_Mo_cut0_42 : decode bc_Mo_cut0 42 = .ok (.return_, 1) := by decide +kernel
theorem d_Mo_cut0_43 : decode bc_Mo_cut0 43 = .ok (.iload_n 2, 1) := by decide +kernel
theorem d_Mo_cut0_44 : decode bc_Mo_cut0 44 = .ok (.bipush 9, 2) := by decide +kernel
theorem d_Mo_cut0_46 : decode bc_Mo_cut0 46 = .ok (.if_icmp .eq 21, 3) := by decide +kernel
theorem d_Mo_cut0_49 : decode bc_Mo_cut0 49 = .ok (.iload_n 2, 1) := by decide +kernel
theorem d_Mo_cut0_50 : decode bc_Mo_cut0 50 = .ok (.bipush 10, 2) := by decide +kernel
theorem d_Mo_cut0_52 : decode bc_Mo_cut0 52 = .ok (.if_icmp .eq 15, 3) := by decide +kernel
theorem d_Mo_cut0_55 : decode bc_Mo_cut0 55 = .ok (.iload_n 2, 1) := by decide +kernel
theorem d_Mo_cut0_56 : decode bc_Mo_cut0 56 = .ok (.bipush 13, 2) := by decide +kernel
theorem d_Mo_cut0_58 : decode bc_Mo_cut0 58 = .ok (.if_icmp .eq 9, 3) := by decide +kernel
theorem d_Mo_cut0_61 : decode bc_Mo_cut0 61 = .ok (.iload_n 2, 1) := by decide +kernel
theorem d_Mo_cut0_62 : decode bc_Mo_cut0 62 = .ok (.bipush 32, 2) := by decide +kernel
theorem d_Mo_cut0_64 : decode bc_Mo_cut0 64 = .ok (.if_icmp .ne 9, 3) := by decide +kernel
theorem d_Mo_cut0_67 : decode bc_Mo_cut0 67 = .ok (.iinc 1 1, 3) := by decide +kernel
theorem d_Mo_cut0_70 : decode bc_Mo_cut0 70 = .ok (.goto 221, 3) := by decide +kernel
theorem d_Mo_cut0_73 : decode bc_Mo_cut0 73 = .ok (.iload_n 2, 1) := by decide +kernel
theorem d_Mo_cut0_74 : decode bc_Mo_cut0 74 = .ok (.invokestatic 204, 3) := by decide +kernel
theorem d_Mo_cut0_77 : decode bc_Mo_cut0 77 = .ok (.ifCond .eq 119, 3) := by decide +kernel
theorem d_Mo_cut0_80 : decode bc_Mo_cut0 80 = .ok (.iconst 0, 1) := by decide +kernel
theorem d_Mo_cut0_81 : decode bc_Mo_cut0 81 = .ok (.istore_n 3, 1) := by decide +kernel
theorem d_Mo_cut0_82 : decode bc_Mo_cut0 82 = .ok (.lconst 0, 1) := by decide +kernel
theorem d_Mo_cut0_83 : decode bc_Mo_cut0 83 = .ok (.lstore 4, 2) := by decide +kernel
theorem d_Mo_cut0_85 : decode bc_Mo_cut0 85 = .ok (.aload_n 0, 1) := by decide +kernel
theorem d_Mo_cut0_86 : decode bc_Mo_cut0 86 = .ok (.iload_n 1, 1) := by decide +kernel
theorem d_Mo_cut0_87 : decode bc_Mo_cut0 87 = .ok (.iload_n 3, 1) := by decide +kernel
theorem d_Mo_cut0_88 : decode bc_Mo_cut0 88 = .ok (.iadd, 1) := by decide +kernel
theorem d_Mo_cut0_89 : decode bc_Mo_cut0 89 = .ok (.invokevirtual 196, 3) := by decide +kernel
theorem d_Mo_cut0_92 : decode bc_Mo_cut0 92 = .ok (.invokestatic 204, 3) := by decide +kernel
theorem d_Mo_cut0_95 : decode bc_Mo_cut0 95 = .ok (.ifCond .eq 29, 3) := by decide +kernel
theorem d_Mo_cut0_98 : decode bc_Mo_cut0 98 = .ok (.iload_n 3, 1) := by decide +kernel
theorem d_Mo_cut0_99 : decode bc_Mo_cut0 99 = .ok (.bipush 8, 2) := by decide +kernel
theorem d_Mo_cut0_101 : decode bc_Mo_cut0 101 = .ok (.if_icmp .ge 17, 3) := by decide +kernel
theorem d_Mo_cut0_104 : decode bc_Mo_cut0 104 = .ok (.lload 4, 2) := by decide +kernel
theorem d_Mo_cut0_106 : decode bc_Mo_cut0 106 = .ok (.aload_n 0, 1) := by decide +kernel
theorem d_Mo_cut0_107 : decode bc_Mo_cut0 107 = .ok (.iload_n 1, 1) := by decide +kernel
theorem d_Mo_cut0_108 : decode bc_Mo_cut0 108 = .ok (.iload_n 3, 1) := by decide +kernel
theorem d_Mo_cut0_109 : decode bc_Mo_cut0 109 = .ok (.iadd, 1) := by decide +kernel
theorem d_Mo_cut0_110 : decode bc_Mo_cut0 110 = .ok (.invokevirtual 196, 3) := by decide +kernel
theorem d_Mo_cut0_113 : decode bc_Mo_cut0 113 = .ok (.invokestatic 189, 3) := by decide +kernel
theorem d_Mo_cut0_116 : decode bc_Mo_cut0 116 = .ok (.lstore 4, 2) := by decide +kernel
theorem d_Mo_cut0_118 : decode bc_Mo_cut0 118 = .ok (.iinc 3 1, 3) := by decide +kernel
theorem d_Mo_cut0_121 : decode bc_Mo_cut0 121 = .ok (.goto (-36), 3) := by decide +kernel
theorem d_Mo_cut0_124 : decode bc_Mo_cut0 124 = .ok (.iload_n 3, 1) := by decide +kernel
theorem d_Mo_cut0_125 : decode bc_Mo_cut0 125 = .ok (.bipush 8, 2) := by decide +kernel
theorem d_Mo_cut0_127 : decode bc_Mo_cut0 127 = .ok (.if_icmp .le 7, 3) := by decide +kernel
theorem d_Mo_cut0_130 : decode bc_Mo_cut0 130 = .ok (.iconst 3, 1) := by decide +kernel
theorem d_Mo_cut0_131 : decode bc_Mo_cut0 131 = .ok (.goto 4, 3) := by decide +kernel
theorem d_Mo_cut0_134 : decode bc_Mo_cut0 134 = .ok (.iconst 1, 1) := by decide +kernel
theorem d_Mo_cut0_135 : decode bc_Mo_cut0 135 = .ok (.istore 6, 2) := by decide +kernel
theorem d_Mo_cut0_137 : decode bc_Mo_cut0 137 = .ok (.iload_n 3, 1) := by decide +kernel
theorem d_Mo_cut0_138 : decode bc_Mo_cut0 138 = .ok (.bipush 7, 2) := by decide +kernel
theorem d_Mo_cut0_140 : decode bc_Mo_cut0 140 = .ok (.if_icmp .gt 39, 3) := by decide +kernel
theorem d_Mo_cut0_143 : decode bc_Mo_cut0 143 = .ok (.iconst 0, 1) := by decide +kernel
theorem d_Mo_cut0_144 : decode bc_Mo_cut0 144 = .ok (.istore 7, 2) := by decide +kernel
theorem d_Mo_cut0_146 : decode bc_Mo_cut0 146 = .ok (.iload 7, 2) := by decide +kernel
theorem d_Mo_cut0_148 : decode bc_Mo_cut0 148 = .ok (.bipush 22, 2) := by decide +kernel
theorem d_Mo_cut0_150 : decode bc_Mo_cut0 150 = .ok (.if_icmp .ge 29, 3) := by decide +kernel
theorem d_Mo_cut0_153 : decode bc_Mo_cut0 153 = .ok (.aload_n 0, 1) := by decide +kernel
theorem d_Mo_cut0_154 : decode bc_Mo_cut0 154 = .ok (.getfield 34, 3) := by decide +kernel
theorem d_Mo_cut0_157 : decode bc_Mo_cut0 157 = .ok (.iload 7, 2) := by decide +kernel
theorem d_Mo_cut0_159 : decode bc_Mo_cut0 159 = .ok (.laload, 1) := by decide +kernel
theorem d_Mo_cut0_160 : decode bc_Mo_cut0 160 = .ok (.lload 4, 2) := by decide +kernel
theorem d_Mo_cut0_162 : decode bc_Mo_cut0 162 = .ok (.lcmp, 1) := by decide +kernel
theorem d_Mo_cut0_163 : decode bc_Mo_cut0 163 = .ok (.ifCond .ne 10, 3) := by decide +kernel
theorem d_Mo_cut0_166 : decode bc_Mo_cut0 166 = .ok (.bipush 20, 2) := by decide +kernel
theorem d_Mo_cut0_168 : decode bc_Mo_cut0 168 = .ok (.iload 7, 2) := by decide +kernel
theorem d_Mo_cut0_170 : decode bc_Mo_cut0 170 = .ok (.iadd, 1) := by decide +kernel
theorem d_Mo_cut0_171 : decode bc_Mo_cut0 171 = .ok (.istore 6, 2) := by decide +kernel
theorem d_Mo_cut0_173 : decode bc_Mo_cut0 173 = .ok (.iinc 7 1, 3) := by decide +kernel
theorem d_Mo_cut0_176 : decode bc_Mo_cut0 176 = .ok (.goto (-30), 3) := by decide +kernel
theorem d_Mo_cut0_179 : decode bc_Mo_cut0 179 = .ok (.aload_n 0, 1) := by decide +kernel
theorem d_Mo_cut0_180 : decode bc_Mo_cut0 180 = .ok (.iload 6, 2) := by decide +kernel
theorem d_Mo_cut0_182 : decode bc_Mo_cut0 182 = .ok (.iload_n 1, 1) := by decide +kernel
theorem d_Mo_cut0_183 : decode bc_Mo_cut0 183 = .ok (.iconst 0, 1) := by decide +kernel
theorem d_Mo_cut0_184 : decode bc_Mo_cut0 184 = .ok (.lload 4, 2) := by decide +kernel
theorem d_Mo_cut0_186 : decode bc_Mo_cut0 186 = .ok (.invokevirtual 200, 3) := by decide +kernel
theorem d_Mo_cut0_189 : decode bc_Mo_cut0 189 = .ok (.iload_n 1, 1) := by decide +kernel
theorem d_Mo_cut0_190 : decode bc_Mo_cut0 190 = .ok (.iload_n 3, 1) := by decide +kernel
theorem d_Mo_cut0_191 : decode bc_Mo_cut0 191 = .ok (.iadd, 1) := by decide +kernel
theorem d_Mo_cut0_192 : decode bc_Mo_cut0 192 = .ok (.istore_n 1, 1) := by decide +kernel
theorem d_Mo_cut0_193 : decode bc_Mo_cut0 193 = .ok (.goto 98, 3) := by decide +kernel
theorem d_Mo_cut0_196 : decode bc_Mo_cut0 196 = .ok (.iload_n 2, 1) := by decide +kernel
theorem d_Mo_cut0_197 : decode bc_Mo_cut0 197 = .ok (.invokestatic 208, 3) := by decide +kernel
theorem d_Mo_cut0_200 : decode bc_Mo_cut0 200 = .ok (.ifCond .eq 75, 3) := by decide +kernel
theorem d_Mo_cut0_203 : decode bc_Mo_cut0 203 = .ok (.iconst 0, 1) := by decide +kernel
theorem d_Mo_cut0_204 : decode bc_Mo_cut0 204 = .ok (.istore_n 3, 1) := by decide +kernel
theorem d_Mo_cut0_205 : decode bc_Mo_cut0 205 = .ok (.iconst 0, 1) := by decide +kernel
theorem d_Mo_cut0_206 : decode bc_Mo_cut0 206 = .ok (.istore 4, 2) := by decide +kernel
theorem d_Mo_cut0_208 : decode bc_Mo_cut0 208 = .ok (.aload_n 0, 1) := by decide +kernel
theorem d_Mo_cut0_209 : decode bc_Mo_cut0 209 = .ok (.iload_n 1, 1) := by decide +kernel
theorem d_Mo_cut0_210 : decode bc_Mo_cut0 210 = .ok (.iload_n 3, 1) := by decide +kernel
theorem d_Mo_cut0_211 : decode bc_Mo_cut0 211 = .ok (.iadd, 1) := by decide +kernel
theorem d_Mo_cut0_212 : decode bc_Mo_cut0 212 = .ok (.invokevirtual 196, 3) := by decide +kernel
theorem d_Mo_cut0_215 : decode bc_Mo_cut0 215 = .ok (.invokestatic 208, 3) := by decide +kernel
theorem d_Mo_cut0_218 : decode bc_Mo_cut0 218 = .ok (.ifCond .eq 32, 3) := by decide +kernel
theorem d_Mo_cut0_221 : decode bc_Mo_cut0 221 = .ok (.iload_n 3, 1) := by decide +kernel
theorem d_Mo_cut0_222 : decode bc_Mo_cut0 222 = .ok (.iconst 4, 1) := by decide +kernel
theorem d_Mo_cut0_223 : decode bc_Mo_cut0 223 = .ok (.if_icmp .ge 21, 3) := by decide +kernel
theorem d_Mo_cut0_226 : decode bc_Mo_cut0 226 = .ok (.bipush 10, 2) := by decide +kernel
theorem d_Mo_cut0_228 : decode bc_Mo_cut0 228 = .ok (.iload 4, 2) := by decide +kernel
theorem d_Mo_cut0_230 : decode bc_Mo_cut0 230 = .ok (.imul, 1) := by decide +kernel
theorem d_Mo_cut0_231 : decode bc_Mo_cut0 231 = .ok (.aload_n 0, 1) := by decide +kernel
theorem d_Mo_cut0_232 : decode bc_Mo_cut0 232 = .ok (.iload_n 1, 1) := by decide +kernel
theorem d_Mo_cut0_233 : decode bc_Mo_cut0 233 = .ok (.iload_n 3, 1) := by decide +kernel
theorem d_Mo_cut0_234 : decode bc_Mo_cut0 234 = .ok (.iadd, 1) := by decide +kernel
theorem d_Mo_cut0_235 : decode bc_Mo_cut0 235 = .ok (.invokevirtual 196, 3) := by decide +kernel
theorem d_Mo_cut0_238 : decode bc_Mo_cut0 238 = .ok (.iadd, 1) := by decide +kernel
theorem d_Mo_cut0_239 : decode bc_Mo_cut0 239 = .ok (.bipush 48, 2) := by decide +kernel
theorem d_Mo_cut0_241 : decode bc_Mo_cut0 241 = .ok (.isub, 1) := by decide +kernel
theorem d_Mo_cut0_242 : decode bc_Mo_cut0 242 = .ok (.istore 4, 2) := by decide +kernel
theorem d_Mo_cut0_244 : decode bc_Mo_cut0 244 = .ok (.iinc 3 1, 3) := by decide +kernel
theorem d_Mo_cut0_247 : decode bc_Mo_cut0 247 = .ok (.goto (-39), 3) := by decide +kernel
theorem d_Mo_cut0_250 : decode bc_Mo_cut0 250 = .ok (.aload_n 0, 1) := by decide +kernel
theorem d_Mo_cut0_251 : decode bc_Mo_cut0 251 = .ok (.iload_n 3, 1) := by decide +kernel
theorem d_Mo_cut0_252 : decode bc_Mo_cut0 252 = .ok (.iconst 4, 1) := by decide +kernel
theorem d_Mo_cut0_253 : decode bc_Mo_cut0 253 = .ok (.if_icmp .le 7, 3) := by decide +kernel
theorem d_Mo_cut0_256 : decode bc_Mo_cut0 256 = .ok (.iconst 3, 1) := by decide +kernel
theorem d_Mo_cut0_257 : decode bc_Mo_cut0 257 = .ok (.goto 4, 3) := by decide +kernel
theorem d_Mo_cut0_260 : decode bc_Mo_cut0 260 = .ok (.iconst 2, 1) := by decide +kernel
theorem d_Mo_cut0_261 : decode bc_Mo_cut0 261 = .ok (.iload_n 1, 1) := by decide +kernel
theorem d_Mo_cut0_262 : decode bc_Mo_cut0 262 = .ok (.iload 4, 2) := by decide +kernel
theorem d_Mo_cut0_264 : decode bc_Mo_cut0 264 = .ok (.lconst 0, 1) := by decide +kernel
theorem d_Mo_cut0_265 : decode bc_Mo_cut0 265 = .ok (.invokevirtual 200, 3) := by decide +kernel
theorem d_Mo_cut0_268 : decode bc_Mo_cut0 268 = .ok (.iload_n 1, 1) := by decide +kernel
theorem d_Mo_cut0_269 : decode bc_Mo_cut0 269 = .ok (.iload_n 3, 1) := by decide +kernel
theorem d_Mo_cut0_270 : decode bc_Mo_cut0 270 = .ok (.iadd, 1) := by decide +kernel
theorem d_Mo_cut0_271 : decode bc_Mo_cut0 271 = .ok (.istore_n 1, 1) := by decide +kernel
theorem d_Mo_cut0_272 : decode bc_Mo_cut0 272 = .ok (.goto 19, 3) := by decide +kernel
theorem d_Mo_cut0_275 : decode bc_Mo_cut0 275 = .ok (.iload_n 1, 1) := by decide +kernel
theorem d_Mo_cut0_276 : decode bc_Mo_cut0 276 = .ok (.aload_n 0, 1) := by decide +kernel
theorem d_Mo_cut0_277 : decode bc_Mo_cut0 277 = .ok (.iload_n 1, 1) := by decide +kernel
theorem d_Mo_cut0_278 : decode bc_Mo_cut0 278 = .ok (.iload_n 2, 1) := by decide +kernel
theorem d_Mo_cut0_279 : decode bc_Mo_cut0 279 = .ok (.aload_n 0, 1) := by decide +kernel
theorem d_Mo_cut0_280 : decode bc_Mo_cut0 280 = .ok (.iload_n 1, 1) := by decide +kernel
theorem d_Mo_cut0_281 : decode bc_Mo_cut0 281 = .ok (.iconst 1, 1) := by decide +kernel
theorem d_Mo_cut0_282 : decode bc_Mo_cut0 282 = .ok (.iadd, 1) := by decide +kernel
theorem d_Mo_cut0_283 : decode bc_Mo_cut0 283 = .ok (.invokevirtual 196, 3) := by decide +kernel
theorem d_Mo_cut0_286 : decode bc_Mo_cut0 286 = .ok (.invokevirtual 211, 3) := by decide +kernel
theorem d_Mo_cut0_289 : decode bc_Mo_cut0 289 = .ok (.iadd, 1) := by decide +kernel
theorem d_Mo_cut0_290 : decode bc_Mo_cut0 290 = .ok (.istore_n 1, 1) := by decide +kernel
theorem d_Mo_cut0_291 : decode bc_Mo_cut0 291 = .ok (.goto (-284), 3) := by decide +kernel
theorem d_Mo_cut0_294 : decode bc_Mo_cut0 294 = .ok (.return_, 1) := by decide +kernel
set_option maxRecDepth 20000 in
theorem w_Mo_cut0_b179 {X : CX} {V : WV} (hV : IsM V) {z : Mem} (hC : Ck X V bc_Mo_cut0 8 "SecretWellsModel" none 2 49) (k7 : Int32 → Mem → Option (Mem)) (hk7 : ∀ (x1 : Int32) (S : Mem), k7 x1 S = some z → G X V 8 (QV X V z) 7 [some (.ref (V.2.2.1 0 0)), some (.int x1), none, none, none, none, none, none] [] S) (x1 : Int32) (x3 : Int32) (x4 : Int64) (x6 : Int32) (S : Mem) (h : f_Mo_cut0_b179  k7 x1 x3 x4 x6 S = some z) : G X V 8 (QV X V z) 179 [some (.ref (V.2.2.1 0 0)), some (.int x1), none, some (.int x3), some (.long x4), none, some (.int x6), none] [] S := by
  unfold f_Mo_cut0_b179 at h
  refine g_aload_n (pc := 179) hC (i := 0) (x := (V.2.2.1 0 0)) rfl rfl d_Mo_cut0_179 ?_
  refine g_iload (pc := 180) hC (i := 6) (x := x6) rfl d_Mo_cut0_180 ?_
  refine g_iload_n (pc := 182) hC (i := 1) (x := x1) rfl rfl d_Mo_cut0_182 ?_
  refine g_iconst (pc := 183) hC kc_0 d_Mo_cut0_183 ?_
  refine g_lload (pc := 184) hC (i := 4) (x := x4) rfl d_Mo_cut0_184 ?_
  obtain ⟨q186, hq186, h⟩ := Option.bind_eq_some_iff.mp h
  refine g_vv (pc := 186) hC (As := [.int x6, .int x1, .int 0, .long x4]) (st := []) mt_Mo_token lk_Mo_200 rfl (ob_Mo hV) (Nat.le_of_ble_eq_true rfl) ⟨Nat.le_of_ble_eq_true rfl, Nat.le_of_ble_eq_true rfl⟩ rfl d_Mo_cut0_186 (c_Mo_token hV hq186) ?_
  refine g_iload_n (pc := 189) hC (i := 1) (x := x1) rfl rfl d_Mo_cut0_189 ?_
  refine g_iload_n (pc := 190) hC (i := 3) (x := x3) rfl rfl d_Mo_cut0_190 ?_
  refine g_iadd (pc := 191) hC d_Mo_cut0_191 ?_
  refine g_leti h (fun y192 h => ?_)
  refine s_istore_n (pc := 192) hC (i := 1) rfl (by decide) d_Mo_cut0_192 (lv2 := [some (.ref (V.2.2.1 0 0)), some (.int y192), none, some (.int x3), some (.long x4), none, some (.int x6), none]) rfl ?_
  refine g_goto (pc := 193) hC (tgt := 291) (by decide) d_Mo_cut0_193 ?_
  refine g_goto (pc := 291) hC (tgt := 7) (by decide) d_Mo_cut0_291 ?_
  refine g_le (lv2 := [some (.ref (V.2.2.1 0 0)), some (.int y192), none, none, none, none, none, none]) (⟨rfl, ⟨rfl, trivial⟩⟩) ?_
  exact hk7 y192 q186 h
set_option maxRecDepth 20000 in
theorem w_Mo_cut0_b146 {X : CX} {V : WV} (hV : IsM V) {z : Mem} (hC : Ck X V bc_Mo_cut0 8 "SecretWellsModel" none 2 49) (k7 : Int32 → Mem → Option (Mem)) (hk7 : ∀ (x1 : Int32) (S : Mem), k7 x1 S = some z → G X V 8 (QV X V z) 7 [some (.ref (V.2.2.1 0 0)), some (.int x1), none, none, none, none, none, none] [] S) (k146 : Int32 → Int32 → Int64 → Int32 → Int32 → Mem → Option (Mem)) (hk146 : ∀ (x1 : Int32) (x3 : Int32) (x4 : Int64) (x6 : Int32) (x7 : Int32) (S : Mem), k146 x1 x3 x4 x6 x7 S = some z → G X V 8 (QV X V z) 146 [some (.ref (V.2.2.1 0 0)), some (.int x1), none, some (.int x3), some (.long x4), none, some (.int x6), some (.int x7)] [] S) (x1 : Int32) (x3 : Int32) (x4 : Int64) (x6 : Int32) (x7 : Int32) (S : Mem) (h : f_Mo_cut0_b146  k7 k146 x1 x3 x4 x6 x7 S = some z) : G X V 8 (QV X V z) 146 [some (.ref (V.2.2.1 0 0)), some (.int x1), none, some (.int x3), some (.long x4), none, some (.int x6), some (.int x7)] [] S := by
  unfold f_Mo_cut0_b146 at h
  refine g_iload (pc := 146) hC (i := 7) (x := x7) rfl d_Mo_cut0_146 ?_
  refine g_bipush (pc := 148) hC kb_22 d_Mo_cut0_148 ?_
  refine g_icmp_ge (pc := 150) hC (tgt := 179) (by decide) d_Mo_cut0_150 h (fun h => ?_) (fun h => ?_)
  · refine g_le (lv2 := [some (.ref (V.2.2.1 0 0)), some (.int x1), none, some (.int x3), some (.long x4), none, some (.int x6), none]) (⟨rfl, ⟨rfl, ⟨rfl, ⟨rfl, ⟨rfl, trivial⟩⟩⟩⟩⟩) ?_
    exact w_Mo_cut0_b179 hV hC k7 hk7 x1 x3 x4 x6 S h
  · refine g_aload_n (pc := 153) hC (i := 0) (x := (V.2.2.1 0 0)) rfl rfl d_Mo_cut0_153 ?_
    refine g_getA (pc := 154) hC fo_Mo_34 (ob_Mo hV) rfl d_Mo_cut0_154 ?_
    refine g_iload (pc := 157) hC (i := 7) (x := x7) rfl d_Mo_cut0_157 ?_
    refine g_lald (pc := 159) hC (ar_Mo_9 hV) d_Mo_cut0_159 h (fun h => ?_)
    refine g_lload (pc := 160) hC (i := 4) (x := x4) rfl d_Mo_cut0_160 ?_
    refine g_lcmp (pc := 162) hC d_Mo_cut0_162 ?_
    refine g_if_ne (pc := 163) hC (tgt := 173) (by decide) d_Mo_cut0_163 h (fun h => ?_) (fun h => ?_)
    · refine s_iinc (pc := 173) hC (i := 7) (x := x7) (v := x7 + 1) rfl (by rw [kc_1]) (by decide) d_Mo_cut0_173 (lv2 := [some (.ref (V.2.2.1 0 0)), some (.int x1), none, some (.int x3), some (.long x4), none, some (.int x6), some (.int (x7 + 1))]) rfl ?_
      refine g_goto (pc := 176) hC (tgt := 146) (by decide) d_Mo_cut0_176 ?_
      exact hk146 x1 x3 x4 x6 (x7 + 1) S h
    · refine g_bipush (pc := 166) hC kb_20 d_Mo_cut0_166 ?_
      refine g_iload (pc := 168) hC (i := 7) (x := x7) rfl d_Mo_cut0_168 ?_
      refine g_iadd (pc := 170) hC d_Mo_cut0_170 ?_
      refine g_leti h (fun y171 h => ?_)
      refine s_istore (pc := 171) hC (i := 6) (by decide) d_Mo_cut0_171 (lv2 := [some (.ref (V.2.2.1 0 0)), some (.int x1), none, some (.int x3), some (.long x4), none, some (.int y171), some (.int x7)]) rfl ?_
      refine s_iinc (pc := 173) hC (i := 7) (x := x7) (v := x7 + 1) rfl (by rw [kc_1]) (by decide) d_Mo_cut0_173 (lv2 := [some (.ref (V.2.2.1 0 0)), some (.int x1), none, some (.int x3), some (.long x4), none, some (.int y171), some (.int (x7 + 1))]) rfl ?_
      refine g_goto (pc := 176) hC (tgt := 146) (by decide) d_Mo_cut0_176 ?_
      exact hk146 x1 x3 x4 y171 (x7 + 1) S h
theorem w_Mo_cut0_l146 {X : CX} {V : WV} (hV : IsM V) {z : Mem} (hC : Ck X V bc_Mo_cut0 8 "SecretWellsModel" none 2 49) (k7 : Int32 → Mem → Option (Mem)) (hk7 : ∀ (x1 : Int32) (S : Mem), k7 x1 S = some z → G X V 8 (QV X V z) 7 [some (.ref (V.2.2.1 0 0)), some (.int x1), none, none, none, none, none, none] [] S) : ∀ (n : Nat) (x1 : Int32) (x3 : Int32) (x4 : Int64) (x6 : Int32) (x7 : Int32) (S : Mem), f_Mo_cut0_l146  k7 n x1 x3 x4 x6 x7 S = some z → G X V 8 (QV X V z) 146 [some (.ref (V.2.2.1 0 0)), some (.int x1), none, some (.int x3), some (.long x4), none, some (.int x6), some (.int x7)] [] S := by
  intro n
  induction n with
  | zero =>
    intro x1 x3 x4 x6 x7 S h
    have h : (none : Option (Mem)) = some z := h
    cases h
  | succ n ih =>
    intro x1 x3 x4 x6 x7 S h
    exact w_Mo_cut0_b146 hV hC k7 hk7 (f_Mo_cut0_l146  k7 n) ih x1 x3 x4 x6 x7 S h
set_option maxRecDepth 20000 in
theorem w_Mo_cut0_b135 {X : CX} {V : WV} (hV : IsM V) {z : Mem} (hC : Ck X V bc_Mo_cut0 8 "SecretWellsModel" none 2 49) (k7 : Int32 → Mem → Option (Mem)) (hk7 : ∀ (x1 : Int32) (S : Mem), k7 x1 S = some z → G X V 8 (QV X V z) 7 [some (.ref (V.2.2.1 0 0)), some (.int x1), none, none, none, none, none, none] [] S) (x1 : Int32) (x3 : Int32) (x4 : Int64) (s0 : Int32) (S : Mem) (h : f_Mo_cut0_b135  k7 x1 x3 x4 s0 S = some z) : G X V 8 (QV X V z) 135 [some (.ref (V.2.2.1 0 0)), some (.int x1), none, some (.int x3), some (.long x4), none, none, none] [.int s0] S := by
  unfold f_Mo_cut0_b135 at h
  refine s_istore (pc := 135) hC (i := 6) (by decide) d_Mo_cut0_135 (lv2 := [some (.ref (V.2.2.1 0 0)), some (.int x1), none, some (.int x3), some (.long x4), none, some (.int s0), none]) rfl ?_
  refine g_iload_n (pc := 137) hC (i := 3) (x := x3) rfl rfl d_Mo_cut0_137 ?_
  refine g_bipush (pc := 138) hC kb_7 d_Mo_cut0_138 ?_
  refine g_icmp_gt (pc := 140) hC (tgt := 179) (by decide) d_Mo_cut0_140 h (fun h => ?_) (fun h => ?_)
  · exact w_Mo_cut0_b179 hV hC k7 hk7 x1 x3 x4 s0 S h
  · refine g_iconst (pc := 143) hC kc_0 d_Mo_cut0_143 ?_
    refine s_istore (pc := 144) hC (i := 7) (by decide) d_Mo_cut0_144 (lv2 := [some (.ref (V.2.2.1 0 0)), some (.int x1), none, some (.int x3), some (.long x4), none, some (.int s0), some (.int 0)]) rfl ?_
    exact w_Mo_cut0_l146 hV hC k7 hk7 5000 x1 x3 x4 s0 0 S h
set_option maxRecDepth 20000 in
theorem w_Mo_cut0_b85 {X : CX} {V : WV} (hV : IsM V) {z : Mem} (hC : Ck X V bc_Mo_cut0 8 "SecretWellsModel" none 2 49) (k7 : Int32 → Mem → Option (Mem)) (hk7 : ∀ (x1 : Int32) (S : Mem), k7 x1 S = some z → G X V 8 (QV X V z) 7 [some (.ref (V.2.2.1 0 0)), some (.int x1), none, none, none, none, none, none] [] S) (k85 : Int32 → Int32 → Int64 → Mem → Option (Mem)) (hk85 : ∀ (x1 : Int32) (x3 : Int32) (x4 : Int64) (S : Mem), k85 x1 x3 x4 S = some z → G X V 8 (QV X V z) 85 [some (.ref (V.2.2.1 0 0)), some (.int x1), none, some (.int x3), some (.long x4), none, none, none] [] S) (x1 : Int32) (x3 : Int32) (x4 : Int64) (S : Mem) (h : f_Mo_cut0_b85  k7 k85 x1 x3 x4 S = some z) : G X V 8 (QV X V z) 85 [some (.ref (V.2.2.1 0 0)), some (.int x1), none, some (.int x3), some (.long x4), none, none, none] [] S := by
  unfold f_Mo_cut0_b85 at h
  refine g_aload_n (pc := 85) hC (i := 0) (x := (V.2.2.1 0 0)) rfl rfl d_Mo_cut0_85 ?_
  refine g_iload_n (pc := 86) hC (i := 1) (x := x1) rfl rfl d_Mo_cut0_86 ?_
  refine g_iload_n (pc := 87) hC (i := 3) (x := x3) rfl rfl d_Mo_cut0_87 ?_
  refine g_iadd (pc := 88) hC d_Mo_cut0_88 ?_
  obtain ⟨q89, hq89, h⟩ := Option.bind_eq_some_iff.mp h
  refine g_vi (pc := 89) hC (As := [.int (x1 + x3)]) (st := []) mt_Mo_byteAt lk_Mo_196 rfl (ob_Mo hV) (Nat.le_of_ble_eq_true rfl) ⟨Nat.le_of_ble_eq_true rfl, Nat.le_of_ble_eq_true rfl⟩ rfl d_Mo_cut0_89 (c_Mo_byteAt hV hq89) ?_
  obtain ⟨q92, hq92, h⟩ := Option.bind_eq_some_iff.mp h
  refine g_si (pc := 92) hC (As := [.int q89]) (st := []) mt_Mo_isLetter lk_Mo_204 (Nat.le_of_ble_eq_true rfl) ⟨Nat.le_of_ble_eq_true rfl, Nat.le_of_ble_eq_true rfl⟩ rfl d_Mo_cut0_92 (c_Mo_isLetter (IsM.ok hV) hq92) ?_
  refine g_if_eq (pc := 95) hC (tgt := 124) (by decide) d_Mo_cut0_95 h (fun h => ?_) (fun h => ?_)
  · refine g_iload_n (pc := 124) hC (i := 3) (x := x3) rfl rfl d_Mo_cut0_124 ?_
    refine g_bipush (pc := 125) hC kb_8 d_Mo_cut0_125 ?_
    refine g_icmp_le (pc := 127) hC (tgt := 134) (by decide) d_Mo_cut0_127 h (fun h => ?_) (fun h => ?_)
    · refine g_iconst (pc := 134) hC kc_1 d_Mo_cut0_134 ?_
      exact w_Mo_cut0_b135 hV hC k7 hk7 x1 x3 x4 1 S h
    · refine g_iconst (pc := 130) hC kc_3 d_Mo_cut0_130 ?_
      refine g_goto (pc := 131) hC (tgt := 135) (by decide) d_Mo_cut0_131 ?_
      exact w_Mo_cut0_b135 hV hC k7 hk7 x1 x3 x4 3 S h
  · refine g_iload_n (pc := 98) hC (i := 3) (x := x3) rfl rfl d_Mo_cut0_98 ?_
    refine g_bipush (pc := 99) hC kb_8 d_Mo_cut0_99 ?_
    refine g_icmp_ge (pc := 101) hC (tgt := 118) (by decide) d_Mo_cut0_101 h (fun h => ?_) (fun h => ?_)
    · refine s_iinc (pc := 118) hC (i := 3) (x := x3) (v := x3 + 1) rfl (by rw [kc_1]) (by decide) d_Mo_cut0_118 (lv2 := [some (.ref (V.2.2.1 0 0)), some (.int x1), none, some (.int (x3 + 1)), some (.long x4), none, none, none]) rfl ?_
      refine g_goto (pc := 121) hC (tgt := 85) (by decide) d_Mo_cut0_121 ?_
      exact hk85 x1 (x3 + 1) x4 S h
    · refine g_lload (pc := 104) hC (i := 4) (x := x4) rfl d_Mo_cut0_104 ?_
      refine g_aload_n (pc := 106) hC (i := 0) (x := (V.2.2.1 0 0)) rfl rfl d_Mo_cut0_106 ?_
      refine g_iload_n (pc := 107) hC (i := 1) (x := x1) rfl rfl d_Mo_cut0_107 ?_
      refine g_iload_n (pc := 108) hC (i := 3) (x := x3) rfl rfl d_Mo_cut0_108 ?_
      refine g_iadd (pc := 109) hC d_Mo_cut0_109 ?_
      obtain ⟨q110, hq110, h⟩ := Option.bind_eq_some_iff.mp h
      refine g_vi (pc := 110) hC (As := [.int (x1 + x3)]) (st := [.long x4]) mt_Mo_byteAt lk_Mo_196 rfl (ob_Mo hV) (Nat.le_of_ble_eq_true rfl) ⟨Nat.le_of_ble_eq_true rfl, Nat.le_of_ble_eq_true rfl⟩ rfl d_Mo_cut0_110 (c_Mo_byteAt hV hq110) ?_
      obtain ⟨q113, hq113, h⟩ := Option.bind_eq_some_iff.mp h
      refine g_sl (pc := 113) hC (As := [.long x4, .int q110]) (st := []) mt_Mo_appends lk_Mo_189 (Nat.le_of_ble_eq_true rfl) ⟨Nat.le_of_ble_eq_true rfl, Nat.le_of_ble_eq_true rfl⟩ rfl d_Mo_cut0_113 (c_Mo_appends (IsM.ok hV) hq113) ?_
      refine s_lstore (pc := 116) hC (i := 4) (by decide) d_Mo_cut0_116 (lv2 := [some (.ref (V.2.2.1 0 0)), some (.int x1), none, some (.int x3), some (.long q113), none, none, none]) rfl ?_
      refine s_iinc (pc := 118) hC (i := 3) (x := x3) (v := x3 + 1) rfl (by rw [kc_1]) (by decide) d_Mo_cut0_118 (lv2 := [some (.ref (V.2.2.1 0 0)), some (.int x1), none, some (.int (x3 + 1)), some (.long q113), none, none, none]) rfl ?_
      refine g_goto (pc := 121) hC (tgt := 85) (by decide) d_Mo_cut0_121 ?_
      exact hk85 x1 (x3 + 1) q113 S h
theorem w_Mo_cut0_l85 {X : CX} {V : WV} (hV : IsM V) {z : Mem} (hC : Ck X V bc_Mo_cut0 8 "SecretWellsModel" none 2 49) (k7 : Int32 → Mem → Option (Mem)) (hk7 : ∀ (x1 : Int32) (S : Mem), k7 x1 S = some z → G X V 8 (QV X V z) 7 [some (.ref (V.2.2.1 0 0)), some (.int x1), none, none, none, none, none, none] [] S) : ∀ (n : Nat) (x1 : Int32) (x3 : Int32) (x4 : Int64) (S : Mem), f_Mo_cut0_l85  k7 n x1 x3 x4 S = some z → G X V 8 (QV X V z) 85 [some (.ref (V.2.2.1 0 0)), some (.int x1), none, some (.int x3), some (.long x4), none, none, none] [] S := by
  intro n
  induction n with
  | zero =>
    intro x1 x3 x4 S h
    have h : (none : Option (Mem)) = some z := h
    cases h
  | succ n ih =>
    intro x1 x3 x4 S h
    exact w_Mo_cut0_b85 hV hC k7 hk7 (f_Mo_cut0_l85  k7 n) ih x1 x3 x4 S h
set_option maxRecDepth 20000 in
theorem w_Mo_cut0_b261 {X : CX} {V : WV} (hV : IsM V) {z : Mem} (hC : Ck X V bc_Mo_cut0 8 "SecretWellsModel" none 2 49) (k7 : Int32 → Mem → Option (Mem)) (hk7 : ∀ (x1 : Int32) (S : Mem), k7 x1 S = some z → G X V 8 (QV X V z) 7 [some (.ref (V.2.2.1 0 0)), some (.int x1), none, none, none, none, none, none] [] S) (x1 : Int32) (x3 : Int32) (x4 : Int32) (s0 : Int32) (S : Mem) (h : f_Mo_cut0_b261  k7 x1 x3 x4 s0 S = some z) : G X V 8 (QV X V z) 261 [some (.ref (V.2.2.1 0 0)), some (.int x1), none, some (.int x3), some (.int x4), none, none, none] [.int s0, .ref (V.2.2.1 0 0)] S := by
  unfold f_Mo_cut0_b261 at h
  refine g_iload_n (pc := 261) hC (i := 1) (x := x1) rfl rfl d_Mo_cut0_261 ?_
  refine g_iload (pc := 262) hC (i := 4) (x := x4) rfl d_Mo_cut0_262 ?_
  refine g_lconst (pc := 264) hC (v := 0) (by decide) d_Mo_cut0_264 ?_
  obtain ⟨q265, hq265, h⟩ := Option.bind_eq_some_iff.mp h
  refine g_vv (pc := 265) hC (As := [.int s0, .int x1, .int x4, .long 0]) (st := []) mt_Mo_token lk_Mo_200 rfl (ob_Mo hV) (Nat.le_of_ble_eq_true rfl) ⟨Nat.le_of_ble_eq_true rfl, Nat.le_of_ble_eq_true rfl⟩ rfl d_Mo_cut0_265 (c_Mo_token hV hq265) ?_
  refine g_iload_n (pc := 268) hC (i := 1) (x := x1) rfl rfl d_Mo_cut0_268 ?_
  refine g_iload_n (pc := 269) hC (i := 3) (x := x3) rfl rfl d_Mo_cut0_269 ?_
  refine g_iadd (pc := 270) hC d_Mo_cut0_270 ?_
  refine g_leti h (fun y271 h => ?_)
  refine s_istore_n (pc := 271) hC (i := 1) rfl (by decide) d_Mo_cut0_271 (lv2 := [some (.ref (V.2.2.1 0 0)), some (.int y271), none, some (.int x3), some (.int x4), none, none, none]) rfl ?_
  refine g_goto (pc := 272) hC (tgt := 291) (by decide) d_Mo_cut0_272 ?_
  refine g_goto (pc := 291) hC (tgt := 7) (by decide) d_Mo_cut0_291 ?_
  refine g_le (lv2 := [some (.ref (V.2.2.1 0 0)), some (.int y271), none, none, none, none, none, none]) (⟨rfl, ⟨rfl, trivial⟩⟩) ?_
  exact hk7 y271 q265 h
set_option maxRecDepth 20000 in
theorem w_Mo_cut0_b208 {X : CX} {V : WV} (hV : IsM V) {z : Mem} (hC : Ck X V bc_Mo_cut0 8 "SecretWellsModel" none 2 49) (k7 : Int32 → Mem → Option (Mem)) (hk7 : ∀ (x1 : Int32) (S : Mem), k7 x1 S = some z → G X V 8 (QV X V z) 7 [some (.ref (V.2.2.1 0 0)), some (.int x1), none, none, none, none, none, none] [] S) (k208 : Int32 → Int32 → Int32 → Mem → Option (Mem)) (hk208 : ∀ (x1 : Int32) (x3 : Int32) (x4 : Int32) (S : Mem), k208 x1 x3 x4 S = some z → G X V 8 (QV X V z) 208 [some (.ref (V.2.2.1 0 0)), some (.int x1), none, some (.int x3), some (.int x4), none, none, none] [] S) (x1 : Int32) (x3 : Int32) (x4 : Int32) (S : Mem) (h : f_Mo_cut0_b208  k7 k208 x1 x3 x4 S = some z) : G X V 8 (QV X V z) 208 [some (.ref (V.2.2.1 0 0)), some (.int x1), none, some (.int x3), some (.int x4), none, none, none] [] S := by
  unfold f_Mo_cut0_b208 at h
  refine g_aload_n (pc := 208) hC (i := 0) (x := (V.2.2.1 0 0)) rfl rfl d_Mo_cut0_208 ?_
  refine g_iload_n (pc := 209) hC (i := 1) (x := x1) rfl rfl d_Mo_cut0_209 ?_
  refine g_iload_n (pc := 210) hC (i := 3) (x := x3) rfl rfl d_Mo_cut0_210 ?_
  refine g_iadd (pc := 211) hC d_Mo_cut0_211 ?_
  obtain ⟨q212, hq212, h⟩ := Option.bind_eq_some_iff.mp h
  refine g_vi (pc := 212) hC (As := [.int (x1 + x3)]) (st := []) mt_Mo_byteAt lk_Mo_196 rfl (ob_Mo hV) (Nat.le_of_ble_eq_true rfl) ⟨Nat.le_of_ble_eq_true rfl, Nat.le_of_ble_eq_true rfl⟩ rfl d_Mo_cut0_212 (c_Mo_byteAt hV hq212) ?_
  obtain ⟨q215, hq215, h⟩ := Option.bind_eq_some_iff.mp h
  refine g_si (pc := 215) hC (As := [.int q212]) (st := []) mt_Mo_isDigit lk_Mo_208 (Nat.le_of_ble_eq_true rfl) ⟨Nat.le_of_ble_eq_true rfl, Nat.le_of_ble_eq_true rfl⟩ rfl d_Mo_cut0_215 (c_Mo_isDigit (IsM.ok hV) hq215) ?_
  refine g_if_eq (pc := 218) hC (tgt := 250) (by decide) d_Mo_cut0_218 h (fun h => ?_) (fun h => ?_)
  · refine g_aload_n (pc := 250) hC (i := 0) (x := (V.2.2.1 0 0)) rfl rfl d_Mo_cut0_250 ?_
    refine g_iload_n (pc := 251) hC (i := 3) (x := x3) rfl rfl d_Mo_cut0_251 ?_
    refine g_iconst (pc := 252) hC kc_4 d_Mo_cut0_252 ?_
    refine g_icmp_le (pc := 253) hC (tgt := 260) (by decide) d_Mo_cut0_253 h (fun h => ?_) (fun h => ?_)
    · refine g_iconst (pc := 260) hC kc_2 d_Mo_cut0_260 ?_
      exact w_Mo_cut0_b261 hV hC k7 hk7 x1 x3 x4 2 S h
    · refine g_iconst (pc := 256) hC kc_3 d_Mo_cut0_256 ?_
      refine g_goto (pc := 257) hC (tgt := 261) (by decide) d_Mo_cut0_257 ?_
      exact w_Mo_cut0_b261 hV hC k7 hk7 x1 x3 x4 3 S h
  · refine g_iload_n (pc := 221) hC (i := 3) (x := x3) rfl rfl d_Mo_cut0_221 ?_
    refine g_iconst (pc := 222) hC kc_4 d_Mo_cut0_222 ?_
    refine g_icmp_ge (pc := 223) hC (tgt := 244) (by decide) d_Mo_cut0_223 h (fun h => ?_) (fun h => ?_)
    · refine s_iinc (pc := 244) hC (i := 3) (x := x3) (v := x3 + 1) rfl (by rw [kc_1]) (by decide) d_Mo_cut0_244 (lv2 := [some (.ref (V.2.2.1 0 0)), some (.int x1), none, some (.int (x3 + 1)), some (.int x4), none, none, none]) rfl ?_
      refine g_goto (pc := 247) hC (tgt := 208) (by decide) d_Mo_cut0_247 ?_
      exact hk208 x1 (x3 + 1) x4 S h
    · refine g_bipush (pc := 226) hC kb_10 d_Mo_cut0_226 ?_
      refine g_iload (pc := 228) hC (i := 4) (x := x4) rfl d_Mo_cut0_228 ?_
      refine g_imul (pc := 230) hC d_Mo_cut0_230 ?_
      refine g_aload_n (pc := 231) hC (i := 0) (x := (V.2.2.1 0 0)) rfl rfl d_Mo_cut0_231 ?_
      refine g_iload_n (pc := 232) hC (i := 1) (x := x1) rfl rfl d_Mo_cut0_232 ?_
      refine g_iload_n (pc := 233) hC (i := 3) (x := x3) rfl rfl d_Mo_cut0_233 ?_
      refine g_iadd (pc := 234) hC d_Mo_cut0_234 ?_
      obtain ⟨q235, hq235, h⟩ := Option.bind_eq_some_iff.mp h
      refine g_vi (pc := 235) hC (As := [.int (x1 + x3)]) (st := [.int (10 * x4)]) mt_Mo_byteAt lk_Mo_196 rfl (ob_Mo hV) (Nat.le_of_ble_eq_true rfl) ⟨Nat.le_of_ble_eq_true rfl, Nat.le_of_ble_eq_true rfl⟩ rfl d_Mo_cut0_235 (c_Mo_byteAt hV hq235) ?_
      refine g_iadd (pc := 238) hC d_Mo_cut0_238 ?_
      refine g_bipush (pc := 239) hC kb_48 d_Mo_cut0_239 ?_
      refine g_isub (pc := 241) hC d_Mo_cut0_241 ?_
      refine g_leti h (fun y242 h => ?_)
      refine s_istore (pc := 242) hC (i := 4) (by decide) d_Mo_cut0_242 (lv2 := [some (.ref (V.2.2.1 0 0)), some (.int x1), none, some (.int x3), some (.int y242), none, none, none]) rfl ?_
      refine s_iinc (pc := 244) hC (i := 3) (x := x3) (v := x3 + 1) rfl (by rw [kc_1]) (by decide) d_Mo_cut0_244 (lv2 := [some (.ref (V.2.2.1 0 0)), some (.int x1), none, some (.int (x3 + 1)), some (.int y242), none, none, none]) rfl ?_
      refine g_goto (pc := 247) hC (tgt := 208) (by decide) d_Mo_cut0_247 ?_
      exact hk208 x1 (x3 + 1) y242 S h
theorem w_Mo_cut0_l208 {X : CX} {V : WV} (hV : IsM V) {z : Mem} (hC : Ck X V bc_Mo_cut0 8 "SecretWellsModel" none 2 49) (k7 : Int32 → Mem → Option (Mem)) (hk7 : ∀ (x1 : Int32) (S : Mem), k7 x1 S = some z → G X V 8 (QV X V z) 7 [some (.ref (V.2.2.1 0 0)), some (.int x1), none, none, none, none, none, none] [] S) : ∀ (n : Nat) (x1 : Int32) (x3 : Int32) (x4 : Int32) (S : Mem), f_Mo_cut0_l208  k7 n x1 x3 x4 S = some z → G X V 8 (QV X V z) 208 [some (.ref (V.2.2.1 0 0)), some (.int x1), none, some (.int x3), some (.int x4), none, none, none] [] S := by
  intro n
  induction n with
  | zero =>
    intro x1 x3 x4 S h
    have h : (none : Option (Mem)) = some z := h
    cases h
  | succ n ih =>
    intro x1 x3 x4 S h
    exact w_Mo_cut0_b208 hV hC k7 hk7 (f_Mo_cut0_l208  k7 n) ih x1 x3 x4 S h
set_option maxRecDepth 20000 in
theorem w_Mo_cut0_b7 {X : CX} {V : WV} (hV : IsM V) {z : Mem} (hC : Ck X V bc_Mo_cut0 8 "SecretWellsModel" none 2 49) (k7 : Int32 → Mem → Option (Mem)) (hk7 : ∀ (x1 : Int32) (S : Mem), k7 x1 S = some z → G X V 8 (QV X V z) 7 [some (.ref (V.2.2.1 0 0)), some (.int x1), none, none, none, none, none, none] [] S) (x1 : Int32) (S : Mem) (h : f_Mo_cut0_b7  k7 x1 S = some z) : G X V 8 (QV X V z) 7 [some (.ref (V.2.2.1 0 0)), some (.int x1), none, none, none, none, none, none] [] S := by
  unfold f_Mo_cut0_b7 at h
  refine g_aload_n (pc := 7) hC (i := 0) (x := (V.2.2.1 0 0)) rfl rfl d_Mo_cut0_7 ?_
  refine g_getI (pc := 8) hC fo_Mo_193 (ob_Mo hV) rfl d_Mo_cut0_8 ?_
  refine g_sipush (pc := 11) hC ks_400 d_Mo_cut0_11 ?_
  refine g_icmp_gt (pc := 14) hC (tgt := 294) (by decide) d_Mo_cut0_14 h (fun h => ?_) (fun h => ?_)
  · exact g_vW (pc := 294) hC d_Mo_cut0_294 h
  · refine g_aload_n (pc := 17) hC (i := 0) (x := (V.2.2.1 0 0)) rfl rfl d_Mo_cut0_17 ?_
    refine g_iload_n (pc := 18) hC (i := 1) (x := x1) rfl rfl d_Mo_cut0_18 ?_
    obtain ⟨q19, hq19, h⟩ := Option.bind_eq_some_iff.mp h
    refine g_vi (pc := 19) hC (As := [.int x1]) (st := []) mt_Mo_byteAt lk_Mo_196 rfl (ob_Mo hV) (Nat.le_of_ble_eq_true rfl) ⟨Nat.le_of_ble_eq_true rfl, Nat.le_of_ble_eq_true rfl⟩ rfl d_Mo_cut0_19 (c_Mo_byteAt hV hq19) ?_
    refine s_istore_n (pc := 22) hC (i := 2) rfl (by decide) d_Mo_cut0_22 (lv2 := [some (.ref (V.2.2.1 0 0)), some (.int x1), some (.int q19), none, none, none, none, none]) rfl ?_
    refine g_iload_n (pc := 23) hC (i := 1) (x := x1) rfl rfl d_Mo_cut0_23 ?_
    refine g_aload_n (pc := 24) hC (i := 0) (x := (V.2.2.1 0 0)) rfl rfl d_Mo_cut0_24 ?_
    refine g_getI (pc := 25) hC fo_Mo_184 (ob_Mo hV) rfl d_Mo_cut0_25 ?_
    refine g_icmp_lt (pc := 28) hC (tgt := 43) (by decide) d_Mo_cut0_28 h (fun h => ?_) (fun h => ?_)
    · refine g_iload_n (pc := 43) hC (i := 2) (x := q19) rfl rfl d_Mo_cut0_43 ?_
      refine g_bipush (pc := 44) hC kb_9 d_Mo_cut0_44 ?_
      refine g_icmp_eq (pc := 46) hC (tgt := 67) (by decide) d_Mo_cut0_46 h (fun h => ?_) (fun h => ?_)
      · refine s_iinc (pc := 67) hC (i := 1) (x := x1) (v := x1 + 1) rfl (by rw [kc_1]) (by decide) d_Mo_cut0_67 (lv2 := [some (.ref (V.2.2.1 0 0)), some (.int (x1 + 1)), some (.int q19), none, none, none, none, none]) rfl ?_
        refine g_goto (pc := 70) hC (tgt := 291) (by decide) d_Mo_cut0_70 ?_
        refine g_goto (pc := 291) hC (tgt := 7) (by decide) d_Mo_cut0_291 ?_
        refine g_le (lv2 := [some (.ref (V.2.2.1 0 0)), some (.int (x1 + 1)), none, none, none, none, none, none]) (⟨rfl, ⟨rfl, trivial⟩⟩) ?_
        exact hk7 (x1 + 1) S h
      · refine g_iload_n (pc := 49) hC (i := 2) (x := q19) rfl rfl d_Mo_cut0_49 ?_
        refine g_bipush (pc := 50) hC kb_10 d_Mo_cut0_50 ?_
        refine g_icmp_eq (pc := 52) hC (tgt := 67) (by decide) d_Mo_cut0_52 h (fun h => ?_) (fun h => ?_)
        · refine s_iinc (pc := 67) hC (i := 1) (x := x1) (v := x1 + 1) rfl (by rw [kc_1]) (by decide) d_Mo_cut0_67 (lv2 := [some (.ref (V.2.2.1 0 0)), some (.int (x1 + 1)), some (.int q19), none, none, none, none, none]) rfl ?_
          refine g_goto (pc := 70) hC (tgt := 291) (by decide) d_Mo_cut0_70 ?_
          refine g_goto (pc := 291) hC (tgt := 7) (by decide) d_Mo_cut0_291 ?_
          refine g_le (lv2 := [some (.ref (V.2.2.1 0 0)), some (.int (x1 + 1)), none, none, none, none, none, none]) (⟨rfl, ⟨rfl, trivial⟩⟩) ?_
          exact hk7 (x1 + 1) S h
        · refine g_iload_n (pc := 55) hC (i := 2) (x := q19) rfl rfl d_Mo_cut0_55 ?_
          refine g_bipush (pc := 56) hC kb_13 d_Mo_cut0_56 ?_
          refine g_icmp_eq (pc := 58) hC (tgt := 67) (by decide) d_Mo_cut0_58 h (fun h => ?_) (fun h => ?_)
          · refine s_iinc (pc := 67) hC (i := 1) (x := x1) (v := x1 + 1) rfl (by rw [kc_1]) (by decide) d_Mo_cut0_67 (lv2 := [some (.ref (V.2.2.1 0 0)), some (.int (x1 + 1)), some (.int q19), none, none, none, none, none]) rfl ?_
            refine g_goto (pc := 70) hC (tgt := 291) (by decide) d_Mo_cut0_70 ?_
            refine g_goto (pc := 291) hC (tgt := 7) (by decide) d_Mo_cut0_291 ?_
            refine g_le (lv2 := [some (.ref (V.2.2.1 0 0)), some (.int (x1 + 1)), none, none, none, none, none, none]) (⟨rfl, ⟨rfl, trivial⟩⟩) ?_
            exact hk7 (x1 + 1) S h
          · refine g_iload_n (pc := 61) hC (i := 2) (x := q19) rfl rfl d_Mo_cut0_61 ?_
            refine g_bipush (pc := 62) hC kb_32 d_Mo_cut0_62 ?_
            refine g_icmp_ne (pc := 64) hC (tgt := 73) (by decide) d_Mo_cut0_64 h (fun h => ?_) (fun h => ?_)
            · refine g_iload_n (pc := 73) hC (i := 2) (x := q19) rfl rfl d_Mo_cut0_73 ?_
              obtain ⟨q74, hq74, h⟩ := Option.bind_eq_some_iff.mp h
              refine g_si (pc := 74) hC (As := [.int q19]) (st := []) mt_Mo_isLetter lk_Mo_204 (Nat.le_of_ble_eq_true rfl) ⟨Nat.le_of_ble_eq_true rfl, Nat.le_of_ble_eq_true rfl⟩ rfl d_Mo_cut0_74 (c_Mo_isLetter (IsM.ok hV) hq74) ?_
              refine g_if_eq (pc := 77) hC (tgt := 196) (by decide) d_Mo_cut0_77 h (fun h => ?_) (fun h => ?_)
              · refine g_iload_n (pc := 196) hC (i := 2) (x := q19) rfl rfl d_Mo_cut0_196 ?_
                obtain ⟨q197, hq197, h⟩ := Option.bind_eq_some_iff.mp h
                refine g_si (pc := 197) hC (As := [.int q19]) (st := []) mt_Mo_isDigit lk_Mo_208 (Nat.le_of_ble_eq_true rfl) ⟨Nat.le_of_ble_eq_true rfl, Nat.le_of_ble_eq_true rfl⟩ rfl d_Mo_cut0_197 (c_Mo_isDigit (IsM.ok hV) hq197) ?_
                refine g_if_eq (pc := 200) hC (tgt := 275) (by decide) d_Mo_cut0_200 h (fun h => ?_) (fun h => ?_)
                · refine g_iload_n (pc := 275) hC (i := 1) (x := x1) rfl rfl d_Mo_cut0_275 ?_
                  refine g_aload_n (pc := 276) hC (i := 0) (x := (V.2.2.1 0 0)) rfl rfl d_Mo_cut0_276 ?_
                  refine g_iload_n (pc := 277) hC (i := 1) (x := x1) rfl rfl d_Mo_cut0_277 ?_
                  refine g_iload_n (pc := 278) hC (i := 2) (x := q19) rfl rfl d_Mo_cut0_278 ?_
                  refine g_aload_n (pc := 279) hC (i := 0) (x := (V.2.2.1 0 0)) rfl rfl d_Mo_cut0_279 ?_
                  refine g_iload_n (pc := 280) hC (i := 1) (x := x1) rfl rfl d_Mo_cut0_280 ?_
                  refine g_iconst (pc := 281) hC kc_1 d_Mo_cut0_281 ?_
                  refine g_iadd (pc := 282) hC d_Mo_cut0_282 ?_
                  obtain ⟨q283, hq283, h⟩ := Option.bind_eq_some_iff.mp h
                  refine g_vi (pc := 283) hC (As := [.int (x1 + 1)]) (st := [.int q19, .int x1, .ref (V.2.2.1 0 0), .int x1]) mt_Mo_byteAt lk_Mo_196 rfl (ob_Mo hV) (Nat.le_of_ble_eq_true rfl) ⟨Nat.le_of_ble_eq_true rfl, Nat.le_of_ble_eq_true rfl⟩ rfl d_Mo_cut0_283 (c_Mo_byteAt hV hq283) ?_
                  obtain ⟨q286, hq286, h⟩ := Option.bind_eq_some_iff.mp h
                  refine g_vi (pc := 286) hC (As := [.int x1, .int q19, .int q283]) (st := [.int x1]) mt_Mo_sign lk_Mo_211 rfl (ob_Mo hV) (Nat.le_of_ble_eq_true rfl) ⟨Nat.le_of_ble_eq_true rfl, Nat.le_of_ble_eq_true rfl⟩ rfl d_Mo_cut0_286 (c_Mo_sign hV hq286) ?_
                  refine g_iadd (pc := 289) hC d_Mo_cut0_289 ?_
                  refine g_leti h (fun y290 h => ?_)
                  refine s_istore_n (pc := 290) hC (i := 1) rfl (by decide) d_Mo_cut0_290 (lv2 := [some (.ref (V.2.2.1 0 0)), some (.int y290), some (.int q19), none, none, none, none, none]) rfl ?_
                  refine g_goto (pc := 291) hC (tgt := 7) (by decide) d_Mo_cut0_291 ?_
                  refine g_le (lv2 := [some (.ref (V.2.2.1 0 0)), some (.int y290), none, none, none, none, none, none]) (⟨rfl, ⟨rfl, trivial⟩⟩) ?_
                  exact hk7 y290 q286.2 h
                · refine g_iconst (pc := 203) hC kc_0 d_Mo_cut0_203 ?_
                  refine s_istore_n (pc := 204) hC (i := 3) rfl (by decide) d_Mo_cut0_204 (lv2 := [some (.ref (V.2.2.1 0 0)), some (.int x1), some (.int q19), some (.int 0), none, none, none, none]) rfl ?_
                  refine g_iconst (pc := 205) hC kc_0 d_Mo_cut0_205 ?_
                  refine s_istore (pc := 206) hC (i := 4) (by decide) d_Mo_cut0_206 (lv2 := [some (.ref (V.2.2.1 0 0)), some (.int x1), some (.int q19), some (.int 0), some (.int 0), none, none, none]) rfl ?_
                  refine g_le (lv2 := [some (.ref (V.2.2.1 0 0)), some (.int x1), none, some (.int 0), some (.int 0), none, none, none]) (⟨rfl, ⟨rfl, ⟨rfl, ⟨rfl, trivial⟩⟩⟩⟩) ?_
                  exact w_Mo_cut0_l208 hV hC k7 hk7 5000 x1 0 0 S h
              · refine g_iconst (pc := 80) hC kc_0 d_Mo_cut0_80 ?_
                refine s_istore_n (pc := 81) hC (i := 3) rfl (by decide) d_Mo_cut0_81 (lv2 := [some (.ref (V.2.2.1 0 0)), some (.int x1), some (.int q19), some (.int 0), none, none, none, none]) rfl ?_
                refine g_lconst (pc := 82) hC (v := 0) (by decide) d_Mo_cut0_82 ?_
                refine s_lstore (pc := 83) hC (i := 4) (by decide) d_Mo_cut0_83 (lv2 := [some (.ref (V.2.2.1 0 0)), some (.int x1), some (.int q19), some (.int 0), some (.long 0), none, none, none]) rfl ?_
                refine g_le (lv2 := [some (.ref (V.2.2.1 0 0)), some (.int x1), none, some (.int 0), some (.long 0), none, none, none]) (⟨rfl, ⟨rfl, ⟨rfl, ⟨rfl, trivial⟩⟩⟩⟩) ?_
                exact w_Mo_cut0_l85 hV hC k7 hk7 5000 x1 0 0 S h
            · refine s_iinc (pc := 67) hC (i := 1) (x := x1) (v := x1 + 1) rfl (by rw [kc_1]) (by decide) d_Mo_cut0_67 (lv2 := [some (.ref (V.2.2.1 0 0)), some (.int (x1 + 1)), some (.int q19), none, none, none, none, none]) rfl ?_
              refine g_goto (pc := 70) hC (tgt := 291) (by decide) d_Mo_cut0_70 ?_
              refine g_goto (pc := 291) hC (tgt := 7) (by decide) d_Mo_cut0_291 ?_
              refine g_le (lv2 := [some (.ref (V.2.2.1 0 0)), some (.int (x1 + 1)), none, none, none, none, none, none]) (⟨rfl, ⟨rfl, trivial⟩⟩) ?_
              exact hk7 (x1 + 1) S h
    · refine g_aload_n (pc := 31) hC (i := 0) (x := (V.2.2.1 0 0)) rfl rfl d_Mo_cut0_31 ?_
      refine g_iconst (pc := 32) hC kc_0 d_Mo_cut0_32 ?_
      refine g_aload_n (pc := 33) hC (i := 0) (x := (V.2.2.1 0 0)) rfl rfl d_Mo_cut0_33 ?_
      refine g_getI (pc := 34) hC fo_Mo_184 (ob_Mo hV) rfl d_Mo_cut0_34 ?_
      refine g_iconst (pc := 37) hC kc_0 d_Mo_cut0_37 ?_
      refine g_lconst (pc := 38) hC (v := 0) (by decide) d_Mo_cut0_38 ?_
      obtain ⟨q39, hq39, h⟩ := Option.bind_eq_some_iff.mp h
      refine g_vv (pc := 39) hC (As := [.int 0, .int (S.1 0 4), .int 0, .long 0]) (st := []) mt_Mo_token lk_Mo_200 rfl (ob_Mo hV) (Nat.le_of_ble_eq_true rfl) ⟨Nat.le_of_ble_eq_true rfl, Nat.le_of_ble_eq_true rfl⟩ rfl d_Mo_cut0_39 (c_Mo_token hV hq39) ?_
      exact g_vW (pc := 42) hC d_Mo_cut0_42 h
theorem w_Mo_cut0_l7 {X : CX} {V : WV} (hV : IsM V) {z : Mem} (hC : Ck X V bc_Mo_cut0 8 "SecretWellsModel" none 2 49) : ∀ (n : Nat) (x1 : Int32) (S : Mem), f_Mo_cut0_l7  n x1 S = some z → G X V 8 (QV X V z) 7 [some (.ref (V.2.2.1 0 0)), some (.int x1), none, none, none, none, none, none] [] S := by
  intro n
  induction n with
  | zero =>
    intro x1 S h
    have h : (none : Option (Mem)) = some z := h
    cases h
  | succ n ih =>
    intro x1 S h
    exact w_Mo_cut0_b7 hV hC (f_Mo_cut0_l7  n) ih x1 S h
set_option maxRecDepth 20000 in
theorem w_Mo_cut0_b0 {X : CX} {V : WV} (hV : IsM V) {z : Mem} (hC : Ck X V bc_Mo_cut0 8 "SecretWellsModel" none 2 49) (S : Mem) (h : f_Mo_cut0_b0  S = some z) : G X V 8 (QV X V z) 0 [some (.ref (V.2.2.1 0 0)), none, none, none, none, none, none, none] [] S := by
  unfold f_Mo_cut0_b0 at h
  refine g_aload_n (pc := 0) hC (i := 0) (x := (V.2.2.1 0 0)) rfl rfl d_Mo_cut0_0 ?_
  refine g_iconst (pc := 1) hC kc_0 d_Mo_cut0_1 ?_
  refine g_putI (pc := 2) hC po_Mo_193 (ob_Mo hV) rfl rfl rfl d_Mo_cut0_2 ?_
  refine g_letS h (fun S2 h => ?_)
  refine g_iconst (pc := 5) hC kc_0 d_Mo_cut0_5 ?_
  refine s_istore_n (pc := 6) hC (i := 1) rfl (by decide) d_Mo_cut0_6 (lv2 := [some (.ref (V.2.2.1 0 0)), some (.int 0), none, none, none, none, none, none]) rfl ?_
  exact w_Mo_cut0_l7 hV hC 5000 0 S2 h
theorem c_Mo_cut0 {V : WV} {l : Launch} (hV : IsM V) {S : Mem} {z : Mem} (h : f_Mo_cut0 S = some z) : CV V l y_Mo_cut0 bc_Mo_cut0 8 none 2 49 [.ref (V.2.2.1 0 0)] S z :=
  ct_v rfl (IsM.ok hV) (Nat.le_of_ble_eq_true rfl) (fun _ _ hC => w_Mo_cut0_b0 hV hC S h)
def f_Mo_is_b0 (S : Mem) (x1 : Int32) : Option (Int32) :=
  if (S.1 0 13) = 0 then
    gIn (S.1 0 11) 403 (
    if (S.2.1 0 5 (S.1 0 11).toNatClampNeg) = x1 then
      some 1
    else
      some 0)
  else
    some 0
def f_Mo_is (x1 : Int32) (S : Mem) : Option (Int32) := f_Mo_is_b0 S x1
theorem d_Mo_is_0 : decode bc_Mo_is 0 = .ok (.aload_n 0, 1) := by decide +kernel
theorem d_Mo_is_1 : decode bc_Mo_is 1 = .ok (.getfield 215, 3) := by decide +kernel
theorem d_Mo_is_4 : decode bc_Mo_is 4 = .ok (.ifCond .ne 20, 3) := by decide +kernel
theorem d_Mo_is_7 : decode bc_Mo_is 7 = .ok (.aload_n 0, 1) := by decide +kernel
theorem d_Mo_is_8 : decode bc_Mo_is 8 = .ok (.getfield 20, 3) := by decide +kernel
theorem d_Mo_is_11 : decode bc_Mo_is 11 = .ok (.aload_n 0, 1) := by decide +kernel
theorem d_Mo_is_12 : decode bc_Mo_is 12 = .ok (.getfield 218, 3) := by decide +kernel
theorem d_Mo_is_15 : decode bc_Mo_is 15 = .ok (.iaload, 1) := by decide +kernel
theorem d_Mo_is_16 : decode bc_Mo_is 16 = .ok (.iload_n 1, 1) := by decide +kernel
theorem d_Mo_is_17 : decode bc_Mo_is 17 = .ok (.if_icmp .ne 7, 3) := by decide +kernel
theorem d_Mo_is_20 : decode bc_Mo_is 20 = .ok (.iconst 1, 1) := by decide +kernel
theorem d_Mo_is_21 : decode bc_Mo_is 21 = .ok (.goto 4, 3) := by decide +kernel
theorem d_Mo_is_24 : decode bc_Mo_is 24 = .ok (.iconst 0, 1) := by decide +kernel
theorem d_Mo_is_25 : decode bc_Mo_is 25 = .ok (.ireturn, 1) := by decide +kernel
set_option maxRecDepth 20000 in
theorem w_Mo_is_b0 {X : CX} {V : WV} (hV : IsM V) {S : Mem} {z : Int32} (hC : Ck X V bc_Mo_is 2 "SecretWellsModel" (some .boolean) 0 0) (x1 : Int32) (h : f_Mo_is_b0 S x1 = some z) : G X V 2 (QI X V z S) 0 [some (.ref (V.2.2.1 0 0)), some (.int x1)] [] S := by
  unfold f_Mo_is_b0 at h
  refine g_aload_n (pc := 0) hC (i := 0) (x := (V.2.2.1 0 0)) rfl rfl d_Mo_is_0 ?_
  refine g_getI (pc := 1) hC fo_Mo_215 (ob_Mo hV) rfl d_Mo_is_1 ?_
  refine g_if_ne (pc := 4) hC (tgt := 24) (by decide) d_Mo_is_4 h (fun h => ?_) (fun h => ?_)
  · refine g_iconst (pc := 24) hC kc_0 d_Mo_is_24 ?_
    exact g_iN (pc := 25) hC rfl d_Mo_is_25 h
  · refine g_aload_n (pc := 7) hC (i := 0) (x := (V.2.2.1 0 0)) rfl rfl d_Mo_is_7 ?_
    refine g_getA (pc := 8) hC fo_Mo_20 (ob_Mo hV) rfl d_Mo_is_8 ?_
    refine g_aload_n (pc := 11) hC (i := 0) (x := (V.2.2.1 0 0)) rfl rfl d_Mo_is_11 ?_
    refine g_getI (pc := 12) hC fo_Mo_218 (ob_Mo hV) rfl d_Mo_is_12 ?_
    refine g_iald (pc := 15) hC (ar_Mo_5 hV) d_Mo_is_15 h (fun h => ?_)
    refine g_iload_n (pc := 16) hC (i := 1) (x := x1) rfl rfl d_Mo_is_16 ?_
    refine g_icmp_ne (pc := 17) hC (tgt := 24) (by decide) d_Mo_is_17 h (fun h => ?_) (fun h => ?_)
    · refine g_iconst (pc := 24) hC kc_0 d_Mo_is_24 ?_
      exact g_iN (pc := 25) hC rfl d_Mo_is_25 h
    · refine g_iconst (pc := 20) hC kc_1 d_Mo_is_20 ?_
      refine g_goto (pc := 21) hC (tgt := 25) (by decide) d_Mo_is_21 ?_
      exact g_iN (pc := 25) hC rfl d_Mo_is_25 h
theorem c_Mo_is {V : WV} {l : Launch} (hV : IsM V) {x1 : Int32} {S : Mem} {z : Int32} (h : f_Mo_is x1 S = some z) : CI V l y_Mo_is bc_Mo_is 2 (some .boolean) 0 0 [.ref (V.2.2.1 0 0), .int x1] S z S :=
  ct_i rfl (IsM.ok hV) (Nat.le_of_ble_eq_true rfl) (fun _ _ hC => w_Mo_is_b0 hV hC x1 h)
def f_Mo_fail_b0 (x1 : Int32) (S : Mem) : Option (Mem) :=
  if (S.1 0 13) ≤ 0 then
    letS (pI S 0 13 x1) (fun S10 =>
    gIn (S10.1 0 11) 403 (
    letS (pI S10 0 14 (S10.2.1 0 6 (S10.1 0 11).toNatClampNeg)) (fun S23 =>
    some S23)))
  else
    some S
def f_Mo_fail (x1 : Int32) (S : Mem) : Option (Mem) := f_Mo_fail_b0  x1 S
theorem d_Mo_fail_0 : decode bc_Mo_fail 0 = .ok (.aload_n 0, 1) := by decide +kernel
theorem d_Mo_fail_1 : decode bc_Mo_fail 1 = .ok (.getfield 215, 3) := by decide +kernel
theorem d_Mo_fail_4 : decode bc_Mo_fail 4 = .ok (.ifCond .le 4, 3) := by decide +kernel
theorem d_Mo_fail_7 : decode bc_Mo_fail 7 = .ok (.return_, 1) := by decide +kernel
theorem d_Mo_fail_8 : decode bc_Mo_fail 8 = .ok (.aload_n 0, 1) := by decide +kernel
theorem d_Mo_fail_9 : decode bc_Mo_fail 9 = .ok (.iload_n 1, 1) := by decide +kernel
theorem d_Mo_fail_10 : decode bc_Mo_fail 10 = .ok (.putfield 215, 3) := by decide +kernel
theorem d_Mo_fail_13 : decode bc_Mo_fail 13 = .ok (.aload_n 0, 1) := by decide +kernel
theorem d_Mo_fail_14 : decode bc_Mo_fail 14 = .ok (.aload_n 0, 1) := by decide +kernel
theorem d_Mo_fail_15 : decode bc_Mo_fail 15 = .ok (.getfield 24, 3) := by decide +kernel
theorem d_Mo_fail_18 : decode bc_Mo_fail 18 = .ok (.aload_n 0, 1) := by decide +kernel
theorem d_Mo_fail_19 : decode bc_Mo_fail 19 = .ok (.getfield 218, 3) := by decide +kernel
theorem d_Mo_fail_22 : decode bc_Mo_fail 22 = .ok (.iaload, 1) := by decide +kernel
theorem d_Mo_fail_23 : decode bc_Mo_fail 23 = .ok (.putfield 221, 3) := by decide +kernel
theorem d_Mo_fail_26 : decode bc_Mo_fail 26 = .ok (.return_, 1) := by decide +kernel
set_option maxRecDepth 20000 in
theorem w_Mo_fail_b0 {X : CX} {V : WV} (hV : IsM V) {z : Mem} (hC : Ck X V bc_Mo_fail 2 "SecretWellsModel" none 0 0) (x1 : Int32) (S : Mem) (h : f_Mo_fail_b0  x1 S = some z) : G X V 2 (QV X V z) 0 [some (.ref (V.2.2.1 0 0)), some (.int x1)] [] S := by
  unfold f_Mo_fail_b0 at h
  refine g_aload_n (pc := 0) hC (i := 0) (x := (V.2.2.1 0 0)) rfl rfl d_Mo_fail_0 ?_
  refine g_getI (pc := 1) hC fo_Mo_215 (ob_Mo hV) rfl d_Mo_fail_1 ?_
  refine g_if_le (pc := 4) hC (tgt := 8) (by decide) d_Mo_fail_4 h (fun h => ?_) (fun h => ?_)
  · refine g_aload_n (pc := 8) hC (i := 0) (x := (V.2.2.1 0 0)) rfl rfl d_Mo_fail_8 ?_
    refine g_iload_n (pc := 9) hC (i := 1) (x := x1) rfl rfl d_Mo_fail_9 ?_
    refine g_putI (pc := 10) hC po_Mo_215 (ob_Mo hV) rfl rfl rfl d_Mo_fail_10 ?_
    refine g_letS h (fun S10 h => ?_)
    refine g_aload_n (pc := 13) hC (i := 0) (x := (V.2.2.1 0 0)) rfl rfl d_Mo_fail_13 ?_
    refine g_aload_n (pc := 14) hC (i := 0) (x := (V.2.2.1 0 0)) rfl rfl d_Mo_fail_14 ?_
    refine g_getA (pc := 15) hC fo_Mo_24 (ob_Mo hV) rfl d_Mo_fail_15 ?_
    refine g_aload_n (pc := 18) hC (i := 0) (x := (V.2.2.1 0 0)) rfl rfl d_Mo_fail_18 ?_
    refine g_getI (pc := 19) hC fo_Mo_218 (ob_Mo hV) rfl d_Mo_fail_19 ?_
    refine g_iald (pc := 22) hC (ar_Mo_6 hV) d_Mo_fail_22 h (fun h => ?_)
    refine g_putI (pc := 23) hC po_Mo_221 (ob_Mo hV) rfl rfl rfl d_Mo_fail_23 ?_
    refine g_letS h (fun S23 h => ?_)
    exact g_vW (pc := 26) hC d_Mo_fail_26 h
  · exact g_vW (pc := 7) hC d_Mo_fail_7 h
theorem c_Mo_fail {V : WV} {l : Launch} (hV : IsM V) {x1 : Int32} {S : Mem} {z : Mem} (h : f_Mo_fail x1 S = some z) : CV V l y_Mo_fail bc_Mo_fail 2 none 0 0 [.ref (V.2.2.1 0 0), .int x1] S z :=
  ct_v rfl (IsM.ok hV) (Nat.le_of_ble_eq_true rfl) (fun _ _ hC => w_Mo_fail_b0 hV hC x1 S h)
def f_Mo_wrong_b46 (x1 : Int32) (x3 : Int32) (S : Mem) : Option (Mem) :=
  letS (pI S 0 15 x1) (fun S48 =>
  letS (pI S48 0 16 x3) (fun S53 =>
  some S53))
def f_Mo_wrong_b0 (x1 : Int32) (x2 : Int32) (S : Mem) : Option (Mem) :=
  gIn x2 403 (
  letS (S.2.1 0 6 x2.toNatClampNeg) (fun y6 =>
  if 0 < (S.1 0 13) then
    some S
  else
    if (S.1 0 15) = 0 then
      f_Mo_wrong_b46 x1 y6 S
    else
      if (S.1 0 16) < y6 then
        some S
      else
        if y6 = (S.1 0 16) then
          if x1 < (S.1 0 15) then
            f_Mo_wrong_b46 x1 y6 S
          else
            some S
        else
          f_Mo_wrong_b46 x1 y6 S))
def f_Mo_wrong (x1 : Int32) (x2 : Int32) (S : Mem) : Option (Mem) := f_Mo_wrong_b0  x1 x2 S
theorem d_Mo_wrong_0 : decode bc_Mo_wrong 0 = .ok (.aload_n 0, 1) := by decide +kernel
theorem d_Mo_wrong_1 : decode bc_Mo_wrong 1 = .ok (.getfield 24, 3) := by decide +kernel
theorem d_Mo_wrong_4 : decode bc_Mo_wrong 4 = .ok (.iload_n 2, 1) := by decide +kernel
theorem d_Mo_wrong_5 : decode bc_Mo_wrong 5 = .ok (.iaload, 1) := by decide +kernel
theorem d_Mo_wrong_6 : decode bc_Mo_wrong 6 = .ok (.istore_n 3, 1) := by decide +kernel
theorem d_Mo_wrong_7 : decode bc_Mo_wrong 7 = .ok (.aload_n 0, 1) := by decide +kernel
theorem d_Mo_wrong_8 : decode bc_Mo_wrong 8 = .ok (.getfield 215, 3) := by decide +kernel
theorem d_Mo_wrong_11 : decode bc_Mo_wrong 11 = .ok (.ifCond .gt 34, 3) := by decide +kernel
theorem d_Mo_wrong_14 : decode bc_Mo_wrong 14 = .ok (.aload_n 0, 1) := by decide +kernel
theorem d_Mo_wrong_15 : decode bc_Mo_wrong 15 = .ok (.getfield 224, 3) := by decide +kernel
theorem d_Mo_wrong_18 : decode bc_Mo_wrong 18 = .ok (.ifCond .eq 28, 3) := by decide +kernel
theorem d_Mo_wrong_21 : decode bc_Mo_wrong 21 = .ok (.iload_n 3, 1) := by decide +kernel
theorem d_Mo_wrong_22 : decode bc_Mo_wrong 22 = .ok (.aload_n 0, 1) := by decide +kernel
theorem d_Mo_wrong_23 : decode bc_Mo_wrong 23 = .ok (.getfield 227, 3) := by decide +kernel
theorem d_Mo_wrong_26 : decode bc_Mo_wrong 26 = .ok (.if_icmp .gt 19, 3) := by decide +kernel
theorem d_Mo_wrong_29 : decode bc_Mo_wrong 29 = .ok (.iload_n 3, 1) := by decide +kernel
theorem d_Mo_wrong_30 : decode bc_Mo_wrong 30 = .ok (.aload_n 0, 1) := by decide +kernel
theorem d_Mo_wrong_31 : decode bc_Mo_wrong 31 = .ok (.getfield 227, 3) := by decide +kernel
theorem d_Mo_wrong_34 : decode bc_Mo_wrong 34 = .ok (.if_icmp .ne 12, 3) := by decide +kernel
theorem d_Mo_wrong_37 : decode bc_Mo_wrong 37 = .ok (.iload_n 1, 1) := by decide +kernel
theorem d_Mo_wrong_38 : decode bc_Mo_wrong 38 = .ok (.aload_n 0, 1) := by decide +kernel
theorem d_Mo_wrong_39 : decode bc_Mo_wrong 39 = .ok (.getfield 224, 3) := by decide +kernel
theorem d_Mo_wrong_42 : decode bc_Mo_wrong 42 = .ok (.if_icmp .lt 4, 3) := by decide +kernel
theorem d_Mo_wrong_45 : decode bc_Mo_wrong 45 = .ok (.return_, 1) := by decide +kernel
theorem d_Mo_wrong_46 : decode bc_Mo_wrong 46 = .ok (.aload_n 0, 1) := by decide +kernel
theorem d_Mo_wrong_47 : decode bc_Mo_wrong 47 = .ok (.iload_n 1, 1) := by decide +kernel
theorem d_Mo_wrong_48 : decode bc_Mo_wrong 48 = .ok (.putfield 224, 3) := by decide +kernel
theorem d_Mo_wrong_51 : decode bc_Mo_wrong 51 = .ok (.aload_n 0, 1) := by decide +kernel
theorem d_Mo_wrong_52 : decode bc_Mo_wrong 52 = .ok (.iload_n 3, 1) := by decide +kernel
theorem d_Mo_wrong_53 : decode bc_Mo_wrong 53 = .ok (.putfield 227, 3) := by decide +kernel
theorem d_Mo_wrong_56 : decode bc_Mo_wrong 56 = .ok (.return_, 1) := by decide +kernel
set_option maxRecDepth 20000 in
theorem w_Mo_wrong_b46 {X : CX} {V : WV} (hV : IsM V) {z : Mem} (hC : Ck X V bc_Mo_wrong 4 "SecretWellsModel" none 0 0) (x1 : Int32) (x3 : Int32) (S : Mem) (h : f_Mo_wrong_b46  x1 x3 S = some z) : G X V 4 (QV X V z) 46 [some (.ref (V.2.2.1 0 0)), some (.int x1), none, some (.int x3)] [] S := by
  unfold f_Mo_wrong_b46 at h
  refine g_aload_n (pc := 46) hC (i := 0) (x := (V.2.2.1 0 0)) rfl rfl d_Mo_wrong_46 ?_
  refine g_iload_n (pc := 47) hC (i := 1) (x := x1) rfl rfl d_Mo_wrong_47 ?_
  refine g_putI (pc := 48) hC po_Mo_224 (ob_Mo hV) rfl rfl rfl d_Mo_wrong_48 ?_
  refine g_letS h (fun S48 h => ?_)
  refine g_aload_n (pc := 51) hC (i := 0) (x := (V.2.2.1 0 0)) rfl rfl d_Mo_wrong_51 ?_
  refine g_iload_n (pc := 52) hC (i := 3) (x := x3) rfl rfl d_Mo_wrong_52 ?_
  refine g_putI (pc := 53) hC po_Mo_227 (ob_Mo hV) rfl rfl rfl d_Mo_wrong_53 ?_
  refine g_letS h (fun S53 h => ?_)
  exact g_vW (pc := 56) hC d_Mo_wrong_56 h
set_option maxRecDepth 20000 in
theorem w_Mo_wrong_b0 {X : CX} {V : WV} (hV : IsM V) {z : Mem} (hC : Ck X V bc_Mo_wrong 4 "SecretWellsModel" none 0 0) (x1 : Int32) (x2 : Int32) (S : Mem) (h : f_Mo_wrong_b0  x1 x2 S = some z) : G X V 4 (QV X V z) 0 [some (.ref (V.2.2.1 0 0)), some (.int x1), some (.int x2), none] [] S := by
  unfold f_Mo_wrong_b0 at h
  refine g_aload_n (pc := 0) hC (i := 0) (x := (V.2.2.1 0 0)) rfl rfl d_Mo_wrong_0 ?_
  refine g_getA (pc := 1) hC fo_Mo_24 (ob_Mo hV) rfl d_Mo_wrong_1 ?_
  refine g_iload_n (pc := 4) hC (i := 2) (x := x2) rfl rfl d_Mo_wrong_4 ?_
  refine g_iald (pc := 5) hC (ar_Mo_6 hV) d_Mo_wrong_5 h (fun h => ?_)
  refine g_leti h (fun y6 h => ?_)
  refine s_istore_n (pc := 6) hC (i := 3) rfl (by decide) d_Mo_wrong_6 (lv2 := [some (.ref (V.2.2.1 0 0)), some (.int x1), some (.int x2), some (.int y6)]) rfl ?_
  refine g_aload_n (pc := 7) hC (i := 0) (x := (V.2.2.1 0 0)) rfl rfl d_Mo_wrong_7 ?_
  refine g_getI (pc := 8) hC fo_Mo_215 (ob_Mo hV) rfl d_Mo_wrong_8 ?_
  refine g_if_gt (pc := 11) hC (tgt := 45) (by decide) d_Mo_wrong_11 h (fun h => ?_) (fun h => ?_)
  · exact g_vW (pc := 45) hC d_Mo_wrong_45 h
  · refine g_aload_n (pc := 14) hC (i := 0) (x := (V.2.2.1 0 0)) rfl rfl d_Mo_wrong_14 ?_
    refine g_getI (pc := 15) hC fo_Mo_224 (ob_Mo hV) rfl d_Mo_wrong_15 ?_
    refine g_if_eq (pc := 18) hC (tgt := 46) (by decide) d_Mo_wrong_18 h (fun h => ?_) (fun h => ?_)
    · refine g_le (lv2 := [some (.ref (V.2.2.1 0 0)), some (.int x1), none, some (.int y6)]) (⟨rfl, ⟨rfl, ⟨rfl, trivial⟩⟩⟩) ?_
      exact w_Mo_wrong_b46 hV hC x1 y6 S h
    · refine g_iload_n (pc := 21) hC (i := 3) (x := y6) rfl rfl d_Mo_wrong_21 ?_
      refine g_aload_n (pc := 22) hC (i := 0) (x := (V.2.2.1 0 0)) rfl rfl d_Mo_wrong_22 ?_
      refine g_getI (pc := 23) hC fo_Mo_227 (ob_Mo hV) rfl d_Mo_wrong_23 ?_
      refine g_icmp_gt (pc := 26) hC (tgt := 45) (by decide) d_Mo_wrong_26 h (fun h => ?_) (fun h => ?_)
      · exact g_vW (pc := 45) hC d_Mo_wrong_45 h
      · refine g_iload_n (pc := 29) hC (i := 3) (x := y6) rfl rfl d_Mo_wrong_29 ?_
        refine g_aload_n (pc := 30) hC (i := 0) (x := (V.2.2.1 0 0)) rfl rfl d_Mo_wrong_30 ?_
        refine g_getI (pc := 31) hC fo_Mo_227 (ob_Mo hV) rfl d_Mo_wrong_31 ?_
        refine g_icmp_ne (pc := 34) hC (tgt := 46) (by decide) d_Mo_wrong_34 h (fun h => ?_) (fun h => ?_)
        · refine g_le (lv2 := [some (.ref (V.2.2.1 0 0)), some (.int x1), none, some (.int y6)]) (⟨rfl, ⟨rfl, ⟨rfl, trivial⟩⟩⟩) ?_
          exact w_Mo_wrong_b46 hV hC x1 y6 S h
        · refine g_iload_n (pc := 37) hC (i := 1) (x := x1) rfl rfl d_Mo_wrong_37 ?_
          refine g_aload_n (pc := 38) hC (i := 0) (x := (V.2.2.1 0 0)) rfl rfl d_Mo_wrong_38 ?_
          refine g_getI (pc := 39) hC fo_Mo_224 (ob_Mo hV) rfl d_Mo_wrong_39 ?_
          refine g_icmp_lt (pc := 42) hC (tgt := 46) (by decide) d_Mo_wrong_42 h (fun h => ?_) (fun h => ?_)
          · refine g_le (lv2 := [some (.ref (V.2.2.1 0 0)), some (.int x1), none, some (.int y6)]) (⟨rfl, ⟨rfl, ⟨rfl, trivial⟩⟩⟩) ?_
            exact w_Mo_wrong_b46 hV hC x1 y6 S h
          · exact g_vW (pc := 45) hC d_Mo_wrong_45 h
theorem c_Mo_wrong {V : WV} {l : Launch} (hV : IsM V) {x1 : Int32} {x2 : Int32} {S : Mem} {z : Mem} (h : f_Mo_wrong x1 x2 S = some z) : CV V l y_Mo_wrong bc_Mo_wrong 4 none 0 0 [.ref (V.2.2.1 0 0), .int x1, .int x2] S z :=
  ct_v rfl (IsM.ok hV) (Nat.le_of_ble_eq_true rfl) (fun _ _ hC => w_Mo_wrong_b0 hV hC x1 x2 S h)
def f_Mo_goesOn_b0 (S : Mem) : Option (Mem) :=
  if (S.1 0 11) = 400 then
    Option.bind (f_Mo_fail 2 S) (fun q12 =>
    some q12)
  else
    letS (pI S 0 11 ((S.1 0 11) + 1)) (fun S25 =>
    some S25)
def f_Mo_goesOn (S : Mem) : Option (Mem) := f_Mo_goesOn_b0  S
theorem d_Mo_goesOn_0 : decode bc_Mo_goesOn 0 = .ok (.aload_n 0, 1) := by decide +kernel
theorem d_Mo_goesOn_1 : decode bc_Mo_goesOn 1 = .ok (.getfield 218, 3) := by decide +kernel
theorem d_Mo_goesOn_4 : decode bc_Mo_goesOn 4 = .ok (.sipush 400, 3) := by decide +kernel
theorem d_Mo_goesOn_7 : decode bc_Mo_goesOn 7 = .ok (.if_icmp .ne 11, 3) := by decide +kernel
theorem d_Mo_goesOn_10 : decode bc_Mo_goesOn 10 = .ok (.aload_n 0, 1) := by decide +kernel
theorem d_Mo_goesOn_11 : decode bc_Mo_goesOn 11 = .ok (.iconst 2, 1) := by decide +kernel
theorem d_Mo_goesOn_12 : decode bc_Mo_goesOn 12 = .ok (.invokevirtual 230, 3) := by decide +kernel
theorem d_Mo_goesOn_15 : decode bc_Mo_goesOn 15 = .ok (.goto 13, 3) := by decide +kernel
theorem d_Mo_goesOn_18 : decode bc_Mo_goesOn 18 = .ok (.aload_n 0, 1) := by decide +kernel
theorem d_Mo_goesOn_19 : decode bc_Mo_goesOn 19 = .ok (.dup, 1) := by decide +kernel
theorem d_Mo_goesOn_20 : decode bc_Mo_goesOn 20 = .ok (.getfield 218, 3) := by decide +kernel
theorem d_Mo_goesOn_23 : decode bc_Mo_goesOn 23 = .ok (.iconst 1, 1) := by decide +kernel
theorem d_Mo_goesOn_24 : decode bc_Mo_goesOn 24 = .ok (.iadd, 1) := by decide +kernel
theorem d_Mo_goesOn_25 : decode bc_Mo_goesOn 25 = .ok (.putfield 218, 3) := by decide +kernel
theorem d_Mo_goesOn_28 : decode bc_Mo_goesOn 28 = .ok (.return_, 1) := by decide +kernel
set_option maxRecDepth 20000 in
theorem w_Mo_goesOn_b0 {X : CX} {V : WV} (hV : IsM V) {z : Mem} (hC : Ck X V bc_Mo_goesOn 1 "SecretWellsModel" none 1 21) (S : Mem) (h : f_Mo_goesOn_b0  S = some z) : G X V 1 (QV X V z) 0 [some (.ref (V.2.2.1 0 0))] [] S := by
  unfold f_Mo_goesOn_b0 at h
  refine g_aload_n (pc := 0) hC (i := 0) (x := (V.2.2.1 0 0)) rfl rfl d_Mo_goesOn_0 ?_
  refine g_getI (pc := 1) hC fo_Mo_218 (ob_Mo hV) rfl d_Mo_goesOn_1 ?_
  refine g_sipush (pc := 4) hC ks_400 d_Mo_goesOn_4 ?_
  refine g_icmp_ne (pc := 7) hC (tgt := 18) (by decide) d_Mo_goesOn_7 h (fun h => ?_) (fun h => ?_)
  · refine g_aload_n (pc := 18) hC (i := 0) (x := (V.2.2.1 0 0)) rfl rfl d_Mo_goesOn_18 ?_
    refine g_dup (pc := 19) hC rfl d_Mo_goesOn_19 ?_
    refine g_getI (pc := 20) hC fo_Mo_218 (ob_Mo hV) rfl d_Mo_goesOn_20 ?_
    refine g_iconst (pc := 23) hC kc_1 d_Mo_goesOn_23 ?_
    refine g_iadd (pc := 24) hC d_Mo_goesOn_24 ?_
    refine g_putI (pc := 25) hC po_Mo_218 (ob_Mo hV) rfl rfl rfl d_Mo_goesOn_25 ?_
    refine g_letS h (fun S25 h => ?_)
    exact g_vW (pc := 28) hC d_Mo_goesOn_28 h
  · refine g_aload_n (pc := 10) hC (i := 0) (x := (V.2.2.1 0 0)) rfl rfl d_Mo_goesOn_10 ?_
    refine g_iconst (pc := 11) hC kc_2 d_Mo_goesOn_11 ?_
    obtain ⟨q12, hq12, h⟩ := Option.bind_eq_some_iff.mp h
    refine g_vv (pc := 12) hC (As := [.int 2]) (st := []) mt_Mo_fail lk_Mo_230 rfl (ob_Mo hV) (Nat.le_of_ble_eq_true rfl) ⟨Nat.le_of_ble_eq_true rfl, Nat.le_of_ble_eq_true rfl⟩ rfl d_Mo_goesOn_12 (c_Mo_fail hV hq12) ?_
    refine g_goto (pc := 15) hC (tgt := 28) (by decide) d_Mo_goesOn_15 ?_
    exact g_vW (pc := 28) hC d_Mo_goesOn_28 h
theorem c_Mo_goesOn {V : WV} {l : Launch} (hV : IsM V) {S : Mem} {z : Mem} (h : f_Mo_goesOn S = some z) : CV V l y_Mo_goesOn bc_Mo_goesOn 1 none 1 21 [.ref (V.2.2.1 0 0)] S z :=
  ct_v rfl (IsM.ok hV) (Nat.le_of_ble_eq_true rfl) (fun _ _ hC => w_Mo_goesOn_b0 hV hC S h)
def f_Mo_must_b0 (x1 : Int32) (S : Mem) : Option (Mem) :=
  Option.bind (f_Mo_is x1 S) (fun q2 =>
  if q2 = 0 then
    Option.bind (f_Mo_fail 1 S) (fun q17 =>
    some q17)
  else
    Option.bind (f_Mo_goesOn S) (fun q9 =>
    some q9))
def f_Mo_must (x1 : Int32) (S : Mem) : Option (Mem) := f_Mo_must_b0  x1 S
theorem d_Mo_must_0 : decode bc_Mo_must 0 = .ok (.aload_n 0, 1) := by decide +kernel
theorem d_Mo_must_1 : decode bc_Mo_must 1 = .ok (.iload_n 1, 1) := by decide +kernel
theorem d_Mo_must_2 : decode bc_Mo_must 2 = .ok (.invokevirtual 233, 3) := by decide +kernel
theorem d_Mo_must_5 : decode bc_Mo_must 5 = .ok (.ifCond .eq 10, 3) := by decide +kernel
theorem d_Mo_must_8 : decode bc_Mo_must 8 = .ok (.aload_n 0, 1) := by decide +kernel
theorem d_Mo_must_9 : decode bc_Mo_must 9 = .ok (.invokevirtual 236, 3) := by decide +kernel
theorem d_Mo_must_12 : decode bc_Mo_must 12 = .ok (.goto 8, 3) := by decide +kernel
theorem d_Mo_must_15 : decode bc_Mo_must 15 = .ok (.aload_n 0, 1) := by decide +kernel
theorem d_Mo_must_16 : decode bc_Mo_must 16 = .ok (.iconst 1, 1) := by decide +kernel
theorem d_Mo_must_17 : decode bc_Mo_must 17 = .ok (.invokevirtual 230, 3) := by decide +kernel
theorem d_Mo_must_20 : decode bc_Mo_must 20 = .ok (.return_, 1) := by decide +kernel
set_option maxRecDepth 20000 in
theorem w_Mo_must_b0 {X : CX} {V : WV} (hV : IsM V) {z : Mem} (hC : Ck X V bc_Mo_must 2 "SecretWellsModel" none 2 41) (x1 : Int32) (S : Mem) (h : f_Mo_must_b0  x1 S = some z) : G X V 2 (QV X V z) 0 [some (.ref (V.2.2.1 0 0)), some (.int x1)] [] S := by
  unfold f_Mo_must_b0 at h
  refine g_aload_n (pc := 0) hC (i := 0) (x := (V.2.2.1 0 0)) rfl rfl d_Mo_must_0 ?_
  refine g_iload_n (pc := 1) hC (i := 1) (x := x1) rfl rfl d_Mo_must_1 ?_
  obtain ⟨q2, hq2, h⟩ := Option.bind_eq_some_iff.mp h
  refine g_vi (pc := 2) hC (As := [.int x1]) (st := []) mt_Mo_is lk_Mo_233 rfl (ob_Mo hV) (Nat.le_of_ble_eq_true rfl) ⟨Nat.le_of_ble_eq_true rfl, Nat.le_of_ble_eq_true rfl⟩ rfl d_Mo_must_2 (c_Mo_is hV hq2) ?_
  refine g_if_eq (pc := 5) hC (tgt := 15) (by decide) d_Mo_must_5 h (fun h => ?_) (fun h => ?_)
  · refine g_aload_n (pc := 15) hC (i := 0) (x := (V.2.2.1 0 0)) rfl rfl d_Mo_must_15 ?_
    refine g_iconst (pc := 16) hC kc_1 d_Mo_must_16 ?_
    obtain ⟨q17, hq17, h⟩ := Option.bind_eq_some_iff.mp h
    refine g_vv (pc := 17) hC (As := [.int 1]) (st := []) mt_Mo_fail lk_Mo_230 rfl (ob_Mo hV) (Nat.le_of_ble_eq_true rfl) ⟨Nat.le_of_ble_eq_true rfl, Nat.le_of_ble_eq_true rfl⟩ rfl d_Mo_must_17 (c_Mo_fail hV hq17) ?_
    exact g_vW (pc := 20) hC d_Mo_must_20 h
  · refine g_aload_n (pc := 8) hC (i := 0) (x := (V.2.2.1 0 0)) rfl rfl d_Mo_must_8 ?_
    obtain ⟨q9, hq9, h⟩ := Option.bind_eq_some_iff.mp h
    refine g_vv (pc := 9) hC (As := []) (st := []) mt_Mo_goesOn lk_Mo_236 rfl (ob_Mo hV) (Nat.le_of_ble_eq_true rfl) ⟨Nat.le_of_ble_eq_true rfl, Nat.le_of_ble_eq_true rfl⟩ rfl d_Mo_must_9 (c_Mo_goesOn hV hq9) ?_
    refine g_goto (pc := 12) hC (tgt := 20) (by decide) d_Mo_must_12 ?_
    exact g_vW (pc := 20) hC d_Mo_must_20 h
theorem c_Mo_must {V : WV} {l : Launch} (hV : IsM V) {x1 : Int32} {S : Mem} {z : Mem} (h : f_Mo_must x1 S = some z) : CV V l y_Mo_must bc_Mo_must 2 none 2 41 [.ref (V.2.2.1 0 0), .int x1] S z :=
  ct_v rfl (IsM.ok hV) (Nat.le_of_ble_eq_true rfl) (fun _ _ hC => w_Mo_must_b0 hV hC x1 S h)
def f_Mo_plain_b53 (k53 : Int32 → Int32 → Mem → Option (Mem)) (x1 : Int32) (x2 : Int32) (S : Mem) : Option (Mem) :=
  if 3 ≤ x2 then
    some S
  else
    gIn ((3 * x1) + x2) 6 (letS (sA S 0 40 ((3 * x1) + x2) 0) (fun S68 =>
    gIn ((3 * x1) + x2) 6 (letS (sA S68 0 41 ((3 * x1) + x2) 0) (fun S79 =>
    k53 x1 (x2 + 1) S79))))
def f_Mo_plain_l53 : Nat → Int32 → Int32 → Mem → Option (Mem)
  | 0 => fun _ _ _ => none
  | n + 1 => f_Mo_plain_b53  (f_Mo_plain_l53  n)
def f_Mo_plain_b0 (x1 : Int32) (S : Mem) : Option (Mem) :=
  gIn x1 2 (letS (sA S 0 24 x1 0) (fun S6 =>
  gIn x1 2 (letS (sA S6 0 27 x1 0) (fun S13 =>
  gIn x1 2 (letS (sA S13 0 30 x1 0) (fun S20 =>
  gIn x1 2 (letS (sA S20 0 34 x1 0) (fun S27 =>
  gIn x1 2 (letS (sA S27 0 37 x1 9) (fun S35 =>
  gIn x1 2 (letS (sA S35 0 38 x1 10) (fun S43 =>
  gIn x1 2 (letS (sA S43 0 39 x1 0) (fun S50 =>
  f_Mo_plain_l53 5000 x1 0 S50))))))))))))))
def f_Mo_plain (x1 : Int32) (S : Mem) : Option (Mem) := f_Mo_plain_b0  x1 S
theorem d_Mo_plain_0 : decode bc_Mo_plain 0 = .ok (.aload_n 0, 1) := by decide +kernel
theorem d_Mo_plain_1 : decode bc_Mo_plain 1 = .ok (.getfield 49, 3) := by decide +kernel
theorem d_Mo_plain_4 : decode bc_Mo_plain 4 = .ok (.iload_n 1, 1) := by decide +kernel
theorem d_Mo_plain_5 : decode bc_Mo_plain 5 = .ok (.iconst 0, 1) := by decide +kernel
theorem d_Mo_plain_6 : decode bc_Mo_plain 6 = .ok (.iastore, 1) := by decide +kernel
theorem d_Mo_plain_7 : decode bc_Mo_plain 7 = .ok (.aload_n 0, 1) := by decide +kernel
theorem d_Mo_plain_8 : decode bc_Mo_plain 8 = .ok (.getfield 58, 3) := by decide +kernel
theorem d_Mo_plain_11 : decode bc_Mo_plain 11 = .ok (.iload_n 1, 1) := by decide +kernel
theorem d_Mo_plain_12 : decode bc_Mo_plain 12 = .ok (.iconst 0, 1) := by decide +kernel
theorem d_Mo_plain_13 : decode bc_Mo_plain 13 = .ok (.iastore, 1) := by decide +kernel
theorem d_Mo_plain_14 : decode bc_Mo_plain 14 = .ok (.aload_n 0, 1) := by decide +kernel
theorem d_Mo_plain_15 : decode bc_Mo_plain 15 = .ok (.getfield 67, 3) := by decide +kernel
theorem d_Mo_plain_18 : decode bc_Mo_plain 18 = .ok (.iload_n 1, 1) := by decide +kernel
theorem d_Mo_plain_19 : decode bc_Mo_plain 19 = .ok (.iconst 0, 1) := by decide +kernel
theorem d_Mo_plain_20 : decode bc_Mo_plain 20 = .ok (.iastore, 1) := by decide +kernel
theorem d_Mo_plain_21 : decode bc_Mo_plain 21 = .ok (.aload_n 0, 1) := by decide +kernel
theorem d_Mo_plain_22 : decode bc_Mo_plain 22 = .ok (.getfield 80, 3) := by decide +kernel
theorem d_Mo_plain_25 : decode bc_Mo_plain 25 = .ok (.iload_n 1, 1) := by decide +kernel
theorem d_Mo_plain_26 : decode bc_Mo_plain 26 = .ok (.iconst 0, 1) := by decide +kernel
theorem d_Mo_plain_27 : decode bc_Mo_plain 27 = .ok (.iastore, 1) := by decide +kernel
theorem d_Mo_plain_28 : decode bc_Mo_plain 28 = .ok (.aload_n 0, 1) := by decide +kernel
theorem d_Mo_plain_29 : decode bc_Mo_plain 29 = .ok (.getfield 89, 3) := by decide +kernel
theorem d_Mo_plain_32 : decode bc_Mo_plain 32 = .ok (.iload_n 1, 1) := by decide +kernel
theorem d_Mo_plain_33 : decode bc_Mo_plain 33 = .ok (.bipush 9, 2) := by decide +kernel
theorem d_Mo_plain_35 : decode bc_Mo_plain 35 = .ok (.iastore, 1) := by decide +kernel
theorem d_Mo_plain_36 : decode bc_Mo_plain 36 = .ok (.aload_n 0, 1) := by decide +kernel
theorem d_Mo_plain_37 : decode bc_Mo_plain 37 = .ok (.getfield 92, 3) := by decide +kernel
theorem d_Mo_plain_40 : decode bc_Mo_plain 40 = .ok (.iload_n 1, 1) := by decide +kernel
theorem d_Mo_plain_41 : decode bc_Mo_plain 41 = .ok (.bipush 10, 2) := by decide +kernel
theorem d_Mo_plain_43 : decode bc_Mo_plain 43 = .ok (.iastore, 1) := by decide +kernel
theorem d_Mo_plain_44 : decode bc_Mo_plain 44 = .ok (.aload_n 0, 1) := by decide +kernel
theorem d_Mo_plain_45 : decode bc_Mo_plain 45 = .ok (.getfield 95, 3) := by decide +kernel
theorem d_Mo_plain_48 : decode bc_Mo_plain 48 = .ok (.iload_n 1, 1) := by decide +kernel
theorem d_Mo_plain_49 : decode bc_Mo_plain 49 = .ok (.iconst 0, 1) := by decide +kernel
theorem d_Mo_plain_50 : decode bc_Mo_plain 50 = .ok (.iastore, 1) := by decide +kernel
theorem d_Mo_plain_51 : decode bc_Mo_plain 51 = .ok (.iconst 0, 1) := by decide +kernel
theorem d_Mo_plain_52 : decode bc_Mo_plain 52 = .ok (.istore_n 2, 1) := by decide +kernel
theorem d_Mo_plain_53 : decode bc_Mo_plain 53 = .ok (.iload_n 2, 1) := by decide +kernel
theorem d_Mo_plain_54 : decode bc_Mo_plain 54 = .ok (.iconst 3, 1) := by decide +kernel
theorem d_Mo_plain_55 : decode bc_Mo_plain 55 = .ok (.if_icmp .ge 31, 3) := by decide +kernel
theorem d_Mo_plain_58 : decode bc_Mo_plain 58 = .ok (.aload_n 0, 1) := by decide +kernel
theorem d_Mo_plain_59 : decode bc_Mo_plain 59 = .ok (.getfield 98, 3) := by decide +kernel
theorem d_Mo_plain_62 : decode bc_Mo_plain 62 = .ok (.iconst 3, 1) := by decide +kernel
theorem d_Mo_plain_63 : decode bc_Mo_plain 63 = .ok (.iload_n 1, 1) := by decide +kernel
theorem d_Mo_plain_64 : decode bc_Mo_plain 64 = .ok (.imul, 1) := by decide +kernel
theorem d_Mo_plain_65 : decode bc_Mo_plain 65 = .ok (.iload_n 2, 1) := by decide +kernel
theorem d_Mo_plain_66 : decode bc_Mo_plain 66 = .ok (.iadd, 1) := by decide +kernel
theorem d_Mo_plain_67 : decode bc_Mo_plain 67 = .ok (.iconst 0, 1) := by decide +kernel
theorem d_Mo_plain_68 : decode bc_Mo_plain 68 = .ok (.iastore, 1) := by decide +kernel
theorem d_Mo_plain_69 : decode bc_Mo_plain 69 = .ok (.aload_n 0, 1) := by decide +kernel
theorem d_Mo_plain_70 : decode bc_Mo_plain 70 = .ok (.getfield 101, 3) := by decide +kernel
theorem d_Mo_plain_73 : decode bc_Mo_plain 73 = .ok (.iconst 3, 1) := by decide +kernel
theorem d_Mo_plain_74 : decode bc_Mo_plain 74 = .ok (.iload_n 1, 1) := by decide +kernel
theorem d_Mo_plain_75 : decode bc_Mo_plain 75 = .ok (.imul, 1) := by decide +kernel
theorem d_Mo_plain_76 : decode bc_Mo_plain 76 = .ok (.iload_n 2, 1) := by decide +kernel
theorem d_Mo_plain_77 : decode bc_Mo_plain 77 = .ok (.iadd, 1) := by decide +kernel
theorem d_Mo_plain_78 : decode bc_Mo_plain 78 = .ok (.iconst 0, 1) := by decide +kernel
theorem d_Mo_plain_79 : decode bc_Mo_plain 79 = .ok (.iastore, 1) := by decide +kernel
theorem d_Mo_plain_80 : decode bc_Mo_plain 80 = .ok (.iinc 2 1, 3) := by decide +kernel
theorem d_Mo_plain_83 : decode bc_Mo_plain 83 = .ok (.goto (-30), 3) := by decide +kernel
theorem d_Mo_plain_86 : decode bc_Mo_plain 86 = .ok (.return_, 1) := by decide +kernel
set_option maxRecDepth 20000 in
theorem w_Mo_plain_b53 {X : CX} {V : WV} (hV : IsM V) {z : Mem} (hC : Ck X V bc_Mo_plain 3 "SecretWellsModel" none 0 0) (k53 : Int32 → Int32 → Mem → Option (Mem)) (hk53 : ∀ (x1 : Int32) (x2 : Int32) (S : Mem), k53 x1 x2 S = some z → G X V 3 (QV X V z) 53 [some (.ref (V.2.2.1 0 0)), some (.int x1), some (.int x2)] [] S) (x1 : Int32) (x2 : Int32) (S : Mem) (h : f_Mo_plain_b53  k53 x1 x2 S = some z) : G X V 3 (QV X V z) 53 [some (.ref (V.2.2.1 0 0)), some (.int x1), some (.int x2)] [] S := by
  unfold f_Mo_plain_b53 at h
  refine g_iload_n (pc := 53) hC (i := 2) (x := x2) rfl rfl d_Mo_plain_53 ?_
  refine g_iconst (pc := 54) hC kc_3 d_Mo_plain_54 ?_
  refine g_icmp_ge (pc := 55) hC (tgt := 86) (by decide) d_Mo_plain_55 h (fun h => ?_) (fun h => ?_)
  · exact g_vW (pc := 86) hC d_Mo_plain_86 h
  · refine g_aload_n (pc := 58) hC (i := 0) (x := (V.2.2.1 0 0)) rfl rfl d_Mo_plain_58 ?_
    refine g_getA (pc := 59) hC fo_Mo_98 (ob_Mo hV) rfl d_Mo_plain_59 ?_
    refine g_iconst (pc := 62) hC kc_3 d_Mo_plain_62 ?_
    refine g_iload_n (pc := 63) hC (i := 1) (x := x1) rfl rfl d_Mo_plain_63 ?_
    refine g_imul (pc := 64) hC d_Mo_plain_64 ?_
    refine g_iload_n (pc := 65) hC (i := 2) (x := x2) rfl rfl d_Mo_plain_65 ?_
    refine g_iadd (pc := 66) hC d_Mo_plain_66 ?_
    refine g_iconst (pc := 67) hC kc_0 d_Mo_plain_67 ?_
    refine g_iast (pc := 68) hC (ar_Mo_40 hV) d_Mo_plain_68 h (fun h => ?_)
    refine g_letS h (fun S68 h => ?_)
    refine g_aload_n (pc := 69) hC (i := 0) (x := (V.2.2.1 0 0)) rfl rfl d_Mo_plain_69 ?_
    refine g_getA (pc := 70) hC fo_Mo_101 (ob_Mo hV) rfl d_Mo_plain_70 ?_
    refine g_iconst (pc := 73) hC kc_3 d_Mo_plain_73 ?_
    refine g_iload_n (pc := 74) hC (i := 1) (x := x1) rfl rfl d_Mo_plain_74 ?_
    refine g_imul (pc := 75) hC d_Mo_plain_75 ?_
    refine g_iload_n (pc := 76) hC (i := 2) (x := x2) rfl rfl d_Mo_plain_76 ?_
    refine g_iadd (pc := 77) hC d_Mo_plain_77 ?_
    refine g_iconst (pc := 78) hC kc_0 d_Mo_plain_78 ?_
    refine g_iast (pc := 79) hC (ar_Mo_41 hV) d_Mo_plain_79 h (fun h => ?_)
    refine g_letS h (fun S79 h => ?_)
    refine s_iinc (pc := 80) hC (i := 2) (x := x2) (v := x2 + 1) rfl (by rw [kc_1]) (by decide) d_Mo_plain_80 (lv2 := [some (.ref (V.2.2.1 0 0)), some (.int x1), some (.int (x2 + 1))]) rfl ?_
    refine g_goto (pc := 83) hC (tgt := 53) (by decide) d_Mo_plain_83 ?_
    exact hk53 x1 (x2 + 1) S79 h
theorem w_Mo_plain_l53 {X : CX} {V : WV} (hV : IsM V) {z : Mem} (hC : Ck X V bc_Mo_plain 3 "SecretWellsModel" none 0 0) : ∀ (n : Nat) (x1 : Int32) (x2 : Int32) (S : Mem), f_Mo_plain_l53  n x1 x2 S = some z → G X V 3 (QV X V z) 53 [some (.ref (V.2.2.1 0 0)), some (.int x1), some (.int x2)] [] S := by
  intro n
  induction n with
  | zero =>
    intro x1 x2 S h
    have h : (none : Option (Mem)) = some z := h
    cases h
  | succ n ih =>
    intro x1 x2 S h
    exact w_Mo_plain_b53 hV hC (f_Mo_plain_l53  n) ih x1 x2 S h
set_option maxRecDepth 20000 in
theorem w_Mo_plain_b0 {X : CX} {V : WV} (hV : IsM V) {z : Mem} (hC : Ck X V bc_Mo_plain 3 "SecretWellsModel" none 0 0) (x1 : Int32) (S : Mem) (h : f_Mo_plain_b0  x1 S = some z) : G X V 3 (QV X V z) 0 [some (.ref (V.2.2.1 0 0)), some (.int x1), none] [] S := by
  unfold f_Mo_plain_b0 at h
  refine g_aload_n (pc := 0) hC (i := 0) (x := (V.2.2.1 0 0)) rfl rfl d_Mo_plain_0 ?_
  refine g_getA (pc := 1) hC fo_Mo_49 (ob_Mo hV) rfl d_Mo_plain_1 ?_
  refine g_iload_n (pc := 4) hC (i := 1) (x := x1) rfl rfl d_Mo_plain_4 ?_
  refine g_iconst (pc := 5) hC kc_0 d_Mo_plain_5 ?_
  refine g_iast (pc := 6) hC (ar_Mo_24 hV) d_Mo_plain_6 h (fun h => ?_)
  refine g_letS h (fun S6 h => ?_)
  refine g_aload_n (pc := 7) hC (i := 0) (x := (V.2.2.1 0 0)) rfl rfl d_Mo_plain_7 ?_
  refine g_getA (pc := 8) hC fo_Mo_58 (ob_Mo hV) rfl d_Mo_plain_8 ?_
  refine g_iload_n (pc := 11) hC (i := 1) (x := x1) rfl rfl d_Mo_plain_11 ?_
  refine g_iconst (pc := 12) hC kc_0 d_Mo_plain_12 ?_
  refine g_iast (pc := 13) hC (ar_Mo_27 hV) d_Mo_plain_13 h (fun h => ?_)
  refine g_letS h (fun S13 h => ?_)
  refine g_aload_n (pc := 14) hC (i := 0) (x := (V.2.2.1 0 0)) rfl rfl d_Mo_plain_14 ?_
  refine g_getA (pc := 15) hC fo_Mo_67 (ob_Mo hV) rfl d_Mo_plain_15 ?_
  refine g_iload_n (pc := 18) hC (i := 1) (x := x1) rfl rfl d_Mo_plain_18 ?_
  refine g_iconst (pc := 19) hC kc_0 d_Mo_plain_19 ?_
  refine g_iast (pc := 20) hC (ar_Mo_30 hV) d_Mo_plain_20 h (fun h => ?_)
  refine g_letS h (fun S20 h => ?_)
  refine g_aload_n (pc := 21) hC (i := 0) (x := (V.2.2.1 0 0)) rfl rfl d_Mo_plain_21 ?_
  refine g_getA (pc := 22) hC fo_Mo_80 (ob_Mo hV) rfl d_Mo_plain_22 ?_
  refine g_iload_n (pc := 25) hC (i := 1) (x := x1) rfl rfl d_Mo_plain_25 ?_
  refine g_iconst (pc := 26) hC kc_0 d_Mo_plain_26 ?_
  refine g_iast (pc := 27) hC (ar_Mo_34 hV) d_Mo_plain_27 h (fun h => ?_)
  refine g_letS h (fun S27 h => ?_)
  refine g_aload_n (pc := 28) hC (i := 0) (x := (V.2.2.1 0 0)) rfl rfl d_Mo_plain_28 ?_
  refine g_getA (pc := 29) hC fo_Mo_89 (ob_Mo hV) rfl d_Mo_plain_29 ?_
  refine g_iload_n (pc := 32) hC (i := 1) (x := x1) rfl rfl d_Mo_plain_32 ?_
  refine g_bipush (pc := 33) hC kb_9 d_Mo_plain_33 ?_
  refine g_iast (pc := 35) hC (ar_Mo_37 hV) d_Mo_plain_35 h (fun h => ?_)
  refine g_letS h (fun S35 h => ?_)
  refine g_aload_n (pc := 36) hC (i := 0) (x := (V.2.2.1 0 0)) rfl rfl d_Mo_plain_36 ?_
  refine g_getA (pc := 37) hC fo_Mo_92 (ob_Mo hV) rfl d_Mo_plain_37 ?_
  refine g_iload_n (pc := 40) hC (i := 1) (x := x1) rfl rfl d_Mo_plain_40 ?_
  refine g_bipush (pc := 41) hC kb_10 d_Mo_plain_41 ?_
  refine g_iast (pc := 43) hC (ar_Mo_38 hV) d_Mo_plain_43 h (fun h => ?_)
  refine g_letS h (fun S43 h => ?_)
  refine g_aload_n (pc := 44) hC (i := 0) (x := (V.2.2.1 0 0)) rfl rfl d_Mo_plain_44 ?_
  refine g_getA (pc := 45) hC fo_Mo_95 (ob_Mo hV) rfl d_Mo_plain_45 ?_
  refine g_iload_n (pc := 48) hC (i := 1) (x := x1) rfl rfl d_Mo_plain_48 ?_
  refine g_iconst (pc := 49) hC kc_0 d_Mo_plain_49 ?_
  refine g_iast (pc := 50) hC (ar_Mo_39 hV) d_Mo_plain_50 h (fun h => ?_)
  refine g_letS h (fun S50 h => ?_)
  refine g_iconst (pc := 51) hC kc_0 d_Mo_plain_51 ?_
  refine s_istore_n (pc := 52) hC (i := 2) rfl (by decide) d_Mo_plain_52 (lv2 := [some (.ref (V.2.2.1 0 0)), some (.int x1), some (.int 0)]) rfl ?_
  exact w_Mo_plain_l53 hV hC 5000 x1 0 S50 h
theorem c_Mo_plain {V : WV} {l : Launch} (hV : IsM V) {x1 : Int32} {S : Mem} {z : Mem} (h : f_Mo_plain x1 S = some z) : CV V l y_Mo_plain bc_Mo_plain 3 none 0 0 [.ref (V.2.2.1 0 0), .int x1] S z :=
  ct_v rfl (IsM.ok hV) (Nat.le_of_ble_eq_true rfl) (fun _ _ hC => w_Mo_plain_b0 hV hC x1 S h)
def f_Mo_roomFor_b10 (S : Mem) : Option (Mem) :=
  if (S.1 0 13) = 0 then
    Option.bind (f_Mo_goesOn S) (fun q18 =>
    some q18)
  else
    some S
def f_Mo_roomFor_b0 (x1 : Int32) (x2 : Int32) (S : Mem) : Option (Mem) :=
  if x1 = x2 then
    Option.bind (f_Mo_fail 2 S) (fun q7 =>
    f_Mo_roomFor_b10 q7)
  else
    f_Mo_roomFor_b10 S
def f_Mo_roomFor (x1 : Int32) (x2 : Int32) (S : Mem) : Option (Mem) := f_Mo_roomFor_b0  x1 x2 S
theorem d_Mo_roomFor_0 : decode bc_Mo_roomFor 0 = .ok (.iload_n 1, 1) := by decide +kernel
theorem d_Mo_roomFor_1 : decode bc_Mo_roomFor 1 = .ok (.iload_n 2, 1) := by decide +kernel
theorem d_Mo_roomFor_2 : decode bc_Mo_roomFor 2 = .ok (.if_icmp .ne 8, 3) := by decide +kernel
theorem d_Mo_roomFor_5 : decode bc_Mo_roomFor 5 = .ok (.aload_n 0, 1) := by decide +kernel
theorem d_Mo_roomFor_6 : decode bc_Mo_roomFor 6 = .ok (.iconst 2, 1) := by decide +kernel
theorem d_Mo_roomFor_7 : decode bc_Mo_roomFor 7 = .ok (.invokevirtual 230, 3) := by decide +kernel
theorem d_Mo_roomFor_10 : decode bc_Mo_roomFor 10 = .ok (.aload_n 0, 1) := by decide +kernel
theorem d_Mo_roomFor_11 : decode bc_Mo_roomFor 11 = .ok (.getfield 215, 3) := by decide +kernel
theorem d_Mo_roomFor_14 : decode bc_Mo_roomFor 14 = .ok (.ifCond .ne 7, 3) := by decide +kernel
theorem d_Mo_roomFor_17 : decode bc_Mo_roomFor 17 = .ok (.aload_n 0, 1) := by decide +kernel
theorem d_Mo_roomFor_18 : decode bc_Mo_roomFor 18 = .ok (.invokevirtual 236, 3) := by decide +kernel
theorem d_Mo_roomFor_21 : decode bc_Mo_roomFor 21 = .ok (.return_, 1) := by decide +kernel
set_option maxRecDepth 20000 in
theorem w_Mo_roomFor_b10 {X : CX} {V : WV} (hV : IsM V) {z : Mem} (hC : Ck X V bc_Mo_roomFor 3 "SecretWellsModel" none 2 41) (S : Mem) (h : f_Mo_roomFor_b10  S = some z) : G X V 3 (QV X V z) 10 [some (.ref (V.2.2.1 0 0)), none, none] [] S := by
  unfold f_Mo_roomFor_b10 at h
  refine g_aload_n (pc := 10) hC (i := 0) (x := (V.2.2.1 0 0)) rfl rfl d_Mo_roomFor_10 ?_
  refine g_getI (pc := 11) hC fo_Mo_215 (ob_Mo hV) rfl d_Mo_roomFor_11 ?_
  refine g_if_ne (pc := 14) hC (tgt := 21) (by decide) d_Mo_roomFor_14 h (fun h => ?_) (fun h => ?_)
  · exact g_vW (pc := 21) hC d_Mo_roomFor_21 h
  · refine g_aload_n (pc := 17) hC (i := 0) (x := (V.2.2.1 0 0)) rfl rfl d_Mo_roomFor_17 ?_
    obtain ⟨q18, hq18, h⟩ := Option.bind_eq_some_iff.mp h
    refine g_vv (pc := 18) hC (As := []) (st := []) mt_Mo_goesOn lk_Mo_236 rfl (ob_Mo hV) (Nat.le_of_ble_eq_true rfl) ⟨Nat.le_of_ble_eq_true rfl, Nat.le_of_ble_eq_true rfl⟩ rfl d_Mo_roomFor_18 (c_Mo_goesOn hV hq18) ?_
    exact g_vW (pc := 21) hC d_Mo_roomFor_21 h
set_option maxRecDepth 20000 in
theorem w_Mo_roomFor_b0 {X : CX} {V : WV} (hV : IsM V) {z : Mem} (hC : Ck X V bc_Mo_roomFor 3 "SecretWellsModel" none 2 41) (x1 : Int32) (x2 : Int32) (S : Mem) (h : f_Mo_roomFor_b0  x1 x2 S = some z) : G X V 3 (QV X V z) 0 [some (.ref (V.2.2.1 0 0)), some (.int x1), some (.int x2)] [] S := by
  unfold f_Mo_roomFor_b0 at h
  refine g_iload_n (pc := 0) hC (i := 1) (x := x1) rfl rfl d_Mo_roomFor_0 ?_
  refine g_iload_n (pc := 1) hC (i := 2) (x := x2) rfl rfl d_Mo_roomFor_1 ?_
  refine g_icmp_ne (pc := 2) hC (tgt := 10) (by decide) d_Mo_roomFor_2 h (fun h => ?_) (fun h => ?_)
  · refine g_le (lv2 := [some (.ref (V.2.2.1 0 0)), none, none]) (⟨rfl, trivial⟩) ?_
    exact w_Mo_roomFor_b10 hV hC S h
  · refine g_aload_n (pc := 5) hC (i := 0) (x := (V.2.2.1 0 0)) rfl rfl d_Mo_roomFor_5 ?_
    refine g_iconst (pc := 6) hC kc_2 d_Mo_roomFor_6 ?_
    obtain ⟨q7, hq7, h⟩ := Option.bind_eq_some_iff.mp h
    refine g_vv (pc := 7) hC (As := [.int 2]) (st := []) mt_Mo_fail lk_Mo_230 rfl (ob_Mo hV) (Nat.le_of_ble_eq_true rfl) ⟨Nat.le_of_ble_eq_true rfl, Nat.le_of_ble_eq_true rfl⟩ rfl d_Mo_roomFor_7 (c_Mo_fail hV hq7) ?_
    refine g_le (lv2 := [some (.ref (V.2.2.1 0 0)), none, none]) (⟨rfl, trivial⟩) ?_
    exact w_Mo_roomFor_b10 hV hC q7 h
theorem c_Mo_roomFor {V : WV} {l : Launch} (hV : IsM V) {x1 : Int32} {x2 : Int32} {S : Mem} {z : Mem} (h : f_Mo_roomFor x1 x2 S = some z) : CV V l y_Mo_roomFor bc_Mo_roomFor 3 none 2 41 [.ref (V.2.2.1 0 0), .int x1, .int x2] S z :=
  ct_v rfl (IsM.ok hV) (Nat.le_of_ble_eq_true rfl) (fun _ _ hC => w_Mo_roomFor_b0 hV hC x1 x2 S h)
def f_Mo_named_b12 (k12 : Int32 → Int32 → Mem → Option (Int32 × Mem)) (x1 : Int32) (x2 : Int32) (S : Mem) : Option (Int32 × Mem) :=
  if (S.1 0 20) ≤ x2 then
    some (x1, S)
  else
    if (S.1 0 13) = 0 then
      gIn x2 19 (
      gIn x1 403 (
      if (lg_cmp (S.2.2 0 21 x2.toNatClampNeg) (S.2.2 0 8 x1.toNatClampNeg)) = 0 then
        Option.bind (f_Mo_wrong 3 x1 S) (fun q46 =>
        k12 x1 (x2 + 1) q46)
      else
        k12 x1 (x2 + 1) S))
    else
      some (x1, S)
def f_Mo_named_l12 : Nat → Int32 → Int32 → Mem → Option (Int32 × Mem)
  | 0 => fun _ _ _ => none
  | n + 1 => f_Mo_named_b12  (f_Mo_named_l12  n)
def f_Mo_named_b0 (S : Mem) : Option (Int32 × Mem) :=
  letS (S.1 0 11) (fun y4 =>
  Option.bind (f_Mo_must 1 S) (fun q7 =>
  f_Mo_named_l12 5000 y4 0 q7))
def f_Mo_named (S : Mem) : Option (Int32 × Mem) := f_Mo_named_b0  S
theorem d_Mo_named_0 : decode bc_Mo_named 0 = .ok (.aload_n 0, 1) := by decide +kernel
theorem d_Mo_named_1 : decode bc_Mo_named 1 = .ok (.getfield 218, 3) := by decide +kernel
theorem d_Mo_named_4 : decode bc_Mo_named 4 = .ok (.istore_n 1, 1) := by decide +kernel
theorem d_Mo_named_5 : decode bc_Mo_named 5 = .ok (.aload_n 0, 1) := by decide +kernel
theorem d_Mo_named_6 : decode bc_Mo_named 6 = .ok (.iconst 1, 1) := by decide +kernel
theorem d_Mo_named_7 : decode bc_Mo_named 7 = .ok (.invokevirtual 289, 3) := by decide +kernel
theorem d_Mo_named_10 : decode bc_Mo_named 10 = .ok (.iconst 0, 1) := by decide +kernel
theorem d_Mo_named_11 : decode bc_Mo_named 11 = .ok (.istore_n 2, 1) := by decide +kernel
theorem d_Mo_named_12 : decode bc_Mo_named 12 = .ok (.iload_n 2, 1) := by decide +kernel
theorem d_Mo_named_13 : decode bc_Mo_named 13 = .ok (.aload_n 0, 1) := by decide +kernel
theorem d_Mo_named_14 : decode bc_Mo_named 14 = .ok (.getfield 251, 3) := by decide +kernel
theorem d_Mo_named_17 : decode bc_Mo_named 17 = .ok (.if_icmp .ge 38, 3) := by decide +kernel
theorem d_Mo_named_20 : decode bc_Mo_named 20 = .ok (.aload_n 0, 1) := by decide +kernel
theorem d_Mo_named_21 : decode bc_Mo_named 21 = .ok (.getfield 215, 3) := by decide +kernel
theorem d_Mo_named_24 : decode bc_Mo_named 24 = .ok (.ifCond .ne 31, 3) := by decide +kernel
theorem d_Mo_named_27 : decode bc_Mo_named 27 = .ok (.aload_n 0, 1) := by decide +kernel
theorem d_Mo_named_28 : decode bc_Mo_named 28 = .ok (.getfield 40, 3) := by decide +kernel
theorem d_Mo_named_31 : decode bc_Mo_named 31 = .ok (.iload_n 2, 1) := by decide +kernel
theorem d_Mo_named_32 : decode bc_Mo_named 32 = .ok (.laload, 1) := by decide +kernel
theorem d_Mo_named_33 : decode bc_Mo_named 33 = .ok (.aload_n 0, 1) := by decide +kernel
theorem d_Mo_named_34 : decode bc_Mo_named 34 = .ok (.getfield 30, 3) := by decide +kernel
theorem d_Mo_named_37 : decode bc_Mo_named 37 = .ok (.iload_n 1, 1) := by decide +kernel
theorem d_Mo_named_38 : decode bc_Mo_named 38 = .ok (.laload, 1) := by decide +kernel
theorem d_Mo_named_39 : decode bc_Mo_named 39 = .ok (.lcmp, 1) := by decide +kernel
theorem d_Mo_named_40 : decode bc_Mo_named 40 = .ok (.ifCond .ne 9, 3) := by decide +kernel
theorem d_Mo_named_43 : decode bc_Mo_named 43 = .ok (.aload_n 0, 1) := by decide +kernel
theorem d_Mo_named_44 : decode bc_Mo_named 44 = .ok (.iconst 3, 1) := by decide +kernel
theorem d_Mo_named_45 : decode bc_Mo_named 45 = .ok (.iload_n 1, 1) := by decide +kernel
theorem d_Mo_named_46 : decode bc_Mo_named 46 = .ok (.invokevirtual 295, 3) := by decide +kernel
theorem d_Mo_named_49 : decode bc_Mo_named 49 = .ok (.iinc 2 1, 3) := by decide +kernel
theorem d_Mo_named_52 : decode bc_Mo_named 52 = .ok (.goto (-40), 3) := by decide +kernel
theorem d_Mo_named_55 : decode bc_Mo_named 55 = .ok (.iload_n 1, 1) := by decide +kernel
theorem d_Mo_named_56 : decode bc_Mo_named 56 = .ok (.ireturn, 1) := by decide +kernel
set_option maxRecDepth 20000 in
theorem w_Mo_named_b12 {X : CX} {V : WV} (hV : IsM V) {z : Int32 × Mem} (hC : Ck X V bc_Mo_named 3 "SecretWellsModel" (some .int) 3 62) (k12 : Int32 → Int32 → Mem → Option (Int32 × Mem)) (hk12 : ∀ (x1 : Int32) (x2 : Int32) (S : Mem), k12 x1 x2 S = some z → G X V 3 (QI X V z.1 z.2) 12 [some (.ref (V.2.2.1 0 0)), some (.int x1), some (.int x2)] [] S) (x1 : Int32) (x2 : Int32) (S : Mem) (h : f_Mo_named_b12  k12 x1 x2 S = some z) : G X V 3 (QI X V z.1 z.2) 12 [some (.ref (V.2.2.1 0 0)), some (.int x1), some (.int x2)] [] S := by
  unfold f_Mo_named_b12 at h
  refine g_iload_n (pc := 12) hC (i := 2) (x := x2) rfl rfl d_Mo_named_12 ?_
  refine g_aload_n (pc := 13) hC (i := 0) (x := (V.2.2.1 0 0)) rfl rfl d_Mo_named_13 ?_
  refine g_getI (pc := 14) hC fo_Mo_251 (ob_Mo hV) rfl d_Mo_named_14 ?_
  refine g_icmp_ge (pc := 17) hC (tgt := 55) (by decide) d_Mo_named_17 h (fun h => ?_) (fun h => ?_)
  · refine g_iload_n (pc := 55) hC (i := 1) (x := x1) rfl rfl d_Mo_named_55 ?_
    exact g_iW (pc := 56) hC rfl d_Mo_named_56 h
  · refine g_aload_n (pc := 20) hC (i := 0) (x := (V.2.2.1 0 0)) rfl rfl d_Mo_named_20 ?_
    refine g_getI (pc := 21) hC fo_Mo_215 (ob_Mo hV) rfl d_Mo_named_21 ?_
    refine g_if_ne (pc := 24) hC (tgt := 55) (by decide) d_Mo_named_24 h (fun h => ?_) (fun h => ?_)
    · refine g_iload_n (pc := 55) hC (i := 1) (x := x1) rfl rfl d_Mo_named_55 ?_
      exact g_iW (pc := 56) hC rfl d_Mo_named_56 h
    · refine g_aload_n (pc := 27) hC (i := 0) (x := (V.2.2.1 0 0)) rfl rfl d_Mo_named_27 ?_
      refine g_getA (pc := 28) hC fo_Mo_40 (ob_Mo hV) rfl d_Mo_named_28 ?_
      refine g_iload_n (pc := 31) hC (i := 2) (x := x2) rfl rfl d_Mo_named_31 ?_
      refine g_lald (pc := 32) hC (ar_Mo_21 hV) d_Mo_named_32 h (fun h => ?_)
      refine g_aload_n (pc := 33) hC (i := 0) (x := (V.2.2.1 0 0)) rfl rfl d_Mo_named_33 ?_
      refine g_getA (pc := 34) hC fo_Mo_30 (ob_Mo hV) rfl d_Mo_named_34 ?_
      refine g_iload_n (pc := 37) hC (i := 1) (x := x1) rfl rfl d_Mo_named_37 ?_
      refine g_lald (pc := 38) hC (ar_Mo_8 hV) d_Mo_named_38 h (fun h => ?_)
      refine g_lcmp (pc := 39) hC d_Mo_named_39 ?_
      refine g_if_ne (pc := 40) hC (tgt := 49) (by decide) d_Mo_named_40 h (fun h => ?_) (fun h => ?_)
      · refine s_iinc (pc := 49) hC (i := 2) (x := x2) (v := x2 + 1) rfl (by rw [kc_1]) (by decide) d_Mo_named_49 (lv2 := [some (.ref (V.2.2.1 0 0)), some (.int x1), some (.int (x2 + 1))]) rfl ?_
        refine g_goto (pc := 52) hC (tgt := 12) (by decide) d_Mo_named_52 ?_
        exact hk12 x1 (x2 + 1) S h
      · refine g_aload_n (pc := 43) hC (i := 0) (x := (V.2.2.1 0 0)) rfl rfl d_Mo_named_43 ?_
        refine g_iconst (pc := 44) hC kc_3 d_Mo_named_44 ?_
        refine g_iload_n (pc := 45) hC (i := 1) (x := x1) rfl rfl d_Mo_named_45 ?_
        obtain ⟨q46, hq46, h⟩ := Option.bind_eq_some_iff.mp h
        refine g_vv (pc := 46) hC (As := [.int 3, .int x1]) (st := []) mt_Mo_wrong lk_Mo_295 rfl (ob_Mo hV) (Nat.le_of_ble_eq_true rfl) ⟨Nat.le_of_ble_eq_true rfl, Nat.le_of_ble_eq_true rfl⟩ rfl d_Mo_named_46 (c_Mo_wrong hV hq46) ?_
        refine s_iinc (pc := 49) hC (i := 2) (x := x2) (v := x2 + 1) rfl (by rw [kc_1]) (by decide) d_Mo_named_49 (lv2 := [some (.ref (V.2.2.1 0 0)), some (.int x1), some (.int (x2 + 1))]) rfl ?_
        refine g_goto (pc := 52) hC (tgt := 12) (by decide) d_Mo_named_52 ?_
        exact hk12 x1 (x2 + 1) q46 h
theorem w_Mo_named_l12 {X : CX} {V : WV} (hV : IsM V) {z : Int32 × Mem} (hC : Ck X V bc_Mo_named 3 "SecretWellsModel" (some .int) 3 62) : ∀ (n : Nat) (x1 : Int32) (x2 : Int32) (S : Mem), f_Mo_named_l12  n x1 x2 S = some z → G X V 3 (QI X V z.1 z.2) 12 [some (.ref (V.2.2.1 0 0)), some (.int x1), some (.int x2)] [] S := by
  intro n
  induction n with
  | zero =>
    intro x1 x2 S h
    have h : (none : Option (Int32 × Mem)) = some z := h
    cases h
  | succ n ih =>
    intro x1 x2 S h
    exact w_Mo_named_b12 hV hC (f_Mo_named_l12  n) ih x1 x2 S h
set_option maxRecDepth 20000 in
theorem w_Mo_named_b0 {X : CX} {V : WV} (hV : IsM V) {z : Int32 × Mem} (hC : Ck X V bc_Mo_named 3 "SecretWellsModel" (some .int) 3 62) (S : Mem) (h : f_Mo_named_b0  S = some z) : G X V 3 (QI X V z.1 z.2) 0 [some (.ref (V.2.2.1 0 0)), none, none] [] S := by
  unfold f_Mo_named_b0 at h
  refine g_aload_n (pc := 0) hC (i := 0) (x := (V.2.2.1 0 0)) rfl rfl d_Mo_named_0 ?_
  refine g_getI (pc := 1) hC fo_Mo_218 (ob_Mo hV) rfl d_Mo_named_1 ?_
  refine g_leti h (fun y4 h => ?_)
  refine s_istore_n (pc := 4) hC (i := 1) rfl (by decide) d_Mo_named_4 (lv2 := [some (.ref (V.2.2.1 0 0)), some (.int y4), none]) rfl ?_
  refine g_aload_n (pc := 5) hC (i := 0) (x := (V.2.2.1 0 0)) rfl rfl d_Mo_named_5 ?_
  refine g_iconst (pc := 6) hC kc_1 d_Mo_named_6 ?_
  obtain ⟨q7, hq7, h⟩ := Option.bind_eq_some_iff.mp h
  refine g_vv (pc := 7) hC (As := [.int 1]) (st := []) mt_Mo_must lk_Mo_289 rfl (ob_Mo hV) (Nat.le_of_ble_eq_true rfl) ⟨Nat.le_of_ble_eq_true rfl, Nat.le_of_ble_eq_true rfl⟩ rfl d_Mo_named_7 (c_Mo_must hV hq7) ?_
  refine g_iconst (pc := 10) hC kc_0 d_Mo_named_10 ?_
  refine s_istore_n (pc := 11) hC (i := 2) rfl (by decide) d_Mo_named_11 (lv2 := [some (.ref (V.2.2.1 0 0)), some (.int y4), some (.int 0)]) rfl ?_
  exact w_Mo_named_l12 hV hC 5000 y4 0 q7 h
theorem c_Mo_named {V : WV} {l : Launch} (hV : IsM V) {S : Mem} {z : Int32 × Mem} (h : f_Mo_named S = some z) : CI V l y_Mo_named bc_Mo_named 3 (some .int) 3 62 [.ref (V.2.2.1 0 0)] S z.1 z.2 :=
  ct_i rfl (IsM.ok hV) (Nat.le_of_ble_eq_true rfl) (fun _ _ hC => w_Mo_named_b0 hV hC S h)
def f_Mo_bounded_b15 (x1 : Int32) (S : Mem) : Option (Int32 × Mem) :=
  Option.bind (f_Mo_fail 1 S) (fun q17 =>
  some (x1, q17))
def f_Mo_bounded_b51 (x3 : Int32) (S : Mem) : Option (Int32 × Mem) :=
  Option.bind (f_Mo_goesOn S) (fun q52 =>
  some (x3, q52))
def f_Mo_bounded_b42 (x3 : Int32) (S : Mem) : Option (Int32 × Mem) :=
  Option.bind (f_Mo_wrong 5 (S.1 0 11) S) (fun q48 =>
  f_Mo_bounded_b51 x3 q48)
def f_Mo_bounded_b0 (x1 : Int32) (x2 : Int32) (S : Mem) : Option (Int32 × Mem) :=
  if 0 < (S.1 0 13) then
    f_Mo_bounded_b15 x1 S
  else
    Option.bind (f_Mo_is 2 S) (fun q9 =>
    if q9 = 0 then
      f_Mo_bounded_b15 x1 S
    else
      gIn (S.1 0 11) 403 (
      letS (S.2.1 0 7 (S.1 0 11).toNatClampNeg) (fun y31 =>
      if y31 < x1 then
        f_Mo_bounded_b42 y31 S
      else
        if y31 ≤ x2 then
          f_Mo_bounded_b51 y31 S
        else
          f_Mo_bounded_b42 y31 S)))
def f_Mo_bounded (x1 : Int32) (x2 : Int32) (S : Mem) : Option (Int32 × Mem) := f_Mo_bounded_b0  x1 x2 S
theorem d_Mo_bounded_0 : decode bc_Mo_bounded 0 = .ok (.aload_n 0, 1) := by decide +kernel
theorem d_Mo_bounded_1 : decode bc_Mo_bounded 1 = .ok (.getfield 215, 3) := by decide +kernel
theorem d_Mo_bounded_4 : decode bc_Mo_bounded 4 = .ok (.ifCond .gt 11, 3) := by decide +kernel
theorem d_Mo_bounded_7 : decode bc_Mo_bounded 7 = .ok (.aload_n 0, 1) := by decide +kernel
theorem d_Mo_bounded_8 : decode bc_Mo_bounded 8 = .ok (.iconst 2, 1) := by decide +kernel
theorem d_Mo_bounded_9 : decode bc_Mo_bounded 9 = .ok (.invokevirtual 233, 3) := by decide +kernel
theorem d_Mo_bounded_12 : decode bc_Mo_bounded 12 = .ok (.ifCond .ne 10, 3) := by decide +kernel
theorem d_Mo_bounded_15 : decode bc_Mo_bounded 15 = .ok (.aload_n 0, 1) := by decide +kernel
theorem d_Mo_bounded_16 : decode bc_Mo_bounded 16 = .ok (.iconst 1, 1) := by decide +kernel
theorem d_Mo_bounded_17 : decode bc_Mo_bounded 17 = .ok (.invokevirtual 230, 3) := by decide +kernel
theorem d_Mo_bounded_20 : decode bc_Mo_bounded 20 = .ok (.iload_n 1, 1) := by decide +kernel
theorem d_Mo_bounded_21 : decode bc_Mo_bounded 21 = .ok (.ireturn, 1) := by decide +kernel
theorem d_Mo_bounded_22 : decode bc_Mo_bounded 22 = .ok (.aload_n 0, 1) := by decide +kernel
theorem d_Mo_bounded_23 : decode bc_Mo_bounded 23 = .ok (.getfield 27, 3) := by decide +kernel
theorem d_Mo_bounded_26 : decode bc_Mo_bounded 26 = .ok (.aload_n 0, 1) := by decide +kernel
theorem d_Mo_bounded_27 : decode bc_Mo_bounded 27 = .ok (.getfield 218, 3) := by decide +kernel
theorem d_Mo_bounded_30 : decode bc_Mo_bounded 30 = .ok (.iaload, 1) := by decide +kernel
theorem d_Mo_bounded_31 : decode bc_Mo_bounded 31 = .ok (.istore_n 3, 1) := by decide +kernel
theorem d_Mo_bounded_32 : decode bc_Mo_bounded 32 = .ok (.iload_n 3, 1) := by decide +kernel
theorem d_Mo_bounded_33 : decode bc_Mo_bounded 33 = .ok (.iload_n 1, 1) := by decide +kernel
theorem d_Mo_bounded_34 : decode bc_Mo_bounded 34 = .ok (.if_icmp .lt 8, 3) := by decide +kernel
theorem d_Mo_bounded_37 : decode bc_Mo_bounded 37 = .ok (.iload_n 3, 1) := by decide +kernel
theorem d_Mo_bounded_38 : decode bc_Mo_bounded 38 = .ok (.iload_n 2, 1) := by decide +kernel
theorem d_Mo_bounded_39 : decode bc_Mo_bounded 39 = .ok (.if_icmp .le 12, 3) := by decide +kernel
theorem d_Mo_bounded_42 : decode bc_Mo_bounded 42 = .ok (.aload_n 0, 1) := by decide +kernel
theorem d_Mo_bounded_43 : decode bc_Mo_bounded 43 = .ok (.iconst 5, 1) := by decide +kernel
theorem d_Mo_bounded_44 : decode bc_Mo_bounded 44 = .ok (.aload_n 0, 1) := by decide +kernel
theorem d_Mo_bounded_45 : decode bc_Mo_bounded 45 = .ok (.getfield 218, 3) := by decide +kernel
theorem d_Mo_bounded_48 : decode bc_Mo_bounded 48 = .ok (.invokevirtual 295, 3) := by decide +kernel
theorem d_Mo_bounded_51 : decode bc_Mo_bounded 51 = .ok (.aload_n 0, 1) := by decide +kernel
theorem d_Mo_bounded_52 : decode bc_Mo_bounded 52 = .ok (.invokevirtual 236, 3) := by decide +kernel
theorem d_Mo_bounded_55 : decode bc_Mo_bounded 55 = .ok (.iload_n 3, 1) := by decide +kernel
theorem d_Mo_bounded_56 : decode bc_Mo_bounded 56 = .ok (.ireturn, 1) := by decide +kernel
set_option maxRecDepth 20000 in
theorem w_Mo_bounded_b15 {X : CX} {V : WV} (hV : IsM V) {z : Int32 × Mem} (hC : Ck X V bc_Mo_bounded 4 "SecretWellsModel" (some .int) 2 41) (x1 : Int32) (S : Mem) (h : f_Mo_bounded_b15  x1 S = some z) : G X V 4 (QI X V z.1 z.2) 15 [some (.ref (V.2.2.1 0 0)), some (.int x1), none, none] [] S := by
  unfold f_Mo_bounded_b15 at h
  refine g_aload_n (pc := 15) hC (i := 0) (x := (V.2.2.1 0 0)) rfl rfl d_Mo_bounded_15 ?_
  refine g_iconst (pc := 16) hC kc_1 d_Mo_bounded_16 ?_
  obtain ⟨q17, hq17, h⟩ := Option.bind_eq_some_iff.mp h
  refine g_vv (pc := 17) hC (As := [.int 1]) (st := []) mt_Mo_fail lk_Mo_230 rfl (ob_Mo hV) (Nat.le_of_ble_eq_true rfl) ⟨Nat.le_of_ble_eq_true rfl, Nat.le_of_ble_eq_true rfl⟩ rfl d_Mo_bounded_17 (c_Mo_fail hV hq17) ?_
  refine g_iload_n (pc := 20) hC (i := 1) (x := x1) rfl rfl d_Mo_bounded_20 ?_
  exact g_iW (pc := 21) hC rfl d_Mo_bounded_21 h
set_option maxRecDepth 20000 in
theorem w_Mo_bounded_b51 {X : CX} {V : WV} (hV : IsM V) {z : Int32 × Mem} (hC : Ck X V bc_Mo_bounded 4 "SecretWellsModel" (some .int) 2 41) (x3 : Int32) (S : Mem) (h : f_Mo_bounded_b51  x3 S = some z) : G X V 4 (QI X V z.1 z.2) 51 [some (.ref (V.2.2.1 0 0)), none, none, some (.int x3)] [] S := by
  unfold f_Mo_bounded_b51 at h
  refine g_aload_n (pc := 51) hC (i := 0) (x := (V.2.2.1 0 0)) rfl rfl d_Mo_bounded_51 ?_
  obtain ⟨q52, hq52, h⟩ := Option.bind_eq_some_iff.mp h
  refine g_vv (pc := 52) hC (As := []) (st := []) mt_Mo_goesOn lk_Mo_236 rfl (ob_Mo hV) (Nat.le_of_ble_eq_true rfl) ⟨Nat.le_of_ble_eq_true rfl, Nat.le_of_ble_eq_true rfl⟩ rfl d_Mo_bounded_52 (c_Mo_goesOn hV hq52) ?_
  refine g_iload_n (pc := 55) hC (i := 3) (x := x3) rfl rfl d_Mo_bounded_55 ?_
  exact g_iW (pc := 56) hC rfl d_Mo_bounded_56 h
set_option maxRecDepth 20000 in
theorem w_Mo_bounded_b42 {X : CX} {V : WV} (hV : IsM V) {z : Int32 × Mem} (hC : Ck X V bc_Mo_bounded 4 "SecretWellsModel" (some .int) 2 41) (x3 : Int32) (S : Mem) (h : f_Mo_bounded_b42  x3 S = some z) : G X V 4 (QI X V z.1 z.2) 42 [some (.ref (V.2.2.1 0 0)), none, none, some (.int x3)] [] S := by
  unfold f_Mo_bounded_b42 at h
  refine g_aload_n (pc := 42) hC (i := 0) (x := (V.2.2.1 0 0)) rfl rfl d_Mo_bounded_42 ?_
  refine g_iconst (pc := 43) hC kc_5 d_Mo_bounded_43 ?_
  refine g_aload_n (pc := 44) hC (i := 0) (x := (V.2.2.1 0 0)) rfl rfl d_Mo_bounded_44 ?_
  refine g_getI (pc := 45) hC fo_Mo_218 (ob_Mo hV) rfl d_Mo_bounded_45 ?_
  obtain ⟨q48, hq48, h⟩ := Option.bind_eq_some_iff.mp h
  refine g_vv (pc := 48) hC (As := [.int 5, .int (S.1 0 11)]) (st := []) mt_Mo_wrong lk_Mo_295 rfl (ob_Mo hV) (Nat.le_of_ble_eq_true rfl) ⟨Nat.le_of_ble_eq_true rfl, Nat.le_of_ble_eq_true rfl⟩ rfl d_Mo_bounded_48 (c_Mo_wrong hV hq48) ?_
  exact w_Mo_bounded_b51 hV hC x3 q48 h
set_option maxRecDepth 20000 in
theorem w_Mo_bounded_b0 {X : CX} {V : WV} (hV : IsM V) {z : Int32 × Mem} (hC : Ck X V bc_Mo_bounded 4 "SecretWellsModel" (some .int) 2 41) (x1 : Int32) (x2 : Int32) (S : Mem) (h : f_Mo_bounded_b0  x1 x2 S = some z) : G X V 4 (QI X V z.1 z.2) 0 [some (.ref (V.2.2.1 0 0)), some (.int x1), some (.int x2), none] [] S := by
  unfold f_Mo_bounded_b0 at h
  refine g_aload_n (pc := 0) hC (i := 0) (x := (V.2.2.1 0 0)) rfl rfl d_Mo_bounded_0 ?_
  refine g_getI (pc := 1) hC fo_Mo_215 (ob_Mo hV) rfl d_Mo_bounded_1 ?_
  refine g_if_gt (pc := 4) hC (tgt := 15) (by decide) d_Mo_bounded_4 h (fun h => ?_) (fun h => ?_)
  · refine g_le (lv2 := [some (.ref (V.2.2.1 0 0)), some (.int x1), none, none]) (⟨rfl, ⟨rfl, trivial⟩⟩) ?_
    exact w_Mo_bounded_b15 hV hC x1 S h
  · refine g_aload_n (pc := 7) hC (i := 0) (x := (V.2.2.1 0 0)) rfl rfl d_Mo_bounded_7 ?_
    refine g_iconst (pc := 8) hC kc_2 d_Mo_bounded_8 ?_
    obtain ⟨q9, hq9, h⟩ := Option.bind_eq_some_iff.mp h
    refine g_vi (pc := 9) hC (As := [.int 2]) (st := []) mt_Mo_is lk_Mo_233 rfl (ob_Mo hV) (Nat.le_of_ble_eq_true rfl) ⟨Nat.le_of_ble_eq_true rfl, Nat.le_of_ble_eq_true rfl⟩ rfl d_Mo_bounded_9 (c_Mo_is hV hq9) ?_
    refine g_if_ne (pc := 12) hC (tgt := 22) (by decide) d_Mo_bounded_12 h (fun h => ?_) (fun h => ?_)
    · refine g_aload_n (pc := 22) hC (i := 0) (x := (V.2.2.1 0 0)) rfl rfl d_Mo_bounded_22 ?_
      refine g_getA (pc := 23) hC fo_Mo_27 (ob_Mo hV) rfl d_Mo_bounded_23 ?_
      refine g_aload_n (pc := 26) hC (i := 0) (x := (V.2.2.1 0 0)) rfl rfl d_Mo_bounded_26 ?_
      refine g_getI (pc := 27) hC fo_Mo_218 (ob_Mo hV) rfl d_Mo_bounded_27 ?_
      refine g_iald (pc := 30) hC (ar_Mo_7 hV) d_Mo_bounded_30 h (fun h => ?_)
      refine g_leti h (fun y31 h => ?_)
      refine s_istore_n (pc := 31) hC (i := 3) rfl (by decide) d_Mo_bounded_31 (lv2 := [some (.ref (V.2.2.1 0 0)), some (.int x1), some (.int x2), some (.int y31)]) rfl ?_
      refine g_iload_n (pc := 32) hC (i := 3) (x := y31) rfl rfl d_Mo_bounded_32 ?_
      refine g_iload_n (pc := 33) hC (i := 1) (x := x1) rfl rfl d_Mo_bounded_33 ?_
      refine g_icmp_lt (pc := 34) hC (tgt := 42) (by decide) d_Mo_bounded_34 h (fun h => ?_) (fun h => ?_)
      · refine g_le (lv2 := [some (.ref (V.2.2.1 0 0)), none, none, some (.int y31)]) (⟨rfl, ⟨rfl, trivial⟩⟩) ?_
        exact w_Mo_bounded_b42 hV hC y31 S h
      · refine g_iload_n (pc := 37) hC (i := 3) (x := y31) rfl rfl d_Mo_bounded_37 ?_
        refine g_iload_n (pc := 38) hC (i := 2) (x := x2) rfl rfl d_Mo_bounded_38 ?_
        refine g_icmp_le (pc := 39) hC (tgt := 51) (by decide) d_Mo_bounded_39 h (fun h => ?_) (fun h => ?_)
        · refine g_le (lv2 := [some (.ref (V.2.2.1 0 0)), none, none, some (.int y31)]) (⟨rfl, ⟨rfl, trivial⟩⟩) ?_
          exact w_Mo_bounded_b51 hV hC y31 S h
        · refine g_le (lv2 := [some (.ref (V.2.2.1 0 0)), none, none, some (.int y31)]) (⟨rfl, ⟨rfl, trivial⟩⟩) ?_
          exact w_Mo_bounded_b42 hV hC y31 S h
    · refine g_le (lv2 := [some (.ref (V.2.2.1 0 0)), some (.int x1), none, none]) (⟨rfl, ⟨rfl, trivial⟩⟩) ?_
      exact w_Mo_bounded_b15 hV hC x1 S h
theorem c_Mo_bounded {V : WV} {l : Launch} (hV : IsM V) {x1 : Int32} {x2 : Int32} {S : Mem} {z : Int32 × Mem} (h : f_Mo_bounded x1 x2 S = some z) : CI V l y_Mo_bounded bc_Mo_bounded 4 (some .int) 2 41 [.ref (V.2.2.1 0 0), .int x1, .int x2] S z.1 z.2 :=
  ct_i rfl (IsM.ok hV) (Nat.le_of_ble_eq_true rfl) (fun _ _ hC => w_Mo_bounded_b0 hV hC x1 x2 S h)
def f_Mo_notes_b0 (x1 : Int32) (x2 : Int32) (x3 : Int32) (S : Mem) : Option (Mem) :=
  gIn x1 403 (
  gIn (S.1 0 20) 19 (letS (sL S 0 21 (S.1 0 20) (S.2.2 0 8 x1.toNatClampNeg)) (fun S14 =>
  gIn (S14.1 0 20) 19 (letS (sA S14 0 22 (S14.1 0 20) x2) (fun S24 =>
  gIn (S24.1 0 20) 19 (letS (sA S24 0 23 (S24.1 0 20) x3) (fun S34 =>
  letS (pI S34 0 20 ((S34.1 0 20) + 1)) (fun S42 =>
  some S42))))))))
def f_Mo_notes (x1 : Int32) (x2 : Int32) (x3 : Int32) (S : Mem) : Option (Mem) := f_Mo_notes_b0  x1 x2 x3 S
theorem d_Mo_notes_0 : decode bc_Mo_notes 0 = .ok (.aload_n 0, 1) := by decide +kernel
theorem d_Mo_notes_1 : decode bc_Mo_notes 1 = .ok (.getfield 40, 3) := by decide +kernel
theorem d_Mo_notes_4 : decode bc_Mo_notes 4 = .ok (.aload_n 0, 1) := by decide +kernel
theorem d_Mo_notes_5 : decode bc_Mo_notes 5 = .ok (.getfield 251, 3) := by decide +kernel
theorem d_Mo_notes_8 : decode bc_Mo_notes 8 = .ok (.aload_n 0, 1) := by decide +kernel
theorem d_Mo_notes_9 : decode bc_Mo_notes 9 = .ok (.getfield 30, 3) := by decide +kernel
theorem d_Mo_notes_12 : decode bc_Mo_notes 12 = .ok (.iload_n 1, 1) := by decide +kernel
theorem d_Mo_notes_13 : decode bc_Mo_notes 13 = .ok (.laload, 1) := by decide +kernel
theorem d_Mo_notes_14 : decode bc_Mo_notes 14 = .ok (.lastore, 1) := by decide +kernel
theorem d_Mo_notes_15 : decode bc_Mo_notes 15 = .ok (.aload_n 0, 1) := by decide +kernel
theorem d_Mo_notes_16 : decode bc_Mo_notes 16 = .ok (.getfield 43, 3) := by decide +kernel
theorem d_Mo_notes_19 : decode bc_Mo_notes 19 = .ok (.aload_n 0, 1) := by decide +kernel
theorem d_Mo_notes_20 : decode bc_Mo_notes 20 = .ok (.getfield 251, 3) := by decide +kernel
theorem d_Mo_notes_23 : decode bc_Mo_notes 23 = .ok (.iload_n 2, 1) := by decide +kernel
theorem d_Mo_notes_24 : decode bc_Mo_notes 24 = .ok (.iastore, 1) := by decide +kernel
theorem d_Mo_notes_25 : decode bc_Mo_notes 25 = .ok (.aload_n 0, 1) := by decide +kernel
theorem d_Mo_notes_26 : decode bc_Mo_notes 26 = .ok (.getfield 46, 3) := by decide +kernel
theorem d_Mo_notes_29 : decode bc_Mo_notes 29 = .ok (.aload_n 0, 1) := by decide +kernel
theorem d_Mo_notes_30 : decode bc_Mo_notes 30 = .ok (.getfield 251, 3) := by decide +kernel
theorem d_Mo_notes_33 : decode bc_Mo_notes 33 = .ok (.iload_n 3, 1) := by decide +kernel
theorem d_Mo_notes_34 : decode bc_Mo_notes 34 = .ok (.iastore, 1) := by decide +kernel
theorem d_Mo_notes_35 : decode bc_Mo_notes 35 = .ok (.aload_n 0, 1) := by decide +kernel
theorem d_Mo_notes_36 : decode bc_Mo_notes 36 = .ok (.dup, 1) := by decide +kernel
theorem d_Mo_notes_37 : decode bc_Mo_notes 37 = .ok (.getfield 251, 3) := by decide +kernel
theorem d_Mo_notes_40 : decode bc_Mo_notes 40 = .ok (.iconst 1, 1) := by decide +kernel
theorem d_Mo_notes_41 : decode bc_Mo_notes 41 = .ok (.iadd, 1) := by decide +kernel
theorem d_Mo_notes_42 : decode bc_Mo_notes 42 = .ok (.putfield 251, 3) := by decide +kernel
theorem d_Mo_notes_45 : decode bc_Mo_notes 45 = .ok (.return_, 1) := by decide +kernel
set_option maxRecDepth 20000 in
theorem w_Mo_notes_b0 {X : CX} {V : WV} (hV : IsM V) {z : Mem} (hC : Ck X V bc_Mo_notes 4 "SecretWellsModel" none 0 0) (x1 : Int32) (x2 : Int32) (x3 : Int32) (S : Mem) (h : f_Mo_notes_b0  x1 x2 x3 S = some z) : G X V 4 (QV X V z) 0 [some (.ref (V.2.2.1 0 0)), some (.int x1), some (.int x2), some (.int x3)] [] S := by
  unfold f_Mo_notes_b0 at h
  refine g_aload_n (pc := 0) hC (i := 0) (x := (V.2.2.1 0 0)) rfl rfl d_Mo_notes_0 ?_
  refine g_getA (pc := 1) hC fo_Mo_40 (ob_Mo hV) rfl d_Mo_notes_1 ?_
  refine g_aload_n (pc := 4) hC (i := 0) (x := (V.2.2.1 0 0)) rfl rfl d_Mo_notes_4 ?_
  refine g_getI (pc := 5) hC fo_Mo_251 (ob_Mo hV) rfl d_Mo_notes_5 ?_
  refine g_aload_n (pc := 8) hC (i := 0) (x := (V.2.2.1 0 0)) rfl rfl d_Mo_notes_8 ?_
  refine g_getA (pc := 9) hC fo_Mo_30 (ob_Mo hV) rfl d_Mo_notes_9 ?_
  refine g_iload_n (pc := 12) hC (i := 1) (x := x1) rfl rfl d_Mo_notes_12 ?_
  refine g_lald (pc := 13) hC (ar_Mo_8 hV) d_Mo_notes_13 h (fun h => ?_)
  refine g_last (pc := 14) hC (ar_Mo_21 hV) d_Mo_notes_14 h (fun h => ?_)
  refine g_letS h (fun S14 h => ?_)
  refine g_aload_n (pc := 15) hC (i := 0) (x := (V.2.2.1 0 0)) rfl rfl d_Mo_notes_15 ?_
  refine g_getA (pc := 16) hC fo_Mo_43 (ob_Mo hV) rfl d_Mo_notes_16 ?_
  refine g_aload_n (pc := 19) hC (i := 0) (x := (V.2.2.1 0 0)) rfl rfl d_Mo_notes_19 ?_
  refine g_getI (pc := 20) hC fo_Mo_251 (ob_Mo hV) rfl d_Mo_notes_20 ?_
  refine g_iload_n (pc := 23) hC (i := 2) (x := x2) rfl rfl d_Mo_notes_23 ?_
  refine g_iast (pc := 24) hC (ar_Mo_22 hV) d_Mo_notes_24 h (fun h => ?_)
  refine g_letS h (fun S24 h => ?_)
  refine g_aload_n (pc := 25) hC (i := 0) (x := (V.2.2.1 0 0)) rfl rfl d_Mo_notes_25 ?_
  refine g_getA (pc := 26) hC fo_Mo_46 (ob_Mo hV) rfl d_Mo_notes_26 ?_
  refine g_aload_n (pc := 29) hC (i := 0) (x := (V.2.2.1 0 0)) rfl rfl d_Mo_notes_29 ?_
  refine g_getI (pc := 30) hC fo_Mo_251 (ob_Mo hV) rfl d_Mo_notes_30 ?_
  refine g_iload_n (pc := 33) hC (i := 3) (x := x3) rfl rfl d_Mo_notes_33 ?_
  refine g_iast (pc := 34) hC (ar_Mo_23 hV) d_Mo_notes_34 h (fun h => ?_)
  refine g_letS h (fun S34 h => ?_)
  refine g_aload_n (pc := 35) hC (i := 0) (x := (V.2.2.1 0 0)) rfl rfl d_Mo_notes_35 ?_
  refine g_dup (pc := 36) hC rfl d_Mo_notes_36 ?_
  refine g_getI (pc := 37) hC fo_Mo_251 (ob_Mo hV) rfl d_Mo_notes_37 ?_
  refine g_iconst (pc := 40) hC kc_1 d_Mo_notes_40 ?_
  refine g_iadd (pc := 41) hC d_Mo_notes_41 ?_
  refine g_putI (pc := 42) hC po_Mo_251 (ob_Mo hV) rfl rfl rfl d_Mo_notes_42 ?_
  refine g_letS h (fun S42 h => ?_)
  exact g_vW (pc := 45) hC d_Mo_notes_45 h
theorem c_Mo_notes {V : WV} {l : Launch} (hV : IsM V) {x1 : Int32} {x2 : Int32} {x3 : Int32} {S : Mem} {z : Mem} (h : f_Mo_notes x1 x2 x3 S = some z) : CV V l y_Mo_notes bc_Mo_notes 4 none 0 0 [.ref (V.2.2.1 0 0), .int x1, .int x2, .int x3] S z :=
  ct_v rfl (IsM.ok hV) (Nat.le_of_ble_eq_true rfl) (fun _ _ hC => w_Mo_notes_b0 hV hC x1 x2 x3 S h)
def f_Mo_tellWell_b0 (S : Mem) : Option (Mem) :=
  gIn (S.1 0 19) 2 (
  letS ((4 * (S.1 0 19)) + (S.2.1 0 24 (S.1 0 19).toNatClampNeg)) (fun y16 =>
  Option.bind (f_Mo_named S) (fun q18 =>
  letS q18.1 (fun y21 =>
  Option.bind (f_Mo_bounded 0 999 q18.2) (fun q32 =>
  gIn y16 8 (letS (sA q32.2 0 25 y16 q32.1) (fun S35 =>
  Option.bind (f_Mo_bounded 0 999 S35) (fun q46 =>
  gIn y16 8 (letS (sA q46.2 0 26 y16 q46.1) (fun S49 =>
  Option.bind (f_Mo_must 4 S49) (fun q52 =>
  if (q52.1 0 13) ≤ 0 then
    gIn (q52.1 0 19) 2 (
    Option.bind (f_Mo_notes y21 0 (q52.2.1 0 24 (q52.1 0 19).toNatClampNeg) q52) (fun q75 =>
    gIn (q75.1 0 19) 2 (
    gIn (q75.1 0 19) 2 (letS (sA q75 0 24 (q75.1 0 19) ((q75.2.1 0 24 (q75.1 0 19).toNatClampNeg) + 1)) (fun S90 =>
    some S90)))))
  else
    some q52)))))))))))
def f_Mo_tellWell (S : Mem) : Option (Mem) := f_Mo_tellWell_b0  S
theorem d_Mo_tellWell_0 : decode bc_Mo_tellWell 0 = .ok (.iconst 4, 1) := by decide +kernel
theorem d_Mo_tellWell_1 : decode bc_Mo_tellWell 1 = .ok (.aload_n 0, 1) := by decide +kernel
theorem d_Mo_tellWell_2 : decode bc_Mo_tellWell 2 = .ok (.getfield 248, 3) := by decide +kernel
theorem d_Mo_tellWell_5 : decode bc_Mo_tellWell 5 = .ok (.imul, 1) := by decide +kernel
theorem d_Mo_tellWell_6 : decode bc_Mo_tellWell 6 = .ok (.aload_n 0, 1) := by decide +kernel
theorem d_Mo_tellWell_7 : decode bc_Mo_tellWell 7 = .ok (.getfield 49, 3) := by decide +kernel
theorem d_Mo_tellWell_10 : decode bc_Mo_tellWell 10 = .ok (.aload_n 0, 1) := by decide +kernel
theorem d_Mo_tellWell_11 : decode bc_Mo_tellWell 11 = .ok (.getfield 248, 3) := by decide +kernel
theorem d_Mo_tellWell_14 : decode bc_Mo_tellWell 14 = .ok (.iaload, 1) := by decide +kernel
theorem d_Mo_tellWell_15 : decode bc_Mo_tellWell 15 = .ok (.iadd, 1) := by decide +kernel
theorem d_Mo_tellWell_16 : decode bc_Mo_tellWell 16 = .ok (.istore_n 1, 1) := by decide +kernel
theorem d_Mo_tellWell_17 : decode bc_Mo_tellWell 17 = .ok (.aload_n 0, 1) := by decide +kernel
theorem d_Mo_tellWell_18 : decode bc_Mo_tellWell 18 = .ok (.invokevirtual 298, 3) := by decide +kernel
theorem d_Mo_tellWell_21 : decode bc_Mo_tellWell 21 = .ok (.istore_n 2, 1) := by decide +kernel
theorem d_Mo_tellWell_22 : decode bc_Mo_tellWell 22 = .ok (.aload_n 0, 1) := by decide +kernel
theorem d_Mo_tellWell_23 : decode bc_Mo_tellWell 23 = .ok (.getfield 52, 3) := by decide +kernel
theorem d_Mo_tellWell_26 : decode bc_Mo_tellWell 26 = .ok (.iload_n 1, 1) := by decide +kernel
theorem d_Mo_tellWell_27 : decode bc_Mo_tellWell 27 = .ok (.aload_n 0, 1) := by decide +kernel
theorem d_Mo_tellWell_28 : decode bc_Mo_tellWell 28 = .ok (.iconst 0, 1) := by decide +kernel
theorem d_Mo_tellWell_29 : decode bc_Mo_tellWell 29 = .ok (.sipush 999, 3) := by decide +kernel
theorem d_Mo_tellWell_32 : decode bc_Mo_tellWell 32 = .ok (.invokevirtual 285, 3) := by decide +kernel
theorem d_Mo_tellWell_35 : decode bc_Mo_tellWell 35 = .ok (.iastore, 1) := by decide +kernel
theorem d_Mo_tellWell_36 : decode bc_Mo_tellWell 36 = .ok (.aload_n 0, 1) := by decide +kernel
theorem d_Mo_tellWell_37 : decode bc_Mo_tellWell 37 = .ok (.getfield 55, 3) := by decide +kernel
theorem d_Mo_tellWell_40 : decode bc_Mo_tellWell 40 = .ok (.iload_n 1, 1) := by decide +kernel
theorem d_Mo_tellWell_41 : decode bc_Mo_tellWell 41 = .ok (.aload_n 0, 1) := by decide +kernel
theorem d_Mo_tellWell_42 : decode bc_Mo_tellWell 42 = .ok (.iconst 0, 1) := by decide +kernel
theorem d_Mo_tellWell_43 : decode bc_Mo_tellWell 43 = .ok (.sipush 999, 3) := by decide +kernel
theorem d_Mo_tellWell_46 : decode bc_Mo_tellWell 46 = .ok (.invokevirtual 285, 3) := by decide +kernel
theorem d_Mo_tellWell_49 : decode bc_Mo_tellWell 49 = .ok (.iastore, 1) := by decide +kernel
theorem d_Mo_tellWell_50 : decode bc_Mo_tellWell 50 = .ok (.aload_n 0, 1) := by decide +kernel
theorem d_Mo_tellWell_51 : decode bc_Mo_tellWell 51 = .ok (.iconst 4, 1) := by decide +kernel
theorem d_Mo_tellWell_52 : decode bc_Mo_tellWell 52 = .ok (.invokevirtual 289, 3) := by decide +kernel
theorem d_Mo_tellWell_55 : decode bc_Mo_tellWell 55 = .ok (.aload_n 0, 1) := by decide +kernel
theorem d_Mo_tellWell_56 : decode bc_Mo_tellWell 56 = .ok (.getfield 215, 3) := by decide +kernel
theorem d_Mo_tellWell_59 : decode bc_Mo_tellWell 59 = .ok (.ifCond .le 4, 3) := by decide +kernel
theorem d_Mo_tellWell_62 : decode bc_Mo_tellWell 62 = .ok (.return_, 1) := by decide +kernel
theorem d_Mo_tellWell_63 : decode bc_Mo_tellWell 63 = .ok (.aload_n 0, 1) := by decide +kernel
theorem d_Mo_tellWell_64 : decode bc_Mo_tellWell 64 = .ok (.iload_n 2, 1) := by decide +kernel
theorem d_Mo_tellWell_65 : decode bc_Mo_tellWell 65 = .ok (.iconst 0, 1) := by decide +kernel
theorem d_Mo_tellWell_66 : decode bc_Mo_tellWell 66 = .ok (.aload_n 0, 1) := by decide +kernel
theorem d_Mo_tellWell_67 : decode bc_Mo_tellWell 67 = .ok (.getfield 49, 3) := by decide +kernel
theorem d_Mo_tellWell_70 : decode bc_Mo_tellWell 70 = .ok (.aload_n 0, 1) := by decide +kernel
theorem d_Mo_tellWell_71 : decode bc_Mo_tellWell 71 = .ok (.getfield 248, 3) := by decide +kernel
theorem d_Mo_tellWell_74 : decode bc_Mo_tellWell 74 = .ok (.iaload, 1) := by decide +kernel
theorem d_Mo_tellWell_75 : decode bc_Mo_tellWell 75 = .ok (.invokevirtual 302, 3) := by decide +kernel
theorem d_Mo_tellWell_78 : decode bc_Mo_tellWell 78 = .ok (.aload_n 0, 1) := by decide +kernel
theorem d_Mo_tellWell_79 : decode bc_Mo_tellWell 79 = .ok (.getfield 49, 3) := by decide +kernel
theorem d_Mo_tellWell_82 : decode bc_Mo_tellWell 82 = .ok (.aload_n 0, 1) := by decide +kernel
theorem d_Mo_tellWell_83 : decode bc_Mo_tellWell 83 = .ok (.getfield 248, 3) := by decide +kernel
theorem d_Mo_tellWell_86 : decode bc_Mo_tellWell 86 = .ok (.dup2, 1) := by decide +kernel
theorem d_Mo_tellWell_87 : decode bc_Mo_tellWell 87 = .ok (.iaload, 1) := by decide +kernel
theorem d_Mo_tellWell_88 : decode bc_Mo_tellWell 88 = .ok (.iconst 1, 1) := by decide +kernel
theorem d_Mo_tellWell_89 : decode bc_Mo_tellWell 89 = .ok (.iadd, 1) := by decide +kernel
theorem d_Mo_tellWell_90 : decode bc_Mo_tellWell 90 = .ok (.iastore, 1) := by decide +kernel
theorem d_Mo_tellWell_91 : decode bc_Mo_tellWell 91 = .ok (.return_, 1) := by decide +kernel
set_option maxRecDepth 20000 in
theorem w_Mo_tellWell_b0 {X : CX} {V : WV} (hV : IsM V) {z : Mem} (hC : Ck X V bc_Mo_tellWell 3 "SecretWellsModel" none 4 84) (S : Mem) (h : f_Mo_tellWell_b0  S = some z) : G X V 3 (QV X V z) 0 [some (.ref (V.2.2.1 0 0)), none, none] [] S := by
  unfold f_Mo_tellWell_b0 at h
  refine g_iconst (pc := 0) hC kc_4 d_Mo_tellWell_0 ?_
  refine g_aload_n (pc := 1) hC (i := 0) (x := (V.2.2.1 0 0)) rfl rfl d_Mo_tellWell_1 ?_
  refine g_getI (pc := 2) hC fo_Mo_248 (ob_Mo hV) rfl d_Mo_tellWell_2 ?_
  refine g_imul (pc := 5) hC d_Mo_tellWell_5 ?_
  refine g_aload_n (pc := 6) hC (i := 0) (x := (V.2.2.1 0 0)) rfl rfl d_Mo_tellWell_6 ?_
  refine g_getA (pc := 7) hC fo_Mo_49 (ob_Mo hV) rfl d_Mo_tellWell_7 ?_
  refine g_aload_n (pc := 10) hC (i := 0) (x := (V.2.2.1 0 0)) rfl rfl d_Mo_tellWell_10 ?_
  refine g_getI (pc := 11) hC fo_Mo_248 (ob_Mo hV) rfl d_Mo_tellWell_11 ?_
  refine g_iald (pc := 14) hC (ar_Mo_24 hV) d_Mo_tellWell_14 h (fun h => ?_)
  refine g_iadd (pc := 15) hC d_Mo_tellWell_15 ?_
  refine g_leti h (fun y16 h => ?_)
  refine s_istore_n (pc := 16) hC (i := 1) rfl (by decide) d_Mo_tellWell_16 (lv2 := [some (.ref (V.2.2.1 0 0)), some (.int y16), none]) rfl ?_
  refine g_aload_n (pc := 17) hC (i := 0) (x := (V.2.2.1 0 0)) rfl rfl d_Mo_tellWell_17 ?_
  obtain ⟨q18, hq18, h⟩ := Option.bind_eq_some_iff.mp h
  refine g_vi (pc := 18) hC (As := []) (st := []) mt_Mo_named lk_Mo_298 rfl (ob_Mo hV) (Nat.le_of_ble_eq_true rfl) ⟨Nat.le_of_ble_eq_true rfl, Nat.le_of_ble_eq_true rfl⟩ rfl d_Mo_tellWell_18 (c_Mo_named hV hq18) ?_
  refine g_leti h (fun y21 h => ?_)
  refine s_istore_n (pc := 21) hC (i := 2) rfl (by decide) d_Mo_tellWell_21 (lv2 := [some (.ref (V.2.2.1 0 0)), some (.int y16), some (.int y21)]) rfl ?_
  refine g_aload_n (pc := 22) hC (i := 0) (x := (V.2.2.1 0 0)) rfl rfl d_Mo_tellWell_22 ?_
  refine g_getA (pc := 23) hC fo_Mo_52 (ob_Mo hV) rfl d_Mo_tellWell_23 ?_
  refine g_iload_n (pc := 26) hC (i := 1) (x := y16) rfl rfl d_Mo_tellWell_26 ?_
  refine g_aload_n (pc := 27) hC (i := 0) (x := (V.2.2.1 0 0)) rfl rfl d_Mo_tellWell_27 ?_
  refine g_iconst (pc := 28) hC kc_0 d_Mo_tellWell_28 ?_
  refine g_sipush (pc := 29) hC ks_999 d_Mo_tellWell_29 ?_
  obtain ⟨q32, hq32, h⟩ := Option.bind_eq_some_iff.mp h
  refine g_vi (pc := 32) hC (As := [.int 0, .int 999]) (st := [.int y16, .ref (V.2.2.1 0 (25 + 1))]) mt_Mo_bounded lk_Mo_285 rfl (ob_Mo hV) (Nat.le_of_ble_eq_true rfl) ⟨Nat.le_of_ble_eq_true rfl, Nat.le_of_ble_eq_true rfl⟩ rfl d_Mo_tellWell_32 (c_Mo_bounded hV hq32) ?_
  refine g_iast (pc := 35) hC (ar_Mo_25 hV) d_Mo_tellWell_35 h (fun h => ?_)
  refine g_letS h (fun S35 h => ?_)
  refine g_aload_n (pc := 36) hC (i := 0) (x := (V.2.2.1 0 0)) rfl rfl d_Mo_tellWell_36 ?_
  refine g_getA (pc := 37) hC fo_Mo_55 (ob_Mo hV) rfl d_Mo_tellWell_37 ?_
  refine g_iload_n (pc := 40) hC (i := 1) (x := y16) rfl rfl d_Mo_tellWell_40 ?_
  refine g_aload_n (pc := 41) hC (i := 0) (x := (V.2.2.1 0 0)) rfl rfl d_Mo_tellWell_41 ?_
  refine g_iconst (pc := 42) hC kc_0 d_Mo_tellWell_42 ?_
  refine g_sipush (pc := 43) hC ks_999 d_Mo_tellWell_43 ?_
  obtain ⟨q46, hq46, h⟩ := Option.bind_eq_some_iff.mp h
  refine g_vi (pc := 46) hC (As := [.int 0, .int 999]) (st := [.int y16, .ref (V.2.2.1 0 (26 + 1))]) mt_Mo_bounded lk_Mo_285 rfl (ob_Mo hV) (Nat.le_of_ble_eq_true rfl) ⟨Nat.le_of_ble_eq_true rfl, Nat.le_of_ble_eq_true rfl⟩ rfl d_Mo_tellWell_46 (c_Mo_bounded hV hq46) ?_
  refine g_iast (pc := 49) hC (ar_Mo_26 hV) d_Mo_tellWell_49 h (fun h => ?_)
  refine g_letS h (fun S49 h => ?_)
  refine g_aload_n (pc := 50) hC (i := 0) (x := (V.2.2.1 0 0)) rfl rfl d_Mo_tellWell_50 ?_
  refine g_iconst (pc := 51) hC kc_4 d_Mo_tellWell_51 ?_
  obtain ⟨q52, hq52, h⟩ := Option.bind_eq_some_iff.mp h
  refine g_vv (pc := 52) hC (As := [.int 4]) (st := []) mt_Mo_must lk_Mo_289 rfl (ob_Mo hV) (Nat.le_of_ble_eq_true rfl) ⟨Nat.le_of_ble_eq_true rfl, Nat.le_of_ble_eq_true rfl⟩ rfl d_Mo_tellWell_52 (c_Mo_must hV hq52) ?_
  refine g_aload_n (pc := 55) hC (i := 0) (x := (V.2.2.1 0 0)) rfl rfl d_Mo_tellWell_55 ?_
  refine g_getI (pc := 56) hC fo_Mo_215 (ob_Mo hV) rfl d_Mo_tellWell_56 ?_
  refine g_if_le (pc := 59) hC (tgt := 63) (by decide) d_Mo_tellWell_59 h (fun h => ?_) (fun h => ?_)
  · refine g_aload_n (pc := 63) hC (i := 0) (x := (V.2.2.1 0 0)) rfl rfl d_Mo_tellWell_63 ?_
    refine g_iload_n (pc := 64) hC (i := 2) (x := y21) rfl rfl d_Mo_tellWell_64 ?_
    refine g_iconst (pc := 65) hC kc_0 d_Mo_tellWell_65 ?_
    refine g_aload_n (pc := 66) hC (i := 0) (x := (V.2.2.1 0 0)) rfl rfl d_Mo_tellWell_66 ?_
    refine g_getA (pc := 67) hC fo_Mo_49 (ob_Mo hV) rfl d_Mo_tellWell_67 ?_
    refine g_aload_n (pc := 70) hC (i := 0) (x := (V.2.2.1 0 0)) rfl rfl d_Mo_tellWell_70 ?_
    refine g_getI (pc := 71) hC fo_Mo_248 (ob_Mo hV) rfl d_Mo_tellWell_71 ?_
    refine g_iald (pc := 74) hC (ar_Mo_24 hV) d_Mo_tellWell_74 h (fun h => ?_)
    obtain ⟨q75, hq75, h⟩ := Option.bind_eq_some_iff.mp h
    refine g_vv (pc := 75) hC (As := [.int y21, .int 0, .int (q52.2.1 0 24 (q52.1 0 19).toNatClampNeg)]) (st := []) mt_Mo_notes lk_Mo_302 rfl (ob_Mo hV) (Nat.le_of_ble_eq_true rfl) ⟨Nat.le_of_ble_eq_true rfl, Nat.le_of_ble_eq_true rfl⟩ rfl d_Mo_tellWell_75 (c_Mo_notes hV hq75) ?_
    refine g_aload_n (pc := 78) hC (i := 0) (x := (V.2.2.1 0 0)) rfl rfl d_Mo_tellWell_78 ?_
    refine g_getA (pc := 79) hC fo_Mo_49 (ob_Mo hV) rfl d_Mo_tellWell_79 ?_
    refine g_aload_n (pc := 82) hC (i := 0) (x := (V.2.2.1 0 0)) rfl rfl d_Mo_tellWell_82 ?_
    refine g_getI (pc := 83) hC fo_Mo_248 (ob_Mo hV) rfl d_Mo_tellWell_83 ?_
    refine g_dup2 (pc := 86) hC rfl rfl d_Mo_tellWell_86 ?_
    refine g_iald (pc := 87) hC (ar_Mo_24 hV) d_Mo_tellWell_87 h (fun h => ?_)
    refine g_iconst (pc := 88) hC kc_1 d_Mo_tellWell_88 ?_
    refine g_iadd (pc := 89) hC d_Mo_tellWell_89 ?_
    refine g_iast (pc := 90) hC (ar_Mo_24 hV) d_Mo_tellWell_90 h (fun h => ?_)
    refine g_letS h (fun S90 h => ?_)
    exact g_vW (pc := 91) hC d_Mo_tellWell_91 h
  · exact g_vW (pc := 62) hC d_Mo_tellWell_62 h
theorem c_Mo_tellWell {V : WV} {l : Launch} (hV : IsM V) {S : Mem} {z : Mem} (h : f_Mo_tellWell S = some z) : CV V l y_Mo_tellWell bc_Mo_tellWell 3 none 4 84 [.ref (V.2.2.1 0 0)] S z :=
  ct_v rfl (IsM.ok hV) (Nat.le_of_ble_eq_true rfl) (fun _ _ hC => w_Mo_tellWell_b0 hV hC S h)
def f_Mo_known_b21 (k21 : Int32 → Int32 → Int32 → Mem → Option (Int32 × Mem)) (x1 : Int32) (x2 : Int32) (x3 : Int32) (S : Mem) : Option (Int32 × Mem) :=
  if (S.1 0 20) ≤ x3 then
    Option.bind (f_Mo_wrong 4 x2 S) (fun q71 =>
    some ((-1), q71))
  else
    gIn x3 19 (
    gIn x2 403 (
    if (lg_cmp (S.2.2 0 21 x3.toNatClampNeg) (S.2.2 0 8 x2.toNatClampNeg)) = 0 then
      gIn x3 19 (
      if (S.2.1 0 22 x3.toNatClampNeg) = x1 then
        gIn x3 19 (
        some (S.2.1 0 23 x3.toNatClampNeg, S))
      else
        k21 x1 x2 (x3 + 1) S)
    else
      k21 x1 x2 (x3 + 1) S))
def f_Mo_known_l21 : Nat → Int32 → Int32 → Int32 → Mem → Option (Int32 × Mem)
  | 0 => fun _ _ _ _ => none
  | n + 1 => f_Mo_known_b21  (f_Mo_known_l21  n)
def f_Mo_known_b0 (x1 : Int32) (S : Mem) : Option (Int32 × Mem) :=
  letS (S.1 0 11) (fun y4 =>
  Option.bind (f_Mo_must 1 S) (fun q7 =>
  if (q7.1 0 13) ≤ 0 then
    f_Mo_known_l21 5000 x1 y4 0 q7
  else
    some ((-1), q7)))
def f_Mo_known (x1 : Int32) (S : Mem) : Option (Int32 × Mem) := f_Mo_known_b0  x1 S
theorem d_Mo_known_0 : decode bc_Mo_known 0 = .ok (.aload_n 0, 1) := by decide +kernel
theorem d_Mo_known_1 : decode bc_Mo_known 1 = .ok (.getfield 218, 3) := by decide +kernel
theorem d_Mo_known_4 : decode bc_Mo_known 4 = .ok (.istore_n 2, 1) := by decide +kernel
theorem d_Mo_known_5 : decode bc_Mo_known 5 = .ok (.aload_n 0, 1) := by decide +kernel
theorem d_Mo_known_6 : decode bc_Mo_known 6 = .ok (.iconst 1, 1) := by decide +kernel
theorem d_Mo_known_7 : decode bc_Mo_known 7 = .ok (.invokevirtual 289, 3) := by decide +kernel
theorem d_Mo_known_10 : decode bc_Mo_known 10 = .ok (.aload_n 0, 1) := by decide +kernel
theorem d_Mo_known_11 : decode bc_Mo_known 11 = .ok (.getfield 215, 3) := by decide +kernel
theorem d_Mo_known_14 : decode bc_Mo_known 14 = .ok (.ifCond .le 5, 3) := by decide +kernel
theorem d_Mo_known_17 : decode bc_Mo_known 17 = .ok (.iconst (-1), 1) := by decide +kernel
theorem d_Mo_known_18 : decode bc_Mo_known 18 = .ok (.ireturn, 1) := by decide +kernel
theorem d_Mo_known_19 : decode bc_Mo_known 19 = .ok (.iconst 0, 1) := by decide +kernel
theorem d_Mo_known_20 : decode bc_Mo_known 20 = .ok (.istore_n 3, 1) := by decide +kernel
theorem d_Mo_known_21 : decode bc_Mo_known 21 = .ok (.iload_n 3, 1) := by decide +kernel
theorem d_Mo_known_22 : decode bc_Mo_known 22 = .ok (.aload_n 0, 1) := by decide +kernel
theorem d_Mo_known_23 : decode bc_Mo_known 23 = .ok (.getfield 251, 3) := by decide +kernel
theorem d_Mo_known_26 : decode bc_Mo_known 26 = .ok (.if_icmp .ge 42, 3) := by decide +kernel
theorem d_Mo_known_29 : decode bc_Mo_known 29 = .ok (.aload_n 0, 1) := by decide +kernel
theorem d_Mo_known_30 : decode bc_Mo_known 30 = .ok (.getfield 40, 3) := by decide +kernel
theorem d_Mo_known_33 : decode bc_Mo_known 33 = .ok (.iload_n 3, 1) := by decide +kernel
theorem d_Mo_known_34 : decode bc_Mo_known 34 = .ok (.laload, 1) := by decide +kernel
theorem d_Mo_known_35 : decode bc_Mo_known 35 = .ok (.aload_n 0, 1) := by decide +kernel
theorem d_Mo_known_36 : decode bc_Mo_known 36 = .ok (.getfield 30, 3) := by decide +kernel
theorem d_Mo_known_39 : decode bc_Mo_known 39 = .ok (.iload_n 2, 1) := by decide +kernel
theorem d_Mo_known_40 : decode bc_Mo_known 40 = .ok (.laload, 1) := by decide +kernel
theorem d_Mo_known_41 : decode bc_Mo_known 41 = .ok (.lcmp, 1) := by decide +kernel
theorem d_Mo_known_42 : decode bc_Mo_known 42 = .ok (.ifCond .ne 20, 3) := by decide +kernel
theorem d_Mo_known_45 : decode bc_Mo_known 45 = .ok (.aload_n 0, 1) := by decide +kernel
theorem d_Mo_known_46 : decode bc_Mo_known 46 = .ok (.getfield 43, 3) := by decide +kernel
theorem d_Mo_known_49 : decode bc_Mo_known 49 = .ok (.iload_n 3, 1) := by decide +kernel
theorem d_Mo_known_50 : decode bc_Mo_known 50 = .ok (.iaload, 1) := by decide +kernel
theorem d_Mo_known_51 : decode bc_Mo_known 51 = .ok (.iload_n 1, 1) := by decide +kernel
theorem d_Mo_known_52 : decode bc_Mo_known 52 = .ok (.if_icmp .ne 10, 3) := by decide +kernel
theorem d_Mo_known_55 : decode bc_Mo_known 55 = .ok (.aload_n 0, 1) := by decide +kernel
theorem d_Mo_known_56 : decode bc_Mo_known 56 = .ok (.getfield 46, 3) := by decide +kernel
theorem d_Mo_known_59 : decode bc_Mo_known 59 = .ok (.iload_n 3, 1) := by decide +kernel
theorem d_Mo_known_60 : decode bc_Mo_known 60 = .ok (.iaload, 1) := by decide +kernel
theorem d_Mo_known_61 : decode bc_Mo_known 61 = .ok (.ireturn, 1) := by decide +kernel
theorem d_Mo_known_62 : decode bc_Mo_known 62 = .ok (.iinc 3 1, 3) := by decide +kernel
theorem d_Mo_known_65 : decode bc_Mo_known 65 = .ok (.goto (-44), 3) := by decide +kernel
theorem d_Mo_known_68 : decode bc_Mo_known 68 = .ok (.aload_n 0, 1) := by decide +kernel
theorem d_Mo_known_69 : decode bc_Mo_known 69 = .ok (.iconst 4, 1) := by decide +kernel
theorem d_Mo_known_70 : decode bc_Mo_known 70 = .ok (.iload_n 2, 1) := by decide +kernel
theorem d_Mo_known_71 : decode bc_Mo_known 71 = .ok (.invokevirtual 295, 3) := by decide +kernel
theorem d_Mo_known_74 : decode bc_Mo_known 74 = .ok (.iconst (-1), 1) := by decide +kernel
theorem d_Mo_known_75 : decode bc_Mo_known 75 = .ok (.ireturn, 1) := by decide +kernel
set_option maxRecDepth 20000 in
theorem w_Mo_known_b21 {X : CX} {V : WV} (hV : IsM V) {z : Int32 × Mem} (hC : Ck X V bc_Mo_known 4 "SecretWellsModel" (some .int) 3 62) (k21 : Int32 → Int32 → Int32 → Mem → Option (Int32 × Mem)) (hk21 : ∀ (x1 : Int32) (x2 : Int32) (x3 : Int32) (S : Mem), k21 x1 x2 x3 S = some z → G X V 4 (QI X V z.1 z.2) 21 [some (.ref (V.2.2.1 0 0)), some (.int x1), some (.int x2), some (.int x3)] [] S) (x1 : Int32) (x2 : Int32) (x3 : Int32) (S : Mem) (h : f_Mo_known_b21  k21 x1 x2 x3 S = some z) : G X V 4 (QI X V z.1 z.2) 21 [some (.ref (V.2.2.1 0 0)), some (.int x1), some (.int x2), some (.int x3)] [] S := by
  unfold f_Mo_known_b21 at h
  refine g_iload_n (pc := 21) hC (i := 3) (x := x3) rfl rfl d_Mo_known_21 ?_
  refine g_aload_n (pc := 22) hC (i := 0) (x := (V.2.2.1 0 0)) rfl rfl d_Mo_known_22 ?_
  refine g_getI (pc := 23) hC fo_Mo_251 (ob_Mo hV) rfl d_Mo_known_23 ?_
  refine g_icmp_ge (pc := 26) hC (tgt := 68) (by decide) d_Mo_known_26 h (fun h => ?_) (fun h => ?_)
  · refine g_aload_n (pc := 68) hC (i := 0) (x := (V.2.2.1 0 0)) rfl rfl d_Mo_known_68 ?_
    refine g_iconst (pc := 69) hC kc_4 d_Mo_known_69 ?_
    refine g_iload_n (pc := 70) hC (i := 2) (x := x2) rfl rfl d_Mo_known_70 ?_
    obtain ⟨q71, hq71, h⟩ := Option.bind_eq_some_iff.mp h
    refine g_vv (pc := 71) hC (As := [.int 4, .int x2]) (st := []) mt_Mo_wrong lk_Mo_295 rfl (ob_Mo hV) (Nat.le_of_ble_eq_true rfl) ⟨Nat.le_of_ble_eq_true rfl, Nat.le_of_ble_eq_true rfl⟩ rfl d_Mo_known_71 (c_Mo_wrong hV hq71) ?_
    refine g_iconst (pc := 74) hC kc_m1 d_Mo_known_74 ?_
    exact g_iW (pc := 75) hC rfl d_Mo_known_75 h
  · refine g_aload_n (pc := 29) hC (i := 0) (x := (V.2.2.1 0 0)) rfl rfl d_Mo_known_29 ?_
    refine g_getA (pc := 30) hC fo_Mo_40 (ob_Mo hV) rfl d_Mo_known_30 ?_
    refine g_iload_n (pc := 33) hC (i := 3) (x := x3) rfl rfl d_Mo_known_33 ?_
    refine g_lald (pc := 34) hC (ar_Mo_21 hV) d_Mo_known_34 h (fun h => ?_)
    refine g_aload_n (pc := 35) hC (i := 0) (x := (V.2.2.1 0 0)) rfl rfl d_Mo_known_35 ?_
    refine g_getA (pc := 36) hC fo_Mo_30 (ob_Mo hV) rfl d_Mo_known_36 ?_
    refine g_iload_n (pc := 39) hC (i := 2) (x := x2) rfl rfl d_Mo_known_39 ?_
    refine g_lald (pc := 40) hC (ar_Mo_8 hV) d_Mo_known_40 h (fun h => ?_)
    refine g_lcmp (pc := 41) hC d_Mo_known_41 ?_
    refine g_if_ne (pc := 42) hC (tgt := 62) (by decide) d_Mo_known_42 h (fun h => ?_) (fun h => ?_)
    · refine s_iinc (pc := 62) hC (i := 3) (x := x3) (v := x3 + 1) rfl (by rw [kc_1]) (by decide) d_Mo_known_62 (lv2 := [some (.ref (V.2.2.1 0 0)), some (.int x1), some (.int x2), some (.int (x3 + 1))]) rfl ?_
      refine g_goto (pc := 65) hC (tgt := 21) (by decide) d_Mo_known_65 ?_
      exact hk21 x1 x2 (x3 + 1) S h
    · refine g_aload_n (pc := 45) hC (i := 0) (x := (V.2.2.1 0 0)) rfl rfl d_Mo_known_45 ?_
      refine g_getA (pc := 46) hC fo_Mo_43 (ob_Mo hV) rfl d_Mo_known_46 ?_
      refine g_iload_n (pc := 49) hC (i := 3) (x := x3) rfl rfl d_Mo_known_49 ?_
      refine g_iald (pc := 50) hC (ar_Mo_22 hV) d_Mo_known_50 h (fun h => ?_)
      refine g_iload_n (pc := 51) hC (i := 1) (x := x1) rfl rfl d_Mo_known_51 ?_
      refine g_icmp_ne (pc := 52) hC (tgt := 62) (by decide) d_Mo_known_52 h (fun h => ?_) (fun h => ?_)
      · refine s_iinc (pc := 62) hC (i := 3) (x := x3) (v := x3 + 1) rfl (by rw [kc_1]) (by decide) d_Mo_known_62 (lv2 := [some (.ref (V.2.2.1 0 0)), some (.int x1), some (.int x2), some (.int (x3 + 1))]) rfl ?_
        refine g_goto (pc := 65) hC (tgt := 21) (by decide) d_Mo_known_65 ?_
        exact hk21 x1 x2 (x3 + 1) S h
      · refine g_aload_n (pc := 55) hC (i := 0) (x := (V.2.2.1 0 0)) rfl rfl d_Mo_known_55 ?_
        refine g_getA (pc := 56) hC fo_Mo_46 (ob_Mo hV) rfl d_Mo_known_56 ?_
        refine g_iload_n (pc := 59) hC (i := 3) (x := x3) rfl rfl d_Mo_known_59 ?_
        refine g_iald (pc := 60) hC (ar_Mo_23 hV) d_Mo_known_60 h (fun h => ?_)
        exact g_iW (pc := 61) hC rfl d_Mo_known_61 h
theorem w_Mo_known_l21 {X : CX} {V : WV} (hV : IsM V) {z : Int32 × Mem} (hC : Ck X V bc_Mo_known 4 "SecretWellsModel" (some .int) 3 62) : ∀ (n : Nat) (x1 : Int32) (x2 : Int32) (x3 : Int32) (S : Mem), f_Mo_known_l21  n x1 x2 x3 S = some z → G X V 4 (QI X V z.1 z.2) 21 [some (.ref (V.2.2.1 0 0)), some (.int x1), some (.int x2), some (.int x3)] [] S := by
  intro n
  induction n with
  | zero =>
    intro x1 x2 x3 S h
    have h : (none : Option (Int32 × Mem)) = some z := h
    cases h
  | succ n ih =>
    intro x1 x2 x3 S h
    exact w_Mo_known_b21 hV hC (f_Mo_known_l21  n) ih x1 x2 x3 S h
set_option maxRecDepth 20000 in
theorem w_Mo_known_b0 {X : CX} {V : WV} (hV : IsM V) {z : Int32 × Mem} (hC : Ck X V bc_Mo_known 4 "SecretWellsModel" (some .int) 3 62) (x1 : Int32) (S : Mem) (h : f_Mo_known_b0  x1 S = some z) : G X V 4 (QI X V z.1 z.2) 0 [some (.ref (V.2.2.1 0 0)), some (.int x1), none, none] [] S := by
  unfold f_Mo_known_b0 at h
  refine g_aload_n (pc := 0) hC (i := 0) (x := (V.2.2.1 0 0)) rfl rfl d_Mo_known_0 ?_
  refine g_getI (pc := 1) hC fo_Mo_218 (ob_Mo hV) rfl d_Mo_known_1 ?_
  refine g_leti h (fun y4 h => ?_)
  refine s_istore_n (pc := 4) hC (i := 2) rfl (by decide) d_Mo_known_4 (lv2 := [some (.ref (V.2.2.1 0 0)), some (.int x1), some (.int y4), none]) rfl ?_
  refine g_aload_n (pc := 5) hC (i := 0) (x := (V.2.2.1 0 0)) rfl rfl d_Mo_known_5 ?_
  refine g_iconst (pc := 6) hC kc_1 d_Mo_known_6 ?_
  obtain ⟨q7, hq7, h⟩ := Option.bind_eq_some_iff.mp h
  refine g_vv (pc := 7) hC (As := [.int 1]) (st := []) mt_Mo_must lk_Mo_289 rfl (ob_Mo hV) (Nat.le_of_ble_eq_true rfl) ⟨Nat.le_of_ble_eq_true rfl, Nat.le_of_ble_eq_true rfl⟩ rfl d_Mo_known_7 (c_Mo_must hV hq7) ?_
  refine g_aload_n (pc := 10) hC (i := 0) (x := (V.2.2.1 0 0)) rfl rfl d_Mo_known_10 ?_
  refine g_getI (pc := 11) hC fo_Mo_215 (ob_Mo hV) rfl d_Mo_known_11 ?_
  refine g_if_le (pc := 14) hC (tgt := 19) (by decide) d_Mo_known_14 h (fun h => ?_) (fun h => ?_)
  · refine g_iconst (pc := 19) hC kc_0 d_Mo_known_19 ?_
    refine s_istore_n (pc := 20) hC (i := 3) rfl (by decide) d_Mo_known_20 (lv2 := [some (.ref (V.2.2.1 0 0)), some (.int x1), some (.int y4), some (.int 0)]) rfl ?_
    exact w_Mo_known_l21 hV hC 5000 x1 y4 0 q7 h
  · refine g_iconst (pc := 17) hC kc_m1 d_Mo_known_17 ?_
    exact g_iW (pc := 18) hC rfl d_Mo_known_18 h
theorem c_Mo_known {V : WV} {l : Launch} (hV : IsM V) {x1 : Int32} {S : Mem} {z : Int32 × Mem} (h : f_Mo_known x1 S = some z) : CI V l y_Mo_known bc_Mo_known 4 (some .int) 3 62 [.ref (V.2.2.1 0 0), .int x1] S z.1 z.2 :=
  ct_i rfl (IsM.ok hV) (Nat.le_of_ble_eq_true rfl) (fun _ _ hC => w_Mo_known_b0 hV hC x1 S h)
def f_Mo_tellMan_b0 (S : Mem) : Option (Mem) :=
  gIn (S.1 0 19) 2 (
  letS ((7 * (S.1 0 19)) + (S.2.1 0 27 (S.1 0 19).toNatClampNeg)) (fun y17 =>
  Option.bind (f_Mo_named S) (fun q19 =>
  letS q19.1 (fun y22 =>
  Option.bind (f_Mo_known 0 q19.2) (fun q30 =>
  gIn y17 14 (letS (sA q30.2 0 28 y17 q30.1) (fun S33 =>
  Option.bind (f_Mo_bounded 0 99 S33) (fun q43 =>
  gIn y17 14 (letS (sA q43.2 0 29 y17 q43.1) (fun S46 =>
  Option.bind (f_Mo_must 4 S46) (fun q49 =>
  if (q49.1 0 13) ≤ 0 then
    gIn (q49.1 0 19) 2 (
    Option.bind (f_Mo_notes y22 1 (q49.2.1 0 27 (q49.1 0 19).toNatClampNeg) q49) (fun q72 =>
    gIn (q72.1 0 19) 2 (
    gIn (q72.1 0 19) 2 (letS (sA q72 0 27 (q72.1 0 19) ((q72.2.1 0 27 (q72.1 0 19).toNatClampNeg) + 1)) (fun S87 =>
    some S87)))))
  else
    some q49)))))))))))
def f_Mo_tellMan (S : Mem) : Option (Mem) := f_Mo_tellMan_b0  S
theorem d_Mo_tellMan_0 : decode bc_Mo_tellMan 0 = .ok (.bipush 7, 2) := by decide +kernel
theorem d_Mo_tellMan_2 : decode bc_Mo_tellMan 2 = .ok (.aload_n 0, 1) := by decide +kernel
theorem d_Mo_tellMan_3 : decode bc_Mo_tellMan 3 = .ok (.getfield 248, 3) := by decide +kernel
theorem d_Mo_tellMan_6 : decode bc_Mo_tellMan 6 = .ok (.imul, 1) := by decide +kernel
theorem d_Mo_tellMan_7 : decode bc_Mo_tellMan 7 = .ok (.aload_n 0, 1) := by decide +kernel
theorem d_Mo_tellMan_8 : decode bc_Mo_tellMan 8 = .ok (.getfield 58, 3) := by decide +kernel
theorem d_Mo_tellMan_11 : decode bc_Mo_tellMan 11 = .ok (.aload_n 0, 1) := by decide +kernel
theorem d_Mo_tellMan_12 : decode bc_Mo_tellMan 12 = .ok (.getfield 248, 3) := by decide +kernel
theorem d_Mo_tellMan_15 : decode bc_Mo_tellMan 15 = .ok (.iaload, 1) := by decide +kernel
theorem d_Mo_tellMan_16 : decode bc_Mo_tellMan 16 = .ok (.iadd, 1) := by decide +kernel
theorem d_Mo_tellMan_17 : decode bc_Mo_tellMan 17 = .ok (.istore_n 1, 1) := by decide +kernel
theorem d_Mo_tellMan_18 : decode bc_Mo_tellMan 18 = .ok (.aload_n 0, 1) := by decide +kernel
theorem d_Mo_tellMan_19 : decode bc_Mo_tellMan 19 = .ok (.invokevirtual 298, 3) := by decide +kernel
theorem d_Mo_tellMan_22 : decode bc_Mo_tellMan 22 = .ok (.istore_n 2, 1) := by decide +kernel
theorem d_Mo_tellMan_23 : decode bc_Mo_tellMan 23 = .ok (.aload_n 0, 1) := by decide +kernel
theorem d_Mo_tellMan_24 : decode bc_Mo_tellMan 24 = .ok (.getfield 61, 3) := by decide +kernel
theorem d_Mo_tellMan_27 : decode bc_Mo_tellMan 27 = .ok (.iload_n 1, 1) := by decide +kernel
theorem d_Mo_tellMan_28 : decode bc_Mo_tellMan 28 = .ok (.aload_n 0, 1) := by decide +kernel
theorem d_Mo_tellMan_29 : decode bc_Mo_tellMan 29 = .ok (.iconst 0, 1) := by decide +kernel
theorem d_Mo_tellMan_30 : decode bc_Mo_tellMan 30 = .ok (.invokevirtual 306, 3) := by decide +kernel
theorem d_Mo_tellMan_33 : decode bc_Mo_tellMan 33 = .ok (.iastore, 1) := by decide +kernel
theorem d_Mo_tellMan_34 : decode bc_Mo_tellMan 34 = .ok (.aload_n 0, 1) := by decide +kernel
theorem d_Mo_tellMan_35 : decode bc_Mo_tellMan 35 = .ok (.getfield 64, 3) := by decide +kernel
theorem d_Mo_tellMan_38 : decode bc_Mo_tellMan 38 = .ok (.iload_n 1, 1) := by decide +kernel
theorem d_Mo_tellMan_39 : decode bc_Mo_tellMan 39 = .ok (.aload_n 0, 1) := by decide +kernel
theorem d_Mo_tellMan_40 : decode bc_Mo_tellMan 40 = .ok (.iconst 0, 1) := by decide +kernel
theorem d_Mo_tellMan_41 : decode bc_Mo_tellMan 41 = .ok (.bipush 99, 2) := by decide +kernel
theorem d_Mo_tellMan_43 : decode bc_Mo_tellMan 43 = .ok (.invokevirtual 285, 3) := by decide +kernel
theorem d_Mo_tellMan_46 : decode bc_Mo_tellMan 46 = .ok (.iastore, 1) := by decide +kernel
theorem d_Mo_tellMan_47 : decode bc_Mo_tellMan 47 = .ok (.aload_n 0, 1) := by decide +kernel
theorem d_Mo_tellMan_48 : decode bc_Mo_tellMan 48 = .ok (.iconst 4, 1) := by decide +kernel
theorem d_Mo_tellMan_49 : decode bc_Mo_tellMan 49 = .ok (.invokevirtual 289, 3) := by decide +kernel
theorem d_Mo_tellMan_52 : decode bc_Mo_tellMan 52 = .ok (.aload_n 0, 1) := by decide +kernel
theorem d_Mo_tellMan_53 : decode bc_Mo_tellMan 53 = .ok (.getfield 215, 3) := by decide +kernel
theorem d_Mo_tellMan_56 : decode bc_Mo_tellMan 56 = .ok (.ifCond .le 4, 3) := by decide +kernel
theorem d_Mo_tellMan_59 : decode bc_Mo_tellMan 59 = .ok (.return_, 1) := by decide +kernel
theorem d_Mo_tellMan_60 : decode bc_Mo_tellMan 60 = .ok (.aload_n 0, 1) := by decide +kernel
theorem d_Mo_tellMan_61 : decode bc_Mo_tellMan 61 = .ok (.iload_n 2, 1) := by decide +kernel
theorem d_Mo_tellMan_62 : decode bc_Mo_tellMan 62 = .ok (.iconst 1, 1) := by decide +kernel
theorem d_Mo_tellMan_63 : decode bc_Mo_tellMan 63 = .ok (.aload_n 0, 1) := by decide +kernel
theorem d_Mo_tellMan_64 : decode bc_Mo_tellMan 64 = .ok (.getfield 58, 3) := by decide +kernel
theorem d_Mo_tellMan_67 : decode bc_Mo_tellMan 67 = .ok (.aload_n 0, 1) := by decide +kernel
theorem d_Mo_tellMan_68 : decode bc_Mo_tellMan 68 = .ok (.getfield 248, 3) := by decide +kernel
theorem d_Mo_tellMan_71 : decode bc_Mo_tellMan 71 = .ok (.iaload, 1) := by decide +kernel
theorem d_Mo_tellMan_72 : decode bc_Mo_tellMan 72 = .ok (.invokevirtual 302, 3) := by decide +kernel
theorem d_Mo_tellMan_75 : decode bc_Mo_tellMan 75 = .ok (.aload_n 0, 1) := by decide +kernel
theorem d_Mo_tellMan_76 : decode bc_Mo_tellMan 76 = .ok (.getfield 58, 3) := by decide +kernel
theorem d_Mo_tellMan_79 : decode bc_Mo_tellMan 79 = .ok (.aload_n 0, 1) := by decide +kernel
theorem d_Mo_tellMan_80 : decode bc_Mo_tellMan 80 = .ok (.getfield 248, 3) := by decide +kernel
theorem d_Mo_tellMan_83 : decode bc_Mo_tellMan 83 = .ok (.dup2, 1) := by decide +kernel
theorem d_Mo_tellMan_84 : decode bc_Mo_tellMan 84 = .ok (.iaload, 1) := by decide +kernel
theorem d_Mo_tellMan_85 : decode bc_Mo_tellMan 85 = .ok (.iconst 1, 1) := by decide +kernel
theorem d_Mo_tellMan_86 : decode bc_Mo_tellMan 86 = .ok (.iadd, 1) := by decide +kernel
theorem d_Mo_tellMan_87 : decode bc_Mo_tellMan 87 = .ok (.iastore, 1) := by decide +kernel
theorem d_Mo_tellMan_88 : decode bc_Mo_tellMan 88 = .ok (.return_, 1) := by decide +kernel
set_option maxRecDepth 20000 in
theorem w_Mo_tellMan_b0 {X : CX} {V : WV} (hV : IsM V) {z : Mem} (hC : Ck X V bc_Mo_tellMan 3 "SecretWellsModel" none 4 85) (S : Mem) (h : f_Mo_tellMan_b0  S = some z) : G X V 3 (QV X V z) 0 [some (.ref (V.2.2.1 0 0)), none, none] [] S := by
  unfold f_Mo_tellMan_b0 at h
  refine g_bipush (pc := 0) hC kb_7 d_Mo_tellMan_0 ?_
  refine g_aload_n (pc := 2) hC (i := 0) (x := (V.2.2.1 0 0)) rfl rfl d_Mo_tellMan_2 ?_
  refine g_getI (pc := 3) hC fo_Mo_248 (ob_Mo hV) rfl d_Mo_tellMan_3 ?_
  refine g_imul (pc := 6) hC d_Mo_tellMan_6 ?_
  refine g_aload_n (pc := 7) hC (i := 0) (x := (V.2.2.1 0 0)) rfl rfl d_Mo_tellMan_7 ?_
  refine g_getA (pc := 8) hC fo_Mo_58 (ob_Mo hV) rfl d_Mo_tellMan_8 ?_
  refine g_aload_n (pc := 11) hC (i := 0) (x := (V.2.2.1 0 0)) rfl rfl d_Mo_tellMan_11 ?_
  refine g_getI (pc := 12) hC fo_Mo_248 (ob_Mo hV) rfl d_Mo_tellMan_12 ?_
  refine g_iald (pc := 15) hC (ar_Mo_27 hV) d_Mo_tellMan_15 h (fun h => ?_)
  refine g_iadd (pc := 16) hC d_Mo_tellMan_16 ?_
  refine g_leti h (fun y17 h => ?_)
  refine s_istore_n (pc := 17) hC (i := 1) rfl (by decide) d_Mo_tellMan_17 (lv2 := [some (.ref (V.2.2.1 0 0)), some (.int y17), none]) rfl ?_
  refine g_aload_n (pc := 18) hC (i := 0) (x := (V.2.2.1 0 0)) rfl rfl d_Mo_tellMan_18 ?_
  obtain ⟨q19, hq19, h⟩ := Option.bind_eq_some_iff.mp h
  refine g_vi (pc := 19) hC (As := []) (st := []) mt_Mo_named lk_Mo_298 rfl (ob_Mo hV) (Nat.le_of_ble_eq_true rfl) ⟨Nat.le_of_ble_eq_true rfl, Nat.le_of_ble_eq_true rfl⟩ rfl d_Mo_tellMan_19 (c_Mo_named hV hq19) ?_
  refine g_leti h (fun y22 h => ?_)
  refine s_istore_n (pc := 22) hC (i := 2) rfl (by decide) d_Mo_tellMan_22 (lv2 := [some (.ref (V.2.2.1 0 0)), some (.int y17), some (.int y22)]) rfl ?_
  refine g_aload_n (pc := 23) hC (i := 0) (x := (V.2.2.1 0 0)) rfl rfl d_Mo_tellMan_23 ?_
  refine g_getA (pc := 24) hC fo_Mo_61 (ob_Mo hV) rfl d_Mo_tellMan_24 ?_
  refine g_iload_n (pc := 27) hC (i := 1) (x := y17) rfl rfl d_Mo_tellMan_27 ?_
  refine g_aload_n (pc := 28) hC (i := 0) (x := (V.2.2.1 0 0)) rfl rfl d_Mo_tellMan_28 ?_
  refine g_iconst (pc := 29) hC kc_0 d_Mo_tellMan_29 ?_
  obtain ⟨q30, hq30, h⟩ := Option.bind_eq_some_iff.mp h
  refine g_vi (pc := 30) hC (As := [.int 0]) (st := [.int y17, .ref (V.2.2.1 0 (28 + 1))]) mt_Mo_known lk_Mo_306 rfl (ob_Mo hV) (Nat.le_of_ble_eq_true rfl) ⟨Nat.le_of_ble_eq_true rfl, Nat.le_of_ble_eq_true rfl⟩ rfl d_Mo_tellMan_30 (c_Mo_known hV hq30) ?_
  refine g_iast (pc := 33) hC (ar_Mo_28 hV) d_Mo_tellMan_33 h (fun h => ?_)
  refine g_letS h (fun S33 h => ?_)
  refine g_aload_n (pc := 34) hC (i := 0) (x := (V.2.2.1 0 0)) rfl rfl d_Mo_tellMan_34 ?_
  refine g_getA (pc := 35) hC fo_Mo_64 (ob_Mo hV) rfl d_Mo_tellMan_35 ?_
  refine g_iload_n (pc := 38) hC (i := 1) (x := y17) rfl rfl d_Mo_tellMan_38 ?_
  refine g_aload_n (pc := 39) hC (i := 0) (x := (V.2.2.1 0 0)) rfl rfl d_Mo_tellMan_39 ?_
  refine g_iconst (pc := 40) hC kc_0 d_Mo_tellMan_40 ?_
  refine g_bipush (pc := 41) hC kb_99 d_Mo_tellMan_41 ?_
  obtain ⟨q43, hq43, h⟩ := Option.bind_eq_some_iff.mp h
  refine g_vi (pc := 43) hC (As := [.int 0, .int 99]) (st := [.int y17, .ref (V.2.2.1 0 (29 + 1))]) mt_Mo_bounded lk_Mo_285 rfl (ob_Mo hV) (Nat.le_of_ble_eq_true rfl) ⟨Nat.le_of_ble_eq_true rfl, Nat.le_of_ble_eq_true rfl⟩ rfl d_Mo_tellMan_43 (c_Mo_bounded hV hq43) ?_
  refine g_iast (pc := 46) hC (ar_Mo_29 hV) d_Mo_tellMan_46 h (fun h => ?_)
  refine g_letS h (fun S46 h => ?_)
  refine g_aload_n (pc := 47) hC (i := 0) (x := (V.2.2.1 0 0)) rfl rfl d_Mo_tellMan_47 ?_
  refine g_iconst (pc := 48) hC kc_4 d_Mo_tellMan_48 ?_
  obtain ⟨q49, hq49, h⟩ := Option.bind_eq_some_iff.mp h
  refine g_vv (pc := 49) hC (As := [.int 4]) (st := []) mt_Mo_must lk_Mo_289 rfl (ob_Mo hV) (Nat.le_of_ble_eq_true rfl) ⟨Nat.le_of_ble_eq_true rfl, Nat.le_of_ble_eq_true rfl⟩ rfl d_Mo_tellMan_49 (c_Mo_must hV hq49) ?_
  refine g_aload_n (pc := 52) hC (i := 0) (x := (V.2.2.1 0 0)) rfl rfl d_Mo_tellMan_52 ?_
  refine g_getI (pc := 53) hC fo_Mo_215 (ob_Mo hV) rfl d_Mo_tellMan_53 ?_
  refine g_if_le (pc := 56) hC (tgt := 60) (by decide) d_Mo_tellMan_56 h (fun h => ?_) (fun h => ?_)
  · refine g_aload_n (pc := 60) hC (i := 0) (x := (V.2.2.1 0 0)) rfl rfl d_Mo_tellMan_60 ?_
    refine g_iload_n (pc := 61) hC (i := 2) (x := y22) rfl rfl d_Mo_tellMan_61 ?_
    refine g_iconst (pc := 62) hC kc_1 d_Mo_tellMan_62 ?_
    refine g_aload_n (pc := 63) hC (i := 0) (x := (V.2.2.1 0 0)) rfl rfl d_Mo_tellMan_63 ?_
    refine g_getA (pc := 64) hC fo_Mo_58 (ob_Mo hV) rfl d_Mo_tellMan_64 ?_
    refine g_aload_n (pc := 67) hC (i := 0) (x := (V.2.2.1 0 0)) rfl rfl d_Mo_tellMan_67 ?_
    refine g_getI (pc := 68) hC fo_Mo_248 (ob_Mo hV) rfl d_Mo_tellMan_68 ?_
    refine g_iald (pc := 71) hC (ar_Mo_27 hV) d_Mo_tellMan_71 h (fun h => ?_)
    obtain ⟨q72, hq72, h⟩ := Option.bind_eq_some_iff.mp h
    refine g_vv (pc := 72) hC (As := [.int y22, .int 1, .int (q49.2.1 0 27 (q49.1 0 19).toNatClampNeg)]) (st := []) mt_Mo_notes lk_Mo_302 rfl (ob_Mo hV) (Nat.le_of_ble_eq_true rfl) ⟨Nat.le_of_ble_eq_true rfl, Nat.le_of_ble_eq_true rfl⟩ rfl d_Mo_tellMan_72 (c_Mo_notes hV hq72) ?_
    refine g_aload_n (pc := 75) hC (i := 0) (x := (V.2.2.1 0 0)) rfl rfl d_Mo_tellMan_75 ?_
    refine g_getA (pc := 76) hC fo_Mo_58 (ob_Mo hV) rfl d_Mo_tellMan_76 ?_
    refine g_aload_n (pc := 79) hC (i := 0) (x := (V.2.2.1 0 0)) rfl rfl d_Mo_tellMan_79 ?_
    refine g_getI (pc := 80) hC fo_Mo_248 (ob_Mo hV) rfl d_Mo_tellMan_80 ?_
    refine g_dup2 (pc := 83) hC rfl rfl d_Mo_tellMan_83 ?_
    refine g_iald (pc := 84) hC (ar_Mo_27 hV) d_Mo_tellMan_84 h (fun h => ?_)
    refine g_iconst (pc := 85) hC kc_1 d_Mo_tellMan_85 ?_
    refine g_iadd (pc := 86) hC d_Mo_tellMan_86 ?_
    refine g_iast (pc := 87) hC (ar_Mo_27 hV) d_Mo_tellMan_87 h (fun h => ?_)
    refine g_letS h (fun S87 h => ?_)
    exact g_vW (pc := 88) hC d_Mo_tellMan_88 h
  · exact g_vW (pc := 59) hC d_Mo_tellMan_59 h
theorem c_Mo_tellMan {V : WV} {l : Launch} (hV : IsM V) {S : Mem} {z : Mem} (h : f_Mo_tellMan S = some z) : CV V l y_Mo_tellMan bc_Mo_tellMan 3 none 4 85 [.ref (V.2.2.1 0 0)] S z :=
  ct_v rfl (IsM.ok hV) (Nat.le_of_ble_eq_true rfl) (fun _ _ hC => w_Mo_tellMan_b0 hV hC S h)
