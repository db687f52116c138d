/-! methods of the bytecode as functions, and the machine's walks of them. By program (wip/whole/gen/make.py): St_allWater, Tp_append, Tp_isBlank, Tp_behindBlanks, Tp_isLetter, Tp_withLetter, Tp_kindOf, Tp_scanLetters, Tp_isDigit, Tp_scanDigits, Tp_scanOne, Tp_scan, Co_feed, Co_back, Co_forgetDone, Co_changed, Co_beginAnew, Co_read, Co_place, Co_isWell, Co_well, Co_isMan, Co_man, Co_isSecret, Co_secret, Co_isTie, Co_tells, Co_count, Co_keepForUndo, Co_days, Co_whisperInto -/
def f_St_allWater_b4 (st : Nat) (tx : Nat) (S : Mem) (k4 : Int32 → Int32 → Option (Int32)) (x2 : Int32) (x3 : Int32) : Option (Int32) :=
  if (S.1 tx 0) ≤ x3 then
    some x2
  else
    gIn x3 4 (
    letS (x2 + (S.2.1 st 4 x3.toNatClampNeg)) (fun y20 =>
    k4 y20 (x3 + 1)))
def f_St_allWater_l4 (st : Nat) (tx : Nat) (S : Mem) : Nat → Int32 → Int32 → Option (Int32)
  | 0 => fun _ _ => none
  | n + 1 => f_St_allWater_b4 st tx S (f_St_allWater_l4 st tx S n)
def f_St_allWater_b0 (st : Nat) (tx : Nat) (S : Mem) : Option (Int32) :=
  f_St_allWater_l4 st tx S 5000 0 0
def f_St_allWater (st : Nat) (tx : Nat) (S : Mem) : Option (Int32) := f_St_allWater_b0 st tx S
theorem d_St_allWater_0 : decode bc_St_allWater 0 = .ok (.iconst 0, 1) := by decide +kernel
theorem d_St_allWater_1 : decode bc_St_allWater 1 = .ok (.istore_n 2, 1) := by decide +kernel
theorem d_St_allWater_2 : decode bc_St_allWater 2 = .ok (.iconst 0, 1) := by decide +kernel
theorem d_St_allWater_3 : decode bc_St_allWater 3 = .ok (.istore_n 3, 1) := by decide +kernel
theorem d_St_allWater_4 : decode bc_St_allWater 4 = .ok (.iload_n 3, 1) := by decide +kernel
theorem d_St_allWater_5 : decode bc_St_allWater 5 = .ok (.aload_n 1, 1) := by decide +kernel
theorem d_St_allWater_6 : decode bc_St_allWater 6 = .ok (.getfield 85, 3) := by decide +kernel
theorem d_St_allWater_9 : decode bc_St_allWater 9 = .ok (.if_icmp .ge 18, 3) := by decide +kernel
theorem d_St_allWater_12 : decode bc_St_allWater 12 = .ok (.iload_n 2, 1) := by decide +kernel
theorem d_St_allWater_13 : decode bc_St_allWater 13 = .ok (.aload_n 0, 1) := by decide +kernel
theorem d_St_allWater_14 : decode bc_St_allWater 14 = .ok (.getfield 24, 3) := by decide +kernel
theorem d_St_allWater_17 : decode bc_St_allWater 17 = .ok (.iload_n 3, 1) := by decide +kernel
theorem d_St_allWater_18 : decode bc_St_allWater 18 = .ok (.iaload, 1) := by decide +kernel
theorem d_St_allWater_19 : decode bc_St_allWater 19 = .ok (.iadd, 1) := by decide +kernel
theorem d_St_allWater_20 : decode bc_St_allWater 20 = .ok (.istore_n 2, 1) := by decide +kernel
theorem d_St_allWater_21 : decode bc_St_allWater 21 = .ok (.iinc 3 1, 3) := by decide +kernel
theorem d_St_allWater_24 : decode bc_St_allWater 24 = .ok (.goto (-20), 3) := by decide +kernel
theorem d_St_allWater_27 : decode bc_St_allWater 27 = .ok (.iload_n 2, 1) := by decide +kernel
theorem d_St_allWater_28 : decode bc_St_allWater 28 = .ok (.ireturn, 1) := by decide +kernel
set_option maxRecDepth 20000 in
theorem w_St_allWater_b4 {X : CX} {V : WV} {st : Nat} {tx : Nat} (hV : IsC V) (hst : isSt st) (htx : isTx tx) {S : Mem} {z : Int32} (hC : Ck X V bc_St_allWater 4 "SecretWells$State" (some .int) 0 0) (k4 : Int32 → Int32 → Option (Int32)) (hk4 : ∀ (x2 : Int32) (x3 : Int32), k4 x2 x3 = some z → G X V 4 (QI X V z S) 4 [some (.ref (V.2.2.1 st 0)), some (.ref (V.2.2.1 tx 0)), some (.int x2), some (.int x3)] [] S) (x2 : Int32) (x3 : Int32) (h : f_St_allWater_b4 st tx S k4 x2 x3 = some z) : G X V 4 (QI X V z S) 4 [some (.ref (V.2.2.1 st 0)), some (.ref (V.2.2.1 tx 0)), some (.int x2), some (.int x3)] [] S := by
  unfold f_St_allWater_b4 at h
  refine g_iload_n (pc := 4) hC (i := 3) (x := x3) rfl rfl d_St_allWater_4 ?_
  refine g_aload_n (pc := 5) hC (i := 1) (x := (V.2.2.1 tx 0)) rfl rfl d_St_allWater_5 ?_
  refine g_getI (pc := 6) hC fo_St_85 (ob_Tx hV htx) rfl d_St_allWater_6 ?_
  refine g_icmp_ge (pc := 9) hC (tgt := 27) (by decide) d_St_allWater_9 h (fun h => ?_) (fun h => ?_)
  · refine g_iload_n (pc := 27) hC (i := 2) (x := x2) rfl rfl d_St_allWater_27 ?_
    exact g_iN (pc := 28) hC rfl d_St_allWater_28 h
  · refine g_iload_n (pc := 12) hC (i := 2) (x := x2) rfl rfl d_St_allWater_12 ?_
    refine g_aload_n (pc := 13) hC (i := 0) (x := (V.2.2.1 st 0)) rfl rfl d_St_allWater_13 ?_
    refine g_getA (pc := 14) hC fo_St_24 (ob_St hV hst) rfl d_St_allWater_14 ?_
    refine g_iload_n (pc := 17) hC (i := 3) (x := x3) rfl rfl d_St_allWater_17 ?_
    refine g_iald (pc := 18) hC (ar_St_4 hV hst) d_St_allWater_18 h (fun h => ?_)
    refine g_iadd (pc := 19) hC d_St_allWater_19 ?_
    refine g_leti h (fun y20 h => ?_)
    refine s_istore_n (pc := 20) hC (i := 2) rfl (by decide) d_St_allWater_20 (lv2 := [some (.ref (V.2.2.1 st 0)), some (.ref (V.2.2.1 tx 0)), some (.int y20), some (.int x3)]) rfl ?_
    refine s_iinc (pc := 21) hC (i := 3) (x := x3) (v := x3 + 1) rfl (by rw [kc_1]) (by decide) d_St_allWater_21 (lv2 := [some (.ref (V.2.2.1 st 0)), some (.ref (V.2.2.1 tx 0)), some (.int y20), some (.int (x3 + 1))]) rfl ?_
    refine g_goto (pc := 24) hC (tgt := 4) (by decide) d_St_allWater_24 ?_
    exact hk4 y20 (x3 + 1) h
theorem w_St_allWater_l4 {X : CX} {V : WV} {st : Nat} {tx : Nat} (hV : IsC V) (hst : isSt st) (htx : isTx tx) {S : Mem} {z : Int32} (hC : Ck X V bc_St_allWater 4 "SecretWells$State" (some .int) 0 0) : ∀ (n : Nat) (x2 : Int32) (x3 : Int32), f_St_allWater_l4 st tx S n x2 x3 = some z → G X V 4 (QI X V z S) 4 [some (.ref (V.2.2.1 st 0)), some (.ref (V.2.2.1 tx 0)), some (.int x2), some (.int x3)] [] S := by
  intro n
  induction n with
  | zero =>
    intro x2 x3 h
    have h : (none : Option (Int32)) = some z := h
    cases h
  | succ n ih =>
    intro x2 x3 h
    exact w_St_allWater_b4 hV hst htx hC (f_St_allWater_l4 st tx S n) ih x2 x3 h
set_option maxRecDepth 20000 in
theorem w_St_allWater_b0 {X : CX} {V : WV} {st : Nat} {tx : Nat} (hV : IsC V) (hst : isSt st) (htx : isTx tx) {S : Mem} {z : Int32} (hC : Ck X V bc_St_allWater 4 "SecretWells$State" (some .int) 0 0) (h : f_St_allWater_b0 st tx S = some z) : G X V 4 (QI X V z S) 0 [some (.ref (V.2.2.1 st 0)), some (.ref (V.2.2.1 tx 0)), none, none] [] S := by
  unfold f_St_allWater_b0 at h
  refine g_iconst (pc := 0) hC kc_0 d_St_allWater_0 ?_
  refine s_istore_n (pc := 1) hC (i := 2) rfl (by decide) d_St_allWater_1 (lv2 := [some (.ref (V.2.2.1 st 0)), some (.ref (V.2.2.1 tx 0)), some (.int 0), none]) rfl ?_
  refine g_iconst (pc := 2) hC kc_0 d_St_allWater_2 ?_
  refine s_istore_n (pc := 3) hC (i := 3) rfl (by decide) d_St_allWater_3 (lv2 := [some (.ref (V.2.2.1 st 0)), some (.ref (V.2.2.1 tx 0)), some (.int 0), some (.int 0)]) rfl ?_
  exact w_St_allWater_l4 hV hst htx hC 5000 0 0 h
theorem c_St_allWater {V : WV} {l : Launch} (hV : IsC V) {st : Nat} {tx : Nat} (hst : isSt st) (htx : isTx tx) {S : Mem} {z : Int32} (h : f_St_allWater st tx S = some z) : CI V l y_St_allWater bc_St_allWater 4 (some .int) 0 0 [.ref (V.2.2.1 st 0), .ref (V.2.2.1 tx 0)] S z S :=
  ct_i rfl (IsC.ok hV) (Nat.le_of_ble_eq_true rfl) (fun _ _ hC => w_St_allWater_b0 hV hst htx hC h)
def f_Tp_append_b3 (k3 : Int32 → Int32 → Mem → Option (Mem)) (x1 : Int32) (x2 : Int32) (S : Mem) : Option (Mem) :=
  if x2 < 0 then
    some S
  else
    if 2000 ≤ (S.1 1 0) then
      some S
    else
      gIn (S.1 1 0) 2000 (letS (sA S 1 1 (S.1 1 0) (vp_nar .byte ((x1 >>> (x2 &&& 31)).toInt8.toInt32))) (fun S29 =>
      letS (pI S29 1 0 ((S29.1 1 0) + 1)) (fun S37 =>
      k3 x1 (x2 + (-8)) S37)))
def f_Tp_append_l3 : Nat → Int32 → Int32 → Mem → Option (Mem)
  | 0 => fun _ _ _ => none
  | n + 1 => f_Tp_append_b3  (f_Tp_append_l3  n)
def f_Tp_append_b0 (x1 : Int32) (S : Mem) : Option (Mem) :=
  f_Tp_append_l3 5000 x1 24 S
def f_Tp_append (x1 : Int32) (S : Mem) : Option (Mem) := f_Tp_append_b0  x1 S
theorem d_Tp_append_0 : decode bc_Tp_append 0 = .ok (.bipush 24, 2) := by decide +kernel
theorem d_Tp_append_2 : decode bc_Tp_append 2 = .ok (.istore_n 2, 1) := by decide +kernel
theorem d_Tp_append_3 : decode bc_Tp_append 3 = .ok (.iload_n 2, 1) := by decide +kernel
theorem d_Tp_append_4 : decode bc_Tp_append 4 = .ok (.ifCond .lt 42, 3) := by decide +kernel
theorem d_Tp_append_7 : decode bc_Tp_append 7 = .ok (.aload_n 0, 1) := by decide +kernel
theorem d_Tp_append_8 : decode bc_Tp_append 8 = .ok (.getfield 9, 3) := by decide +kernel
theorem d_Tp_append_11 : decode bc_Tp_append 11 = .ok (.sipush 2000, 3) := by decide +kernel
theorem d_Tp_append_14 : decode bc_Tp_append 14 = .ok (.if_icmp .ge 32, 3) := by decide +kernel
theorem d_Tp_append_17 : decode bc_Tp_append 17 = .ok (.aload_n 0, 1) := by decide +kernel
theorem d_Tp_append_18 : decode bc_Tp_append 18 = .ok (.getfield 15, 3) := by decide +kernel
theorem d_Tp_append_21 : decode bc_Tp_append 21 = .ok (.aload_n 0, 1) := by decide +kernel
theorem d_Tp_append_22 : decode bc_Tp_append 22 = .ok (.getfield 9, 3) := by decide +kernel
theorem d_Tp_append_25 : decode bc_Tp_append 25 = .ok (.iload_n 1, 1) := by decide +kernel
theorem d_Tp_append_26 : decode bc_Tp_append 26 = .ok (.iload_n 2, 1) := by decide +kernel
theorem d_Tp_append_27 : decode bc_Tp_append 27 = .ok (.ishr, 1) := by decide +kernel
theorem d_Tp_append_28 : decode bc_Tp_append 28 = .ok (.i2b, 1) := by decide +kernel
theorem d_Tp_append_29 : decode bc_Tp_append 29 = .ok (.bastore, 1) := by decide +kernel
theorem d_Tp_append_30 : decode bc_Tp_append 30 = .ok (.aload_n 0, 1) := by decide +kernel
theorem d_Tp_append_31 : decode bc_Tp_append 31 = .ok (.dup, 1) := by decide +kernel
theorem d_Tp_append_32 : decode bc_Tp_append 32 = .ok (.getfield 9, 3) := by decide +kernel
theorem d_Tp_append_35 : decode bc_Tp_append 35 = .ok (.iconst 1, 1) := by decide +kernel
theorem d_Tp_append_36 : decode bc_Tp_append 36 = .ok (.iadd, 1) := by decide +kernel
theorem d_Tp_append_37 : decode bc_Tp_append 37 = .ok (.putfield 9, 3) := by decide +kernel
theorem d_Tp_append_40 : decode bc_Tp_append 40 = .ok (.iinc 2 (-8), 3) := by decide +kernel
theorem d_Tp_append_43 : decode bc_Tp_append 43 = .ok (.goto (-40), 3) := by decide +kernel
theorem d_Tp_append_46 : decode bc_Tp_append 46 = .ok (.return_, 1) := by decide +kernel
set_option maxRecDepth 20000 in
theorem w_Tp_append_b3 {X : CX} {V : WV} (hV : IsC V) {z : Mem} (hC : Ck X V bc_Tp_append 3 "SecretWells$Tape" none 0 0) (k3 : Int32 → Int32 → Mem → Option (Mem)) (hk3 : ∀ (x1 : Int32) (x2 : Int32) (S : Mem), k3 x1 x2 S = some z → G X V 3 (QV X V z) 3 [some (.ref (V.2.2.1 1 0)), some (.int x1), some (.int x2)] [] S) (x1 : Int32) (x2 : Int32) (S : Mem) (h : f_Tp_append_b3  k3 x1 x2 S = some z) : G X V 3 (QV X V z) 3 [some (.ref (V.2.2.1 1 0)), some (.int x1), some (.int x2)] [] S := by
  unfold f_Tp_append_b3 at h
  refine g_iload_n (pc := 3) hC (i := 2) (x := x2) rfl rfl d_Tp_append_3 ?_
  refine g_if_lt (pc := 4) hC (tgt := 46) (by decide) d_Tp_append_4 h (fun h => ?_) (fun h => ?_)
  · exact g_vW (pc := 46) hC d_Tp_append_46 h
  · refine g_aload_n (pc := 7) hC (i := 0) (x := (V.2.2.1 1 0)) rfl rfl d_Tp_append_7 ?_
    refine g_getI (pc := 8) hC fo_Tp_9 (ob_Tp hV) rfl d_Tp_append_8 ?_
    refine g_sipush (pc := 11) hC ks_2000 d_Tp_append_11 ?_
    refine g_icmp_ge (pc := 14) hC (tgt := 46) (by decide) d_Tp_append_14 h (fun h => ?_) (fun h => ?_)
    · exact g_vW (pc := 46) hC d_Tp_append_46 h
    · refine g_aload_n (pc := 17) hC (i := 0) (x := (V.2.2.1 1 0)) rfl rfl d_Tp_append_17 ?_
      refine g_getA (pc := 18) hC fo_Tp_15 (ob_Tp hV) rfl d_Tp_append_18 ?_
      refine g_aload_n (pc := 21) hC (i := 0) (x := (V.2.2.1 1 0)) rfl rfl d_Tp_append_21 ?_
      refine g_getI (pc := 22) hC fo_Tp_9 (ob_Tp hV) rfl d_Tp_append_22 ?_
      refine g_iload_n (pc := 25) hC (i := 1) (x := x1) rfl rfl d_Tp_append_25 ?_
      refine g_iload_n (pc := 26) hC (i := 2) (x := x2) rfl rfl d_Tp_append_26 ?_
      refine g_ishr (pc := 27) hC d_Tp_append_27 ?_
      refine g_i2b (pc := 28) hC d_Tp_append_28 ?_
      refine g_bast (pc := 29) hC (ar_Tp_1 hV) d_Tp_append_29 h (fun h => ?_)
      refine g_letS h (fun S29 h => ?_)
      refine g_aload_n (pc := 30) hC (i := 0) (x := (V.2.2.1 1 0)) rfl rfl d_Tp_append_30 ?_
      refine g_dup (pc := 31) hC rfl d_Tp_append_31 ?_
      refine g_getI (pc := 32) hC fo_Tp_9 (ob_Tp hV) rfl d_Tp_append_32 ?_
      refine g_iconst (pc := 35) hC kc_1 d_Tp_append_35 ?_
      refine g_iadd (pc := 36) hC d_Tp_append_36 ?_
      refine g_putI (pc := 37) hC po_Tp_9 (ob_Tp hV) rfl rfl rfl d_Tp_append_37 ?_
      refine g_letS h (fun S37 h => ?_)
      refine s_iinc (pc := 40) hC (i := 2) (x := x2) (v := x2 + (-8)) rfl (by rw [kc_m8]) (by decide) d_Tp_append_40 (lv2 := [some (.ref (V.2.2.1 1 0)), some (.int x1), some (.int (x2 + (-8)))]) rfl ?_
      refine g_goto (pc := 43) hC (tgt := 3) (by decide) d_Tp_append_43 ?_
      exact hk3 x1 (x2 + (-8)) S37 h
theorem w_Tp_append_l3 {X : CX} {V : WV} (hV : IsC V) {z : Mem} (hC : Ck X V bc_Tp_append 3 "SecretWells$Tape" none 0 0) : ∀ (n : Nat) (x1 : Int32) (x2 : Int32) (S : Mem), f_Tp_append_l3  n x1 x2 S = some z → G X V 3 (QV X V z) 3 [some (.ref (V.2.2.1 1 0)), some (.int x1), some (.int x2)] [] S := by
  intro n
  induction n with
  | zero =>
    intro x1 x2 S h
    have h : (none : Option (Mem)) = some z := h
    cases h
  | succ n ih =>
    intro x1 x2 S h
    exact w_Tp_append_b3 hV hC (f_Tp_append_l3  n) ih x1 x2 S h
set_option maxRecDepth 20000 in
theorem w_Tp_append_b0 {X : CX} {V : WV} (hV : IsC V) {z : Mem} (hC : Ck X V bc_Tp_append 3 "SecretWells$Tape" none 0 0) (x1 : Int32) (S : Mem) (h : f_Tp_append_b0  x1 S = some z) : G X V 3 (QV X V z) 0 [some (.ref (V.2.2.1 1 0)), some (.int x1), none] [] S := by
  unfold f_Tp_append_b0 at h
  refine g_bipush (pc := 0) hC kb_24 d_Tp_append_0 ?_
  refine s_istore_n (pc := 2) hC (i := 2) rfl (by decide) d_Tp_append_2 (lv2 := [some (.ref (V.2.2.1 1 0)), some (.int x1), some (.int 24)]) rfl ?_
  exact w_Tp_append_l3 hV hC 5000 x1 24 S h
theorem c_Tp_append {V : WV} {l : Launch} (hV : IsC V) {x1 : Int32} {S : Mem} {z : Mem} (h : f_Tp_append x1 S = some z) : CV V l y_Tp_append bc_Tp_append 3 none 0 0 [.ref (V.2.2.1 1 0), .int x1] S z :=
  ct_v rfl (IsC.ok hV) (Nat.le_of_ble_eq_true rfl) (fun _ _ hC => w_Tp_append_b0 hV hC x1 S h)
def f_Tp_isBlank_b0 (x0 : Int32) : Option (Int32) :=
  if x0 = 9 then
    some 1
  else
    if x0 = 10 then
      some 1
    else
      if x0 = 13 then
        some 1
      else
        if x0 = 32 then
          some 1
        else
          some 0
def f_Tp_isBlank (x0 : Int32) : Option (Int32) := f_Tp_isBlank_b0  x0
theorem d_Tp_isBlank_0 : decode bc_Tp_isBlank 0 = .ok (.iload_n 0, 1) := by decide +kernel
theorem d_Tp_isBlank_1 : decode bc_Tp_isBlank 1 = .ok (.bipush 9, 2) := by decide +kernel
theorem d_Tp_isBlank_3 : decode bc_Tp_isBlank 3 = .ok (.if_icmp .eq 21, 3) := by decide +kernel
theorem d_Tp_isBlank_6 : decode bc_Tp_isBlank 6 = .ok (.iload_n 0, 1) := by decide +kernel
theorem d_Tp_isBlank_7 : decode bc_Tp_isBlank 7 = .ok (.bipush 10, 2) := by decide +kernel
theorem d_Tp_isBlank_9 : decode bc_Tp_isBlank 9 = .ok (.if_icmp .eq 15, 3) := by decide +kernel
theorem d_Tp_isBlank_12 : decode bc_Tp_isBlank 12 = .ok (.iload_n 0, 1) := by decide +kernel
theorem d_Tp_isBlank_13 : decode bc_Tp_isBlank 13 = .ok (.bipush 13, 2) := by decide +kernel
theorem d_Tp_isBlank_15 : decode bc_Tp_isBlank 15 = .ok (.if_icmp .eq 9, 3) := by decide +kernel
theorem d_Tp_isBlank_18 : decode bc_Tp_isBlank 18 = .ok (.iload_n 0, 1) := by decide +kernel
theorem d_Tp_isBlank_19 : decode bc_Tp_isBlank 19 = .ok (.bipush 32, 2) := by decide +kernel
theorem d_Tp_isBlank_21 : decode bc_Tp_isBlank 21 = .ok (.if_icmp .ne 7, 3) := by decide +kernel
theorem d_Tp_isBlank_24 : decode bc_Tp_isBlank 24 = .ok (.iconst 1, 1) := by decide +kernel
theorem d_Tp_isBlank_25 : decode bc_Tp_isBlank 25 = .ok (.goto 4, 3) := by decide +kernel
theorem d_Tp_isBlank_28 : decode bc_Tp_isBlank 28 = .ok (.iconst 0, 1) := by decide +kernel
theorem d_Tp_isBlank_29 : decode bc_Tp_isBlank 29 = .ok (.ireturn, 1) := by decide +kernel
set_option maxRecDepth 20000 in
theorem w_Tp_isBlank_b0 {X : CX} {V : WV} (hVO : VOk V) {S : Mem} {z : Int32} (hC : Ck X V bc_Tp_isBlank 1 "SecretWells$Tape" (some .boolean) 0 0) (x0 : Int32) (h : f_Tp_isBlank_b0  x0 = some z) : G X V 1 (QI X V z S) 0 [some (.int x0)] [] S := by
  unfold f_Tp_isBlank_b0 at h
  refine g_iload_n (pc := 0) hC (i := 0) (x := x0) rfl rfl d_Tp_isBlank_0 ?_
  refine g_bipush (pc := 1) hC kb_9 d_Tp_isBlank_1 ?_
  refine g_icmp_eq (pc := 3) hC (tgt := 24) (by decide) d_Tp_isBlank_3 h (fun h => ?_) (fun h => ?_)
  · refine g_iconst (pc := 24) hC kc_1 d_Tp_isBlank_24 ?_
    refine g_goto (pc := 25) hC (tgt := 29) (by decide) d_Tp_isBlank_25 ?_
    exact g_iN (pc := 29) hC rfl d_Tp_isBlank_29 h
  · refine g_iload_n (pc := 6) hC (i := 0) (x := x0) rfl rfl d_Tp_isBlank_6 ?_
    refine g_bipush (pc := 7) hC kb_10 d_Tp_isBlank_7 ?_
    refine g_icmp_eq (pc := 9) hC (tgt := 24) (by decide) d_Tp_isBlank_9 h (fun h => ?_) (fun h => ?_)
    · refine g_iconst (pc := 24) hC kc_1 d_Tp_isBlank_24 ?_
      refine g_goto (pc := 25) hC (tgt := 29) (by decide) d_Tp_isBlank_25 ?_
      exact g_iN (pc := 29) hC rfl d_Tp_isBlank_29 h
    · refine g_iload_n (pc := 12) hC (i := 0) (x := x0) rfl rfl d_Tp_isBlank_12 ?_
      refine g_bipush (pc := 13) hC kb_13 d_Tp_isBlank_13 ?_
      refine g_icmp_eq (pc := 15) hC (tgt := 24) (by decide) d_Tp_isBlank_15 h (fun h => ?_) (fun h => ?_)
      · refine g_iconst (pc := 24) hC kc_1 d_Tp_isBlank_24 ?_
        refine g_goto (pc := 25) hC (tgt := 29) (by decide) d_Tp_isBlank_25 ?_
        exact g_iN (pc := 29) hC rfl d_Tp_isBlank_29 h
      · refine g_iload_n (pc := 18) hC (i := 0) (x := x0) rfl rfl d_Tp_isBlank_18 ?_
        refine g_bipush (pc := 19) hC kb_32 d_Tp_isBlank_19 ?_
        refine g_icmp_ne (pc := 21) hC (tgt := 28) (by decide) d_Tp_isBlank_21 h (fun h => ?_) (fun h => ?_)
        · refine g_iconst (pc := 28) hC kc_0 d_Tp_isBlank_28 ?_
          exact g_iN (pc := 29) hC rfl d_Tp_isBlank_29 h
        · refine g_iconst (pc := 24) hC kc_1 d_Tp_isBlank_24 ?_
          refine g_goto (pc := 25) hC (tgt := 29) (by decide) d_Tp_isBlank_25 ?_
          exact g_iN (pc := 29) hC rfl d_Tp_isBlank_29 h
theorem c_Tp_isBlank {V : WV} {l : Launch} (hVO : VOk V) {x0 : Int32} {S : Mem} {z : Int32} (h : f_Tp_isBlank x0 = some z) : CI V l y_Tp_isBlank bc_Tp_isBlank 1 (some .boolean) 0 0 [.int x0] S z S :=
  ct_i rfl hVO (Nat.le_of_ble_eq_true rfl) (fun _ _ hC => w_Tp_isBlank_b0 hVO hC x0 h)
def f_Tp_behindBlanks_b2 (S : Mem) (k2 : Int32 → Option (Int32)) (x2 : Int32) : Option (Int32) :=
  if (S.1 1 0) ≤ x2 then
    some x2
  else
    gIn x2 2000 (
    Option.bind (f_Tp_isBlank (S.2.1 1 1 x2.toNatClampNeg)) (fun q16 =>
    if q16 = 0 then
      some x2
    else
      k2 (x2 + 1)))
def f_Tp_behindBlanks_l2 (S : Mem) : Nat → Int32 → Option (Int32)
  | 0 => fun _ => none
  | n + 1 => f_Tp_behindBlanks_b2 S (f_Tp_behindBlanks_l2 S n)
def f_Tp_behindBlanks_b0 (S : Mem) (x1 : Int32) : Option (Int32) :=
  f_Tp_behindBlanks_l2 S 5000 x1
def f_Tp_behindBlanks (x1 : Int32) (S : Mem) : Option (Int32) := f_Tp_behindBlanks_b0 S x1
theorem d_Tp_behindBlanks_0 : decode bc_Tp_behindBlanks 0 = .ok (.iload_n 1, 1) := by decide +kernel
theorem d_Tp_behindBlanks_1 : decode bc_Tp_behindBlanks 1 = .ok (.istore_n 2, 1) := by decide +kernel
theorem d_Tp_behindBlanks_2 : decode bc_Tp_behindBlanks 2 = .ok (.iload_n 2, 1) := by decide +kernel
theorem d_Tp_behindBlanks_3 : decode bc_Tp_behindBlanks 3 = .ok (.aload_n 0, 1) := by decide +kernel
theorem d_Tp_behindBlanks_4 : decode bc_Tp_behindBlanks 4 = .ok (.getfield 9, 3) := by decide +kernel
theorem d_Tp_behindBlanks_7 : decode bc_Tp_behindBlanks 7 = .ok (.if_icmp .ge 21, 3) := by decide +kernel
theorem d_Tp_behindBlanks_10 : decode bc_Tp_behindBlanks 10 = .ok (.aload_n 0, 1) := by decide +kernel
theorem d_Tp_behindBlanks_11 : decode bc_Tp_behindBlanks 11 = .ok (.getfield 15, 3) := by decide +kernel
theorem d_Tp_behindBlanks_14 : decode bc_Tp_behindBlanks 14 = .ok (.iload_n 2, 1) := by decide +kernel
theorem d_Tp_behindBlanks_15 : decode bc_Tp_behindBlanks 15 = .ok (.baload, 1) := by decide +kernel
theorem d_Tp_behindBlanks_16 : decode bc_Tp_behindBlanks 16 = .ok (.invokestatic 56, 3) := by decide +kernel
theorem d_Tp_behindBlanks_19 : decode bc_Tp_behindBlanks 19 = .ok (.ifCond .eq 9, 3) := by decide +kernel
theorem d_Tp_behindBlanks_22 : decode bc_Tp_behindBlanks 22 = .ok (.iinc 2 1, 3) := by decide +kernel
theorem d_Tp_behindBlanks_25 : decode bc_Tp_behindBlanks 25 = .ok (.goto (-23), 3) := by decide +kernel
theorem d_Tp_behindBlanks_28 : decode bc_Tp_behindBlanks 28 = .ok (.iload_n 2, 1) := by decide +kernel
theorem d_Tp_behindBlanks_29 : decode bc_Tp_behindBlanks 29 = .ok (.ireturn, 1) := by decide +kernel
set_option maxRecDepth 20000 in
theorem w_Tp_behindBlanks_b2 {X : CX} {V : WV} (hV : IsC V) {S : Mem} {z : Int32} (hC : Ck X V bc_Tp_behindBlanks 3 "SecretWells$Tape" (some .int) 1 20) (k2 : Int32 → Option (Int32)) (hk2 : ∀ (x2 : Int32), k2 x2 = some z → G X V 3 (QI X V z S) 2 [some (.ref (V.2.2.1 1 0)), none, some (.int x2)] [] S) (x2 : Int32) (h : f_Tp_behindBlanks_b2 S k2 x2 = some z) : G X V 3 (QI X V z S) 2 [some (.ref (V.2.2.1 1 0)), none, some (.int x2)] [] S := by
  unfold f_Tp_behindBlanks_b2 at h
  refine g_iload_n (pc := 2) hC (i := 2) (x := x2) rfl rfl d_Tp_behindBlanks_2 ?_
  refine g_aload_n (pc := 3) hC (i := 0) (x := (V.2.2.1 1 0)) rfl rfl d_Tp_behindBlanks_3 ?_
  refine g_getI (pc := 4) hC fo_Tp_9 (ob_Tp hV) rfl d_Tp_behindBlanks_4 ?_
  refine g_icmp_ge (pc := 7) hC (tgt := 28) (by decide) d_Tp_behindBlanks_7 h (fun h => ?_) (fun h => ?_)
  · refine g_iload_n (pc := 28) hC (i := 2) (x := x2) rfl rfl d_Tp_behindBlanks_28 ?_
    exact g_iN (pc := 29) hC rfl d_Tp_behindBlanks_29 h
  · refine g_aload_n (pc := 10) hC (i := 0) (x := (V.2.2.1 1 0)) rfl rfl d_Tp_behindBlanks_10 ?_
    refine g_getA (pc := 11) hC fo_Tp_15 (ob_Tp hV) rfl d_Tp_behindBlanks_11 ?_
    refine g_iload_n (pc := 14) hC (i := 2) (x := x2) rfl rfl d_Tp_behindBlanks_14 ?_
    refine g_bald (pc := 15) hC (ar_Tp_1 hV) d_Tp_behindBlanks_15 h (fun h => ?_)
    obtain ⟨q16, hq16, h⟩ := Option.bind_eq_some_iff.mp h
    refine g_si (pc := 16) hC (As := [.int (S.2.1 1 1 x2.toNatClampNeg)]) (st := []) mt_Tp_isBlank lk_Tp_56 (Nat.le_of_ble_eq_true rfl) ⟨Nat.le_of_ble_eq_true rfl, Nat.le_of_ble_eq_true rfl⟩ rfl d_Tp_behindBlanks_16 (c_Tp_isBlank (IsC.ok hV) hq16) ?_
    refine g_if_eq (pc := 19) hC (tgt := 28) (by decide) d_Tp_behindBlanks_19 h (fun h => ?_) (fun h => ?_)
    · refine g_iload_n (pc := 28) hC (i := 2) (x := x2) rfl rfl d_Tp_behindBlanks_28 ?_
      exact g_iN (pc := 29) hC rfl d_Tp_behindBlanks_29 h
    · refine s_iinc (pc := 22) hC (i := 2) (x := x2) (v := x2 + 1) rfl (by rw [kc_1]) (by decide) d_Tp_behindBlanks_22 (lv2 := [some (.ref (V.2.2.1 1 0)), none, some (.int (x2 + 1))]) rfl ?_
      refine g_goto (pc := 25) hC (tgt := 2) (by decide) d_Tp_behindBlanks_25 ?_
      exact hk2 (x2 + 1) h
theorem w_Tp_behindBlanks_l2 {X : CX} {V : WV} (hV : IsC V) {S : Mem} {z : Int32} (hC : Ck X V bc_Tp_behindBlanks 3 "SecretWells$Tape" (some .int) 1 20) : ∀ (n : Nat) (x2 : Int32), f_Tp_behindBlanks_l2 S n x2 = some z → G X V 3 (QI X V z S) 2 [some (.ref (V.2.2.1 1 0)), none, some (.int x2)] [] S := by
  intro n
  induction n with
  | zero =>
    intro x2 h
    have h : (none : Option (Int32)) = some z := h
    cases h
  | succ n ih =>
    intro x2 h
    exact w_Tp_behindBlanks_b2 hV hC (f_Tp_behindBlanks_l2 S n) ih x2 h
set_option maxRecDepth 20000 in
theorem w_Tp_behindBlanks_b0 {X : CX} {V : WV} (hV : IsC V) {S : Mem} {z : Int32} (hC : Ck X V bc_Tp_behindBlanks 3 "SecretWells$Tape" (some .int) 1 20) (x1 : Int32) (h : f_Tp_behindBlanks_b0 S x1 = some z) : G X V 3 (QI X V z S) 0 [some (.ref (V.2.2.1 1 0)), some (.int x1), none] [] S := by
  unfold f_Tp_behindBlanks_b0 at h
  refine g_iload_n (pc := 0) hC (i := 1) (x := x1) rfl rfl d_Tp_behindBlanks_0 ?_
  refine s_istore_n (pc := 1) hC (i := 2) rfl (by decide) d_Tp_behindBlanks_1 (lv2 := [some (.ref (V.2.2.1 1 0)), some (.int x1), some (.int x1)]) rfl ?_
  refine g_le (lv2 := [some (.ref (V.2.2.1 1 0)), none, some (.int x1)]) (⟨rfl, ⟨rfl, trivial⟩⟩) ?_
  exact w_Tp_behindBlanks_l2 hV hC 5000 x1 h
theorem c_Tp_behindBlanks {V : WV} {l : Launch} (hV : IsC V) {x1 : Int32} {S : Mem} {z : Int32} (h : f_Tp_behindBlanks x1 S = some z) : CI V l y_Tp_behindBlanks bc_Tp_behindBlanks 3 (some .int) 1 20 [.ref (V.2.2.1 1 0), .int x1] S z S :=
  ct_i rfl (IsC.ok hV) (Nat.le_of_ble_eq_true rfl) (fun _ _ hC => w_Tp_behindBlanks_b0 hV hC x1 h)
def f_Tp_isLetter_b0 (x0 : Int32) : Option (Int32) :=
  if x0 < 97 then
    some 0
  else
    if 122 < x0 then
      some 0
    else
      some 1
def f_Tp_isLetter (x0 : Int32) : Option (Int32) := f_Tp_isLetter_b0  x0
theorem d_Tp_isLetter_0 : decode bc_Tp_isLetter 0 = .ok (.iload_n 0, 1) := by decide +kernel
theorem d_Tp_isLetter_1 : decode bc_Tp_isLetter 1 = .ok (.bipush 97, 2) := by decide +kernel
theorem d_Tp_isLetter_3 : decode bc_Tp_isLetter 3 = .ok (.if_icmp .lt 13, 3) := by decide +kernel
theorem d_Tp_isLetter_6 : decode bc_Tp_isLetter 6 = .ok (.iload_n 0, 1) := by decide +kernel
theorem d_Tp_isLetter_7 : decode bc_Tp_isLetter 7 = .ok (.bipush 122, 2) := by decide +kernel
theorem d_Tp_isLetter_9 : decode bc_Tp_isLetter 9 = .ok (.if_icmp .gt 7, 3) := by decide +kernel
theorem d_Tp_isLetter_12 : decode bc_Tp_isLetter 12 = .ok (.iconst 1, 1) := by decide +kernel
theorem d_Tp_isLetter_13 : decode bc_Tp_isLetter 13 = .ok (.goto 4, 3) := by decide +kernel
theorem d_Tp_isLetter_16 : decode bc_Tp_isLetter 16 = .ok (.iconst 0, 1) := by decide +kernel
theorem d_Tp_isLetter_17 : decode bc_Tp_isLetter 17 = .ok (.ireturn, 1) := by decide +kernel
set_option maxRecDepth 20000 in
theorem w_Tp_isLetter_b0 {X : CX} {V : WV} (hVO : VOk V) {S : Mem} {z : Int32} (hC : Ck X V bc_Tp_isLetter 1 "SecretWells$Tape" (some .boolean) 0 0) (x0 : Int32) (h : f_Tp_isLetter_b0  x0 = some z) : G X V 1 (QI X V z S) 0 [some (.int x0)] [] S := by
  unfold f_Tp_isLetter_b0 at h
  refine g_iload_n (pc := 0) hC (i := 0) (x := x0) rfl rfl d_Tp_isLetter_0 ?_
  refine g_bipush (pc := 1) hC kb_97 d_Tp_isLetter_1 ?_
  refine g_icmp_lt (pc := 3) hC (tgt := 16) (by decide) d_Tp_isLetter_3 h (fun h => ?_) (fun h => ?_)
  · refine g_iconst (pc := 16) hC kc_0 d_Tp_isLetter_16 ?_
    exact g_iN (pc := 17) hC rfl d_Tp_isLetter_17 h
  · refine g_iload_n (pc := 6) hC (i := 0) (x := x0) rfl rfl d_Tp_isLetter_6 ?_
    refine g_bipush (pc := 7) hC kb_122 d_Tp_isLetter_7 ?_
    refine g_icmp_gt (pc := 9) hC (tgt := 16) (by decide) d_Tp_isLetter_9 h (fun h => ?_) (fun h => ?_)
    · refine g_iconst (pc := 16) hC kc_0 d_Tp_isLetter_16 ?_
      exact g_iN (pc := 17) hC rfl d_Tp_isLetter_17 h
    · refine g_iconst (pc := 12) hC kc_1 d_Tp_isLetter_12 ?_
      refine g_goto (pc := 13) hC (tgt := 17) (by decide) d_Tp_isLetter_13 ?_
      exact g_iN (pc := 17) hC rfl d_Tp_isLetter_17 h
theorem c_Tp_isLetter {V : WV} {l : Launch} (hVO : VOk V) {x0 : Int32} {S : Mem} {z : Int32} (h : f_Tp_isLetter x0 = some z) : CI V l y_Tp_isLetter bc_Tp_isLetter 1 (some .boolean) 0 0 [.int x0] S z S :=
  ct_i rfl hVO (Nat.le_of_ble_eq_true rfl) (fun _ _ hC => w_Tp_isLetter_b0 hVO hC x0 h)
def f_Tp_withLetter_b0 (x0 : Int64) (x2 : Int32) : Option (Int64) :=
  some ((((x0 * 27) + x2.toInt64) - 97) + 1)
def f_Tp_withLetter (x0 : Int64) (x2 : Int32) : Option (Int64) := f_Tp_withLetter_b0  x0 x2
theorem d_Tp_withLetter_0 : decode bc_Tp_withLetter 0 = .ok (.lload_n 0, 1) := by decide +kernel
theorem d_Tp_withLetter_1 : decode bc_Tp_withLetter 1 = .ok (.ldc2_w 81, 3) := by decide +kernel
theorem d_Tp_withLetter_4 : decode bc_Tp_withLetter 4 = .ok (.lmul, 1) := by decide +kernel
theorem d_Tp_withLetter_5 : decode bc_Tp_withLetter 5 = .ok (.iload_n 2, 1) := by decide +kernel
theorem d_Tp_withLetter_6 : decode bc_Tp_withLetter 6 = .ok (.i2l, 1) := by decide +kernel
theorem d_Tp_withLetter_7 : decode bc_Tp_withLetter 7 = .ok (.ladd, 1) := by decide +kernel
theorem d_Tp_withLetter_8 : decode bc_Tp_withLetter 8 = .ok (.ldc2_w 83, 3) := by decide +kernel
theorem d_Tp_withLetter_11 : decode bc_Tp_withLetter 11 = .ok (.lsub, 1) := by decide +kernel
theorem d_Tp_withLetter_12 : decode bc_Tp_withLetter 12 = .ok (.lconst 1, 1) := by decide +kernel
theorem d_Tp_withLetter_13 : decode bc_Tp_withLetter 13 = .ok (.ladd, 1) := by decide +kernel
theorem d_Tp_withLetter_14 : decode bc_Tp_withLetter 14 = .ok (.lreturn, 1) := by decide +kernel
set_option maxRecDepth 20000 in
theorem w_Tp_withLetter_b0 {X : CX} {V : WV} (hVO : VOk V) {S : Mem} {z : Int64} (hC : Ck X V bc_Tp_withLetter 3 "SecretWells$Tape" (some .long) 0 0) (x0 : Int64) (x2 : Int32) (h : f_Tp_withLetter_b0  x0 x2 = some z) : G X V 3 (QL X V z S) 0 [some (.long x0), none, some (.int x2)] [] S := by
  unfold f_Tp_withLetter_b0 at h
  refine g_lload_n (pc := 0) hC (i := 0) (x := x0) rfl rfl d_Tp_withLetter_0 ?_
  refine g_ldc2 (pc := 1) hC q_Tp_k81 d_Tp_withLetter_1 ?_
  refine g_lmul (pc := 4) hC d_Tp_withLetter_4 ?_
  refine g_iload_n (pc := 5) hC (i := 2) (x := x2) rfl rfl d_Tp_withLetter_5 ?_
  refine g_i2l (pc := 6) hC d_Tp_withLetter_6 ?_
  refine g_ladd (pc := 7) hC d_Tp_withLetter_7 ?_
  refine g_ldc2 (pc := 8) hC q_Tp_k83 d_Tp_withLetter_8 ?_
  refine g_lsub (pc := 11) hC d_Tp_withLetter_11 ?_
  refine g_lconst (pc := 12) hC (v := 1) (by decide) d_Tp_withLetter_12 ?_
  refine g_ladd (pc := 13) hC d_Tp_withLetter_13 ?_
  exact g_lN (pc := 14) hC d_Tp_withLetter_14 h
theorem c_Tp_withLetter {V : WV} {l : Launch} (hVO : VOk V) {x0 : Int64} {x2 : Int32} {S : Mem} {z : Int64} (h : f_Tp_withLetter x0 x2 = some z) : CL V l y_Tp_withLetter bc_Tp_withLetter 3 (some .long) 0 0 [.long x0, .int x2] S z S :=
  ct_l rfl hVO (Nat.le_of_ble_eq_true rfl) (fun _ _ hC => w_Tp_withLetter_b0 hVO hC x0 x2 h)
def f_Tp_kindOf_b2 (S : Mem) (k2 : Int64 → Int32 → Option (Int32)) (x1 : Int64) (x3 : Int32) : Option (Int32) :=
  if (Int32.ofNat 22) ≤ x3 then
    some 97
  else
    gIn x3 22 (
    if (lg_cmp (S.2.2 1 2 x3.toNatClampNeg) x1) = 0 then
      some (128 + x3)
    else
      k2 x1 (x3 + 1))
def f_Tp_kindOf_l2 (S : Mem) : Nat → Int64 → Int32 → Option (Int32)
  | 0 => fun _ _ => none
  | n + 1 => f_Tp_kindOf_b2 S (f_Tp_kindOf_l2 S n)
def f_Tp_kindOf_b0 (S : Mem) (x1 : Int64) : Option (Int32) :=
  f_Tp_kindOf_l2 S 5000 x1 0
def f_Tp_kindOf (x1 : Int64) (S : Mem) : Option (Int32) := f_Tp_kindOf_b0 S x1
theorem d_Tp_kindOf_0 : decode bc_Tp_kindOf 0 = .ok (.iconst 0, 1) := by decide +kernel
theorem d_Tp_kindOf_1 : decode bc_Tp_kindOf 1 = .ok (.istore_n 3, 1) := by decide +kernel
theorem d_Tp_kindOf_2 : decode bc_Tp_kindOf 2 = .ok (.iload_n 3, 1) := by decide +kernel
theorem d_Tp_kindOf_3 : decode bc_Tp_kindOf 3 = .ok (.aload_n 0, 1) := by decide +kernel
theorem d_Tp_kindOf_4 : decode bc_Tp_kindOf 4 = .ok (.getfield 19, 3) := by decide +kernel
theorem d_Tp_kindOf_7 : decode bc_Tp_kindOf 7 = .ok (.arraylength, 1) := by decide +kernel
theorem d_Tp_kindOf_8 : decode bc_Tp_kindOf 8 = .ok (.if_icmp .ge 26, 3) := by decide +kernel
theorem d_Tp_kindOf_11 : decode bc_Tp_kindOf 11 = .ok (.aload_n 0, 1) := by decide +kernel
theorem d_Tp_kindOf_12 : decode bc_Tp_kindOf 12 = .ok (.getfield 19, 3) := by decide +kernel
theorem d_Tp_kindOf_15 : decode bc_Tp_kindOf 15 = .ok (.iload_n 3, 1) := by decide +kernel
theorem d_Tp_kindOf_16 : decode bc_Tp_kindOf 16 = .ok (.laload, 1) := by decide +kernel
theorem d_Tp_kindOf_17 : decode bc_Tp_kindOf 17 = .ok (.lload_n 1, 1) := by decide +kernel
theorem d_Tp_kindOf_18 : decode bc_Tp_kindOf 18 = .ok (.lcmp, 1) := by decide +kernel
theorem d_Tp_kindOf_19 : decode bc_Tp_kindOf 19 = .ok (.ifCond .ne 9, 3) := by decide +kernel
theorem d_Tp_kindOf_22 : decode bc_Tp_kindOf 22 = .ok (.sipush 128, 3) := by decide +kernel
theorem d_Tp_kindOf_25 : decode bc_Tp_kindOf 25 = .ok (.iload_n 3, 1) := by decide +kernel
theorem d_Tp_kindOf_26 : decode bc_Tp_kindOf 26 = .ok (.iadd, 1) := by decide +kernel
theorem d_Tp_kindOf_27 : decode bc_Tp_kindOf 27 = .ok (.ireturn, 1) := by decide +kernel
theorem d_Tp_kindOf_28 : decode bc_Tp_kindOf 28 = .ok (.iinc 3 1, 3) := by decide +kernel
theorem d_Tp_kindOf_31 : decode bc_Tp_kindOf 31 = .ok (.goto (-29), 3) := by decide +kernel
theorem d_Tp_kindOf_34 : decode bc_Tp_kindOf 34 = .ok (.bipush 97, 2) := by decide +kernel
theorem d_Tp_kindOf_36 : decode bc_Tp_kindOf 36 = .ok (.ireturn, 1) := by decide +kernel
set_option maxRecDepth 20000 in
theorem w_Tp_kindOf_b2 {X : CX} {V : WV} (hV : IsC V) {S : Mem} {z : Int32} (hC : Ck X V bc_Tp_kindOf 4 "SecretWells$Tape" (some .int) 0 0) (k2 : Int64 → Int32 → Option (Int32)) (hk2 : ∀ (x1 : Int64) (x3 : Int32), k2 x1 x3 = some z → G X V 4 (QI X V z S) 2 [some (.ref (V.2.2.1 1 0)), some (.long x1), none, some (.int x3)] [] S) (x1 : Int64) (x3 : Int32) (h : f_Tp_kindOf_b2 S k2 x1 x3 = some z) : G X V 4 (QI X V z S) 2 [some (.ref (V.2.2.1 1 0)), some (.long x1), none, some (.int x3)] [] S := by
  unfold f_Tp_kindOf_b2 at h
  refine g_iload_n (pc := 2) hC (i := 3) (x := x3) rfl rfl d_Tp_kindOf_2 ?_
  refine g_aload_n (pc := 3) hC (i := 0) (x := (V.2.2.1 1 0)) rfl rfl d_Tp_kindOf_3 ?_
  refine g_getA (pc := 4) hC fo_Tp_19 (ob_Tp hV) rfl d_Tp_kindOf_4 ?_
  refine g_alen (pc := 7) hC (by decide) (ar_Tp_2 hV) rfl d_Tp_kindOf_7 ?_
  refine g_icmp_ge (pc := 8) hC (tgt := 34) (by decide) d_Tp_kindOf_8 h (fun h => ?_) (fun h => ?_)
  · refine g_bipush (pc := 34) hC kb_97 d_Tp_kindOf_34 ?_
    exact g_iN (pc := 36) hC rfl d_Tp_kindOf_36 h
  · refine g_aload_n (pc := 11) hC (i := 0) (x := (V.2.2.1 1 0)) rfl rfl d_Tp_kindOf_11 ?_
    refine g_getA (pc := 12) hC fo_Tp_19 (ob_Tp hV) rfl d_Tp_kindOf_12 ?_
    refine g_iload_n (pc := 15) hC (i := 3) (x := x3) rfl rfl d_Tp_kindOf_15 ?_
    refine g_lald (pc := 16) hC (ar_Tp_2 hV) d_Tp_kindOf_16 h (fun h => ?_)
    refine g_lload_n (pc := 17) hC (i := 1) (x := x1) rfl rfl d_Tp_kindOf_17 ?_
    refine g_lcmp (pc := 18) hC d_Tp_kindOf_18 ?_
    refine g_if_ne (pc := 19) hC (tgt := 28) (by decide) d_Tp_kindOf_19 h (fun h => ?_) (fun h => ?_)
    · refine s_iinc (pc := 28) hC (i := 3) (x := x3) (v := x3 + 1) rfl (by rw [kc_1]) (by decide) d_Tp_kindOf_28 (lv2 := [some (.ref (V.2.2.1 1 0)), some (.long x1), none, some (.int (x3 + 1))]) rfl ?_
      refine g_goto (pc := 31) hC (tgt := 2) (by decide) d_Tp_kindOf_31 ?_
      exact hk2 x1 (x3 + 1) h
    · refine g_sipush (pc := 22) hC ks_128 d_Tp_kindOf_22 ?_
      refine g_iload_n (pc := 25) hC (i := 3) (x := x3) rfl rfl d_Tp_kindOf_25 ?_
      refine g_iadd (pc := 26) hC d_Tp_kindOf_26 ?_
      exact g_iN (pc := 27) hC rfl d_Tp_kindOf_27 h
theorem w_Tp_kindOf_l2 {X : CX} {V : WV} (hV : IsC V) {S : Mem} {z : Int32} (hC : Ck X V bc_Tp_kindOf 4 "SecretWells$Tape" (some .int) 0 0) : ∀ (n : Nat) (x1 : Int64) (x3 : Int32), f_Tp_kindOf_l2 S n x1 x3 = some z → G X V 4 (QI X V z S) 2 [some (.ref (V.2.2.1 1 0)), some (.long x1), none, some (.int x3)] [] S := by
  intro n
  induction n with
  | zero =>
    intro x1 x3 h
    have h : (none : Option (Int32)) = some z := h
    cases h
  | succ n ih =>
    intro x1 x3 h
    exact w_Tp_kindOf_b2 hV hC (f_Tp_kindOf_l2 S n) ih x1 x3 h
set_option maxRecDepth 20000 in
theorem w_Tp_kindOf_b0 {X : CX} {V : WV} (hV : IsC V) {S : Mem} {z : Int32} (hC : Ck X V bc_Tp_kindOf 4 "SecretWells$Tape" (some .int) 0 0) (x1 : Int64) (h : f_Tp_kindOf_b0 S x1 = some z) : G X V 4 (QI X V z S) 0 [some (.ref (V.2.2.1 1 0)), some (.long x1), none, none] [] S := by
  unfold f_Tp_kindOf_b0 at h
  refine g_iconst (pc := 0) hC kc_0 d_Tp_kindOf_0 ?_
  refine s_istore_n (pc := 1) hC (i := 3) rfl (by decide) d_Tp_kindOf_1 (lv2 := [some (.ref (V.2.2.1 1 0)), some (.long x1), none, some (.int 0)]) rfl ?_
  exact w_Tp_kindOf_l2 hV hC 5000 x1 0 h
theorem c_Tp_kindOf {V : WV} {l : Launch} (hV : IsC V) {x1 : Int64} {S : Mem} {z : Int32} (h : f_Tp_kindOf x1 S = some z) : CI V l y_Tp_kindOf bc_Tp_kindOf 4 (some .int) 0 0 [.ref (V.2.2.1 1 0), .long x1] S z S :=
  ct_i rfl (IsC.ok hV) (Nat.le_of_ble_eq_true rfl) (fun _ _ hC => w_Tp_kindOf_b0 hV hC x1 h)
def f_Tp_scanLetters_b75 (x3 : Int32) (s0 : Int32) (s1 : Int32) (S : Mem) : Option (Int32 × Mem) :=
  gIn s1 401 (letS (sA S 1 3 s1 s0) (fun S75 =>
  some (x3, S75)))
def f_Tp_scanLetters_b44 (x1 : Int32) (x2 : Int32) (x3 : Int32) (x4 : Int64) (S : Mem) : Option (Int32 × Mem) :=
  gIn x1 401 (letS (sL S 1 5 x1 x4) (fun S51 =>
  if (x3 - x2) ≤ 8 then
    Option.bind (f_Tp_kindOf x4 S51) (fun q72 =>
    f_Tp_scanLetters_b75 x3 q72 x1 S51)
  else
    f_Tp_scanLetters_b75 x3 1 x1 S51))
def f_Tp_scanLetters_b5 (k5 : Int32 → Int32 → Int32 → Int64 → Mem → Option (Int32 × Mem)) (x1 : Int32) (x2 : Int32) (x3 : Int32) (x4 : Int64) (S : Mem) : Option (Int32 × Mem) :=
  if (S.1 1 0) ≤ x3 then
    f_Tp_scanLetters_b44 x1 x2 x3 x4 S
  else
    gIn x3 2000 (
    Option.bind (f_Tp_isLetter (S.2.1 1 1 x3.toNatClampNeg)) (fun q19 =>
    if q19 = 0 then
      f_Tp_scanLetters_b44 x1 x2 x3 x4 S
    else
      gIn x3 2000 (
      Option.bind (f_Tp_withLetter x4 (S.2.1 1 1 x3.toNatClampNeg)) (fun q33 =>
      k5 x1 x2 (x3 + 1) q33 S))))
def f_Tp_scanLetters_l5 : Nat → Int32 → Int32 → Int32 → Int64 → Mem → Option (Int32 × Mem)
  | 0 => fun _ _ _ _ _ => none
  | n + 1 => f_Tp_scanLetters_b5  (f_Tp_scanLetters_l5  n)
def f_Tp_scanLetters_b0 (x1 : Int32) (x2 : Int32) (S : Mem) : Option (Int32 × Mem) :=
  f_Tp_scanLetters_l5 5000 x1 x2 x2 0 S
def f_Tp_scanLetters (x1 : Int32) (x2 : Int32) (S : Mem) : Option (Int32 × Mem) := f_Tp_scanLetters_b0  x1 x2 S
theorem d_Tp_scanLetters_0 : decode bc_Tp_scanLetters 0 = .ok (.iload_n 2, 1) := by decide +kernel
theorem d_Tp_scanLetters_1 : decode bc_Tp_scanLetters 1 = .ok (.istore_n 3, 1) := by decide +kernel
theorem d_Tp_scanLetters_2 : decode bc_Tp_scanLetters 2 = .ok (.lconst 0, 1) := by decide +kernel
theorem d_Tp_scanLetters_3 : decode bc_Tp_scanLetters 3 = .ok (.lstore 4, 2) := by decide +kernel
theorem d_Tp_scanLetters_5 : decode bc_Tp_scanLetters 5 = .ok (.iload_n 3, 1) := by decide +kernel
theorem d_Tp_scanLetters_6 : decode bc_Tp_scanLetters 6 = .ok (.aload_n 0, 1) := by decide +kernel
theorem d_Tp_scanLetters_7 : decode bc_Tp_scanLetters 7 = .ok (.getfield 9, 3) := by decide +kernel
theorem d_Tp_scanLetters_10 : decode bc_Tp_scanLetters 10 = .ok (.if_icmp .ge 34, 3) := by decide +kernel
theorem d_Tp_scanLetters_13 : decode bc_Tp_scanLetters 13 = .ok (.aload_n 0, 1) := by decide +kernel
theorem d_Tp_scanLetters_14 : decode bc_Tp_scanLetters 14 = .ok (.getfield 15, 3) := by decide +kernel
theorem d_Tp_scanLetters_17 : decode bc_Tp_scanLetters 17 = .ok (.iload_n 3, 1) := by decide +kernel
theorem d_Tp_scanLetters_18 : decode bc_Tp_scanLetters 18 = .ok (.baload, 1) := by decide +kernel
theorem d_Tp_scanLetters_19 : decode bc_Tp_scanLetters 19 = .ok (.invokestatic 60, 3) := by decide +kernel
theorem d_Tp_scanLetters_22 : decode bc_Tp_scanLetters 22 = .ok (.ifCond .eq 22, 3) := by decide +kernel
theorem d_Tp_scanLetters_25 : decode bc_Tp_scanLetters 25 = .ok (.lload 4, 2) := by decide +kernel
theorem d_Tp_scanLetters_27 : decode bc_Tp_scanLetters 27 = .ok (.aload_n 0, 1) := by decide +kernel
theorem d_Tp_scanLetters_28 : decode bc_Tp_scanLetters 28 = .ok (.getfield 15, 3) := by decide +kernel
theorem d_Tp_scanLetters_31 : decode bc_Tp_scanLetters 31 = .ok (.iload_n 3, 1) := by decide +kernel
theorem d_Tp_scanLetters_32 : decode bc_Tp_scanLetters 32 = .ok (.baload, 1) := by decide +kernel
theorem d_Tp_scanLetters_33 : decode bc_Tp_scanLetters 33 = .ok (.invokestatic 44, 3) := by decide +kernel
theorem d_Tp_scanLetters_36 : decode bc_Tp_scanLetters 36 = .ok (.lstore 4, 2) := by decide +kernel
theorem d_Tp_scanLetters_38 : decode bc_Tp_scanLetters 38 = .ok (.iinc 3 1, 3) := by decide +kernel
theorem d_Tp_scanLetters_41 : decode bc_Tp_scanLetters 41 = .ok (.goto (-36), 3) := by decide +kernel
theorem d_Tp_scanLetters_44 : decode bc_Tp_scanLetters 44 = .ok (.aload_n 0, 1) := by decide +kernel
theorem d_Tp_scanLetters_45 : decode bc_Tp_scanLetters 45 = .ok (.getfield 30, 3) := by decide +kernel
theorem d_Tp_scanLetters_48 : decode bc_Tp_scanLetters 48 = .ok (.iload_n 1, 1) := by decide +kernel
theorem d_Tp_scanLetters_49 : decode bc_Tp_scanLetters 49 = .ok (.lload 4, 2) := by decide +kernel
theorem d_Tp_scanLetters_51 : decode bc_Tp_scanLetters 51 = .ok (.lastore, 1) := by decide +kernel
theorem d_Tp_scanLetters_52 : decode bc_Tp_scanLetters 52 = .ok (.aload_n 0, 1) := by decide +kernel
theorem d_Tp_scanLetters_53 : decode bc_Tp_scanLetters 53 = .ok (.getfield 23, 3) := by decide +kernel
theorem d_Tp_scanLetters_56 : decode bc_Tp_scanLetters 56 = .ok (.iload_n 1, 1) := by decide +kernel
theorem d_Tp_scanLetters_57 : decode bc_Tp_scanLetters 57 = .ok (.iload_n 3, 1) := by decide +kernel
theorem d_Tp_scanLetters_58 : decode bc_Tp_scanLetters 58 = .ok (.iload_n 2, 1) := by decide +kernel
theorem d_Tp_scanLetters_59 : decode bc_Tp_scanLetters 59 = .ok (.isub, 1) := by decide +kernel
theorem d_Tp_scanLetters_60 : decode bc_Tp_scanLetters 60 = .ok (.bipush 8, 2) := by decide +kernel
theorem d_Tp_scanLetters_62 : decode bc_Tp_scanLetters 62 = .ok (.if_icmp .le 7, 3) := by decide +kernel
theorem d_Tp_scanLetters_65 : decode bc_Tp_scanLetters 65 = .ok (.iconst 1, 1) := by decide +kernel
theorem d_Tp_scanLetters_66 : decode bc_Tp_scanLetters 66 = .ok (.goto 9, 3) := by decide +kernel
theorem d_Tp_scanLetters_69 : decode bc_Tp_scanLetters 69 = .ok (.aload_n 0, 1) := by decide +kernel
theorem d_Tp_scanLetters_70 : decode bc_Tp_scanLetters 70 = .ok (.lload 4, 2) := by decide +kernel
theorem d_Tp_scanLetters_72 : decode bc_Tp_scanLetters 72 = .ok (.invokevirtual 77, 3) := by decide +kernel
theorem d_Tp_scanLetters_75 : decode bc_Tp_scanLetters 75 = .ok (.iastore, 1) := by decide +kernel
theorem d_Tp_scanLetters_76 : decode bc_Tp_scanLetters 76 = .ok (.iload_n 3, 1) := by decide +kernel
theorem d_Tp_scanLetters_77 : decode bc_Tp_scanLetters 77 = .ok (.ireturn, 1) := by decide +kernel
set_option maxRecDepth 20000 in
theorem w_Tp_scanLetters_b75 {X : CX} {V : WV} (hV : IsC V) {z : Int32 × Mem} (hC : Ck X V bc_Tp_scanLetters 6 "SecretWells$Tape" (some .int) 1 23) (x3 : Int32) (s0 : Int32) (s1 : Int32) (S : Mem) (h : f_Tp_scanLetters_b75  x3 s0 s1 S = some z) : G X V 6 (QI X V z.1 z.2) 75 [some (.ref (V.2.2.1 1 0)), none, none, some (.int x3), none, none] [.int s0, .int s1, .ref (V.2.2.1 1 (3 + 1))] S := by
  unfold f_Tp_scanLetters_b75 at h
  refine g_iast (pc := 75) hC (ar_Tp_3 hV) d_Tp_scanLetters_75 h (fun h => ?_)
  refine g_letS h (fun S75 h => ?_)
  refine g_iload_n (pc := 76) hC (i := 3) (x := x3) rfl rfl d_Tp_scanLetters_76 ?_
  exact g_iW (pc := 77) hC rfl d_Tp_scanLetters_77 h
set_option maxRecDepth 20000 in
theorem w_Tp_scanLetters_b44 {X : CX} {V : WV} (hV : IsC V) {z : Int32 × Mem} (hC : Ck X V bc_Tp_scanLetters 6 "SecretWells$Tape" (some .int) 1 23) (x1 : Int32) (x2 : Int32) (x3 : Int32) (x4 : Int64) (S : Mem) (h : f_Tp_scanLetters_b44  x1 x2 x3 x4 S = some z) : G X V 6 (QI X V z.1 z.2) 44 [some (.ref (V.2.2.1 1 0)), some (.int x1), some (.int x2), some (.int x3), some (.long x4), none] [] S := by
  unfold f_Tp_scanLetters_b44 at h
  refine g_aload_n (pc := 44) hC (i := 0) (x := (V.2.2.1 1 0)) rfl rfl d_Tp_scanLetters_44 ?_
  refine g_getA (pc := 45) hC fo_Tp_30 (ob_Tp hV) rfl d_Tp_scanLetters_45 ?_
  refine g_iload_n (pc := 48) hC (i := 1) (x := x1) rfl rfl d_Tp_scanLetters_48 ?_
  refine g_lload (pc := 49) hC (i := 4) (x := x4) rfl d_Tp_scanLetters_49 ?_
  refine g_last (pc := 51) hC (ar_Tp_5 hV) d_Tp_scanLetters_51 h (fun h => ?_)
  refine g_letS h (fun S51 h => ?_)
  refine g_aload_n (pc := 52) hC (i := 0) (x := (V.2.2.1 1 0)) rfl rfl d_Tp_scanLetters_52 ?_
  refine g_getA (pc := 53) hC fo_Tp_23 (ob_Tp hV) rfl d_Tp_scanLetters_53 ?_
  refine g_iload_n (pc := 56) hC (i := 1) (x := x1) rfl rfl d_Tp_scanLetters_56 ?_
  refine g_iload_n (pc := 57) hC (i := 3) (x := x3) rfl rfl d_Tp_scanLetters_57 ?_
  refine g_iload_n (pc := 58) hC (i := 2) (x := x2) rfl rfl d_Tp_scanLetters_58 ?_
  refine g_isub (pc := 59) hC d_Tp_scanLetters_59 ?_
  refine g_bipush (pc := 60) hC kb_8 d_Tp_scanLetters_60 ?_
  refine g_icmp_le (pc := 62) hC (tgt := 69) (by decide) d_Tp_scanLetters_62 h (fun h => ?_) (fun h => ?_)
  · refine g_aload_n (pc := 69) hC (i := 0) (x := (V.2.2.1 1 0)) rfl rfl d_Tp_scanLetters_69 ?_
    refine g_lload (pc := 70) hC (i := 4) (x := x4) rfl d_Tp_scanLetters_70 ?_
    obtain ⟨q72, hq72, h⟩ := Option.bind_eq_some_iff.mp h
    refine g_vi (pc := 72) hC (As := [.long x4]) (st := [.int x1, .ref (V.2.2.1 1 (3 + 1))]) mt_Tp_kindOf lk_Tp_77 rfl (ob_Tp hV) (Nat.le_of_ble_eq_true rfl) ⟨Nat.le_of_ble_eq_true rfl, Nat.le_of_ble_eq_true rfl⟩ rfl d_Tp_scanLetters_72 (c_Tp_kindOf hV hq72) ?_
    refine g_le (lv2 := [some (.ref (V.2.2.1 1 0)), none, none, some (.int x3), none, none]) (⟨rfl, ⟨rfl, trivial⟩⟩) ?_
    exact w_Tp_scanLetters_b75 hV hC x3 q72 x1 S51 h
  · refine g_iconst (pc := 65) hC kc_1 d_Tp_scanLetters_65 ?_
    refine g_goto (pc := 66) hC (tgt := 75) (by decide) d_Tp_scanLetters_66 ?_
    refine g_le (lv2 := [some (.ref (V.2.2.1 1 0)), none, none, some (.int x3), none, none]) (⟨rfl, ⟨rfl, trivial⟩⟩) ?_
    exact w_Tp_scanLetters_b75 hV hC x3 1 x1 S51 h
set_option maxRecDepth 20000 in
theorem w_Tp_scanLetters_b5 {X : CX} {V : WV} (hV : IsC V) {z : Int32 × Mem} (hC : Ck X V bc_Tp_scanLetters 6 "SecretWells$Tape" (some .int) 1 23) (k5 : Int32 → Int32 → Int32 → Int64 → Mem → Option (Int32 × Mem)) (hk5 : ∀ (x1 : Int32) (x2 : Int32) (x3 : Int32) (x4 : Int64) (S : Mem), k5 x1 x2 x3 x4 S = some z → G X V 6 (QI X V z.1 z.2) 5 [some (.ref (V.2.2.1 1 0)), some (.int x1), some (.int x2), some (.int x3), some (.long x4), none] [] S) (x1 : Int32) (x2 : Int32) (x3 : Int32) (x4 : Int64) (S : Mem) (h : f_Tp_scanLetters_b5  k5 x1 x2 x3 x4 S = some z) : G X V 6 (QI X V z.1 z.2) 5 [some (.ref (V.2.2.1 1 0)), some (.int x1), some (.int x2), some (.int x3), some (.long x4), none] [] S := by
  unfold f_Tp_scanLetters_b5 at h
  refine g_iload_n (pc := 5) hC (i := 3) (x := x3) rfl rfl d_Tp_scanLetters_5 ?_
  refine g_aload_n (pc := 6) hC (i := 0) (x := (V.2.2.1 1 0)) rfl rfl d_Tp_scanLetters_6 ?_
  refine g_getI (pc := 7) hC fo_Tp_9 (ob_Tp hV) rfl d_Tp_scanLetters_7 ?_
  refine g_icmp_ge (pc := 10) hC (tgt := 44) (by decide) d_Tp_scanLetters_10 h (fun h => ?_) (fun h => ?_)
  · exact w_Tp_scanLetters_b44 hV hC x1 x2 x3 x4 S h
  · refine g_aload_n (pc := 13) hC (i := 0) (x := (V.2.2.1 1 0)) rfl rfl d_Tp_scanLetters_13 ?_
    refine g_getA (pc := 14) hC fo_Tp_15 (ob_Tp hV) rfl d_Tp_scanLetters_14 ?_
    refine g_iload_n (pc := 17) hC (i := 3) (x := x3) rfl rfl d_Tp_scanLetters_17 ?_
    refine g_bald (pc := 18) hC (ar_Tp_1 hV) d_Tp_scanLetters_18 h (fun h => ?_)
    obtain ⟨q19, hq19, h⟩ := Option.bind_eq_some_iff.mp h
    refine g_si (pc := 19) hC (As := [.int (S.2.1 1 1 x3.toNatClampNeg)]) (st := []) mt_Tp_isLetter lk_Tp_60 (Nat.le_of_ble_eq_true rfl) ⟨Nat.le_of_ble_eq_true rfl, Nat.le_of_ble_eq_true rfl⟩ rfl d_Tp_scanLetters_19 (c_Tp_isLetter (IsC.ok hV) hq19) ?_
    refine g_if_eq (pc := 22) hC (tgt := 44) (by decide) d_Tp_scanLetters_22 h (fun h => ?_) (fun h => ?_)
    · exact w_Tp_scanLetters_b44 hV hC x1 x2 x3 x4 S h
    · refine g_lload (pc := 25) hC (i := 4) (x := x4) rfl d_Tp_scanLetters_25 ?_
      refine g_aload_n (pc := 27) hC (i := 0) (x := (V.2.2.1 1 0)) rfl rfl d_Tp_scanLetters_27 ?_
      refine g_getA (pc := 28) hC fo_Tp_15 (ob_Tp hV) rfl d_Tp_scanLetters_28 ?_
      refine g_iload_n (pc := 31) hC (i := 3) (x := x3) rfl rfl d_Tp_scanLetters_31 ?_
      refine g_bald (pc := 32) hC (ar_Tp_1 hV) d_Tp_scanLetters_32 h (fun h => ?_)
      obtain ⟨q33, hq33, h⟩ := Option.bind_eq_some_iff.mp h
      refine g_sl (pc := 33) hC (As := [.long x4, .int (S.2.1 1 1 x3.toNatClampNeg)]) (st := []) mt_Tp_withLetter lk_Tp_44 (Nat.le_of_ble_eq_true rfl) ⟨Nat.le_of_ble_eq_true rfl, Nat.le_of_ble_eq_true rfl⟩ rfl d_Tp_scanLetters_33 (c_Tp_withLetter (IsC.ok hV) hq33) ?_
      refine s_lstore (pc := 36) hC (i := 4) (by decide) d_Tp_scanLetters_36 (lv2 := [some (.ref (V.2.2.1 1 0)), some (.int x1), some (.int x2), some (.int x3), some (.long q33), none]) rfl ?_
      refine s_iinc (pc := 38) hC (i := 3) (x := x3) (v := x3 + 1) rfl (by rw [kc_1]) (by decide) d_Tp_scanLetters_38 (lv2 := [some (.ref (V.2.2.1 1 0)), some (.int x1), some (.int x2), some (.int (x3 + 1)), some (.long q33), none]) rfl ?_
      refine g_goto (pc := 41) hC (tgt := 5) (by decide) d_Tp_scanLetters_41 ?_
      exact hk5 x1 x2 (x3 + 1) q33 S h
theorem w_Tp_scanLetters_l5 {X : CX} {V : WV} (hV : IsC V) {z : Int32 × Mem} (hC : Ck X V bc_Tp_scanLetters 6 "SecretWells$Tape" (some .int) 1 23) : ∀ (n : Nat) (x1 : Int32) (x2 : Int32) (x3 : Int32) (x4 : Int64) (S : Mem), f_Tp_scanLetters_l5  n x1 x2 x3 x4 S = some z → G X V 6 (QI X V z.1 z.2) 5 [some (.ref (V.2.2.1 1 0)), some (.int x1), some (.int x2), some (.int x3), some (.long x4), none] [] S := by
  intro n
  induction n with
  | zero =>
    intro x1 x2 x3 x4 S h
    have h : (none : Option (Int32 × Mem)) = some z := h
    cases h
  | succ n ih =>
    intro x1 x2 x3 x4 S h
    exact w_Tp_scanLetters_b5 hV hC (f_Tp_scanLetters_l5  n) ih x1 x2 x3 x4 S h
set_option maxRecDepth 20000 in
theorem w_Tp_scanLetters_b0 {X : CX} {V : WV} (hV : IsC V) {z : Int32 × Mem} (hC : Ck X V bc_Tp_scanLetters 6 "SecretWells$Tape" (some .int) 1 23) (x1 : Int32) (x2 : Int32) (S : Mem) (h : f_Tp_scanLetters_b0  x1 x2 S = some z) : G X V 6 (QI X V z.1 z.2) 0 [some (.ref (V.2.2.1 1 0)), some (.int x1), some (.int x2), none, none, none] [] S := by
  unfold f_Tp_scanLetters_b0 at h
  refine g_iload_n (pc := 0) hC (i := 2) (x := x2) rfl rfl d_Tp_scanLetters_0 ?_
  refine s_istore_n (pc := 1) hC (i := 3) rfl (by decide) d_Tp_scanLetters_1 (lv2 := [some (.ref (V.2.2.1 1 0)), some (.int x1), some (.int x2), some (.int x2), none, none]) rfl ?_
  refine g_lconst (pc := 2) hC (v := 0) (by decide) d_Tp_scanLetters_2 ?_
  refine s_lstore (pc := 3) hC (i := 4) (by decide) d_Tp_scanLetters_3 (lv2 := [some (.ref (V.2.2.1 1 0)), some (.int x1), some (.int x2), some (.int x2), some (.long 0), none]) rfl ?_
  exact w_Tp_scanLetters_l5 hV hC 5000 x1 x2 x2 0 S h
theorem c_Tp_scanLetters {V : WV} {l : Launch} (hV : IsC V) {x1 : Int32} {x2 : Int32} {S : Mem} {z : Int32 × Mem} (h : f_Tp_scanLetters x1 x2 S = some z) : CI V l y_Tp_scanLetters bc_Tp_scanLetters 6 (some .int) 1 23 [.ref (V.2.2.1 1 0), .int x1, .int x2] S z.1 z.2 :=
  ct_i rfl (IsC.ok hV) (Nat.le_of_ble_eq_true rfl) (fun _ _ hC => w_Tp_scanLetters_b0 hV hC x1 x2 S h)
def f_Tp_isDigit_b0 (x0 : Int32) : Option (Int32) :=
  if x0 < 48 then
    some 0
  else
    if 57 < x0 then
      some 0
    else
      some 1
def f_Tp_isDigit (x0 : Int32) : Option (Int32) := f_Tp_isDigit_b0  x0
theorem d_Tp_isDigit_0 : decode bc_Tp_isDigit 0 = .ok (.iload_n 0, 1) := by decide +kernel
theorem d_Tp_isDigit_1 : decode bc_Tp_isDigit 1 = .ok (.bipush 48, 2) := by decide +kernel
theorem d_Tp_isDigit_3 : decode bc_Tp_isDigit 3 = .ok (.if_icmp .lt 13, 3) := by decide +kernel
theorem d_Tp_isDigit_6 : decode bc_Tp_isDigit 6 = .ok (.iload_n 0, 1) := by decide +kernel
theorem d_Tp_isDigit_7 : decode bc_Tp_isDigit 7 = .ok (.bipush 57, 2) := by decide +kernel
theorem d_Tp_isDigit_9 : decode bc_Tp_isDigit 9 = .ok (.if_icmp .gt 7, 3) := by decide +kernel
theorem d_Tp_isDigit_12 : decode bc_Tp_isDigit 12 = .ok (.iconst 1, 1) := by decide +kernel
theorem d_Tp_isDigit_13 : decode bc_Tp_isDigit 13 = .ok (.goto 4, 3) := by decide +kernel
theorem d_Tp_isDigit_16 : decode bc_Tp_isDigit 16 = .ok (.iconst 0, 1) := by decide +kernel
theorem d_Tp_isDigit_17 : decode bc_Tp_isDigit 17 = .ok (.ireturn, 1) := by decide +kernel
set_option maxRecDepth 20000 in
theorem w_Tp_isDigit_b0 {X : CX} {V : WV} (hVO : VOk V) {S : Mem} {z : Int32} (hC : Ck X V bc_Tp_isDigit 1 "SecretWells$Tape" (some .boolean) 0 0) (x0 : Int32) (h : f_Tp_isDigit_b0  x0 = some z) : G X V 1 (QI X V z S) 0 [some (.int x0)] [] S := by
  unfold f_Tp_isDigit_b0 at h
  refine g_iload_n (pc := 0) hC (i := 0) (x := x0) rfl rfl d_Tp_isDigit_0 ?_
  refine g_bipush (pc := 1) hC kb_48 d_Tp_isDigit_1 ?_
  refine g_icmp_lt (pc := 3) hC (tgt := 16) (by decide) d_Tp_isDigit_3 h (fun h => ?_) (fun h => ?_)
  · refine g_iconst (pc := 16) hC kc_0 d_Tp_isDigit_16 ?_
    exact g_iN (pc := 17) hC rfl d_Tp_isDigit_17 h
  · refine g_iload_n (pc := 6) hC (i := 0) (x := x0) rfl rfl d_Tp_isDigit_6 ?_
    refine g_bipush (pc := 7) hC kb_57 d_Tp_isDigit_7 ?_
    refine g_icmp_gt (pc := 9) hC (tgt := 16) (by decide) d_Tp_isDigit_9 h (fun h => ?_) (fun h => ?_)
    · refine g_iconst (pc := 16) hC kc_0 d_Tp_isDigit_16 ?_
      exact g_iN (pc := 17) hC rfl d_Tp_isDigit_17 h
    · refine g_iconst (pc := 12) hC kc_1 d_Tp_isDigit_12 ?_
      refine g_goto (pc := 13) hC (tgt := 17) (by decide) d_Tp_isDigit_13 ?_
      exact g_iN (pc := 17) hC rfl d_Tp_isDigit_17 h
theorem c_Tp_isDigit {V : WV} {l : Launch} (hVO : VOk V) {x0 : Int32} {S : Mem} {z : Int32} (h : f_Tp_isDigit x0 = some z) : CI V l y_Tp_isDigit bc_Tp_isDigit 1 (some .boolean) 0 0 [.int x0] S z S :=
  ct_i rfl hVO (Nat.le_of_ble_eq_true rfl) (fun _ _ hC => w_Tp_isDigit_b0 hVO hC x0 h)
def f_Tp_scanDigits_b75 (x3 : Int32) (s0 : Int32) (s1 : Int32) (S : Mem) : Option (Int32 × Mem) :=
  gIn s1 401 (letS (sA S 1 3 s1 s0) (fun S75 =>
  some (x3, S75)))
def f_Tp_scanDigits_b48 (x1 : Int32) (x2 : Int32) (x3 : Int32) (x4 : Int32) (S : Mem) : Option (Int32 × Mem) :=
  gIn x1 401 (letS (sL S 1 5 x1 x4.toInt64) (fun S56 =>
  if (x3 - x2) ≤ 4 then
    f_Tp_scanDigits_b75 x3 48 x1 S56
  else
    f_Tp_scanDigits_b75 x3 1 x1 S56))
def f_Tp_scanDigits_b5 (k5 : Int32 → Int32 → Int32 → Int32 → Mem → Option (Int32 × Mem)) (x1 : Int32) (x2 : Int32) (x3 : Int32) (x4 : Int32) (S : Mem) : Option (Int32 × Mem) :=
  if (S.1 1 0) ≤ x3 then
    f_Tp_scanDigits_b48 x1 x2 x3 x4 S
  else
    gIn x3 2000 (
    Option.bind (f_Tp_isDigit (S.2.1 1 1 x3.toNatClampNeg)) (fun q19 =>
    if q19 = 0 then
      f_Tp_scanDigits_b48 x1 x2 x3 x4 S
    else
      gIn x3 2000 (
      letS (((x4 * 10) + (S.2.1 1 1 x3.toNatClampNeg)) - 48) (fun y40 =>
      k5 x1 x2 (x3 + 1) y40 S))))
def f_Tp_scanDigits_l5 : Nat → Int32 → Int32 → Int32 → Int32 → Mem → Option (Int32 × Mem)
  | 0 => fun _ _ _ _ _ => none
  | n + 1 => f_Tp_scanDigits_b5  (f_Tp_scanDigits_l5  n)
def f_Tp_scanDigits_b0 (x1 : Int32) (x2 : Int32) (S : Mem) : Option (Int32 × Mem) :=
  f_Tp_scanDigits_l5 5000 x1 x2 x2 0 S
def f_Tp_scanDigits (x1 : Int32) (x2 : Int32) (S : Mem) : Option (Int32 × Mem) := f_Tp_scanDigits_b0  x1 x2 S
theorem d_Tp_scanDigits_0 : decode bc_Tp_scanDigits 0 = .ok (.iload_n 2, 1) := by decide +kernel
theorem d_Tp_scanDigits_1 : decode bc_Tp_scanDigits 1 = .ok (.istore_n 3, 1) := by decide +kernel
theorem d_Tp_scanDigits_2 : decode bc_Tp_scanDigits 2 = .ok (.iconst 0, 1) := by decide +kernel
theorem d_Tp_scanDigits_3 : decode bc_Tp_scanDigits 3 = .ok (.istore 4, 2) := by decide +kernel
theorem d_Tp_scanDigits_5 : decode bc_Tp_scanDigits 5 = .ok (.iload_n 3, 1) := by decide +kernel
theorem d_Tp_scanDigits_6 : decode bc_Tp_scanDigits 6 = .ok (.aload_n 0, 1) := by decide +kernel
theorem d_Tp_scanDigits_7 : decode bc_Tp_scanDigits 7 = .ok (.getfield 9, 3) := by decide +kernel
theorem d_Tp_scanDigits_10 : decode bc_Tp_scanDigits 10 = .ok (.if_icmp .ge 38, 3) := by decide +kernel
theorem d_Tp_scanDigits_13 : decode bc_Tp_scanDigits 13 = .ok (.aload_n 0, 1) := by decide +kernel
theorem d_Tp_scanDigits_14 : decode bc_Tp_scanDigits 14 = .ok (.getfield 15, 3) := by decide +kernel
theorem d_Tp_scanDigits_17 : decode bc_Tp_scanDigits 17 = .ok (.iload_n 3, 1) := by decide +kernel
theorem d_Tp_scanDigits_18 : decode bc_Tp_scanDigits 18 = .ok (.baload, 1) := by decide +kernel
theorem d_Tp_scanDigits_19 : decode bc_Tp_scanDigits 19 = .ok (.invokestatic 66, 3) := by decide +kernel
theorem d_Tp_scanDigits_22 : decode bc_Tp_scanDigits 22 = .ok (.ifCond .eq 26, 3) := by decide +kernel
theorem d_Tp_scanDigits_25 : decode bc_Tp_scanDigits 25 = .ok (.iload 4, 2) := by decide +kernel
theorem d_Tp_scanDigits_27 : decode bc_Tp_scanDigits 27 = .ok (.bipush 10, 2) := by decide +kernel
theorem d_Tp_scanDigits_29 : decode bc_Tp_scanDigits 29 = .ok (.imul, 1) := by decide +kernel
theorem d_Tp_scanDigits_30 : decode bc_Tp_scanDigits 30 = .ok (.aload_n 0, 1) := by decide +kernel
theorem d_Tp_scanDigits_31 : decode bc_Tp_scanDigits 31 = .ok (.getfield 15, 3) := by decide +kernel
theorem d_Tp_scanDigits_34 : decode bc_Tp_scanDigits 34 = .ok (.iload_n 3, 1) := by decide +kernel
theorem d_Tp_scanDigits_35 : decode bc_Tp_scanDigits 35 = .ok (.baload, 1) := by decide +kernel
theorem d_Tp_scanDigits_36 : decode bc_Tp_scanDigits 36 = .ok (.iadd, 1) := by decide +kernel
theorem d_Tp_scanDigits_37 : decode bc_Tp_scanDigits 37 = .ok (.bipush 48, 2) := by decide +kernel
theorem d_Tp_scanDigits_39 : decode bc_Tp_scanDigits 39 = .ok (.isub, 1) := by decide +kernel
theorem d_Tp_scanDigits_40 : decode bc_Tp_scanDigits 40 = .ok (.istore 4, 2) := by decide +kernel
theorem d_Tp_scanDigits_42 : decode bc_Tp_scanDigits 42 = .ok (.iinc 3 1, 3) := by decide +kernel
theorem d_Tp_scanDigits_45 : decode bc_Tp_scanDigits 45 = .ok (.goto (-40), 3) := by decide +kernel
theorem d_Tp_scanDigits_48 : decode bc_Tp_scanDigits 48 = .ok (.aload_n 0, 1) := by decide +kernel
theorem d_Tp_scanDigits_49 : decode bc_Tp_scanDigits 49 = .ok (.getfield 30, 3) := by decide +kernel
theorem d_Tp_scanDigits_52 : decode bc_Tp_scanDigits 52 = .ok (.iload_n 1, 1) := by decide +kernel
theorem d_Tp_scanDigits_53 : decode bc_Tp_scanDigits 53 = .ok (.iload 4, 2) := by decide +kernel
theorem d_Tp_scanDigits_55 : decode bc_Tp_scanDigits 55 = .ok (.i2l, 1) := by decide +kernel
theorem d_Tp_scanDigits_56 : decode bc_Tp_scanDigits 56 = .ok (.lastore, 1) := by decide +kernel
theorem d_Tp_scanDigits_57 : decode bc_Tp_scanDigits 57 = .ok (.aload_n 0, 1) := by decide +kernel
theorem d_Tp_scanDigits_58 : decode bc_Tp_scanDigits 58 = .ok (.getfield 23, 3) := by decide +kernel
theorem d_Tp_scanDigits_61 : decode bc_Tp_scanDigits 61 = .ok (.iload_n 1, 1) := by decide +kernel
theorem d_Tp_scanDigits_62 : decode bc_Tp_scanDigits 62 = .ok (.iload_n 3, 1) := by decide +kernel
theorem d_Tp_scanDigits_63 : decode bc_Tp_scanDigits 63 = .ok (.iload_n 2, 1) := by decide +kernel
theorem d_Tp_scanDigits_64 : decode bc_Tp_scanDigits 64 = .ok (.isub, 1) := by decide +kernel
theorem d_Tp_scanDigits_65 : decode bc_Tp_scanDigits 65 = .ok (.iconst 4, 1) := by decide +kernel
theorem d_Tp_scanDigits_66 : decode bc_Tp_scanDigits 66 = .ok (.if_icmp .le 7, 3) := by decide +kernel
theorem d_Tp_scanDigits_69 : decode bc_Tp_scanDigits 69 = .ok (.iconst 1, 1) := by decide +kernel
theorem d_Tp_scanDigits_70 : decode bc_Tp_scanDigits 70 = .ok (.goto 5, 3) := by decide +kernel
theorem d_Tp_scanDigits_73 : decode bc_Tp_scanDigits 73 = .ok (.bipush 48, 2) := by decide +kernel
theorem d_Tp_scanDigits_75 : decode bc_Tp_scanDigits 75 = .ok (.iastore, 1) := by decide +kernel
theorem d_Tp_scanDigits_76 : decode bc_Tp_scanDigits 76 = .ok (.iload_n 3, 1) := by decide +kernel
theorem d_Tp_scanDigits_77 : decode bc_Tp_scanDigits 77 = .ok (.ireturn, 1) := by decide +kernel
set_option maxRecDepth 20000 in
theorem w_Tp_scanDigits_b75 {X : CX} {V : WV} (hV : IsC V) {z : Int32 × Mem} (hC : Ck X V bc_Tp_scanDigits 5 "SecretWells$Tape" (some .int) 1 20) (x3 : Int32) (s0 : Int32) (s1 : Int32) (S : Mem) (h : f_Tp_scanDigits_b75  x3 s0 s1 S = some z) : G X V 5 (QI X V z.1 z.2) 75 [some (.ref (V.2.2.1 1 0)), none, none, some (.int x3), none] [.int s0, .int s1, .ref (V.2.2.1 1 (3 + 1))] S := by
  unfold f_Tp_scanDigits_b75 at h
  refine g_iast (pc := 75) hC (ar_Tp_3 hV) d_Tp_scanDigits_75 h (fun h => ?_)
  refine g_letS h (fun S75 h => ?_)
  refine g_iload_n (pc := 76) hC (i := 3) (x := x3) rfl rfl d_Tp_scanDigits_76 ?_
  exact g_iW (pc := 77) hC rfl d_Tp_scanDigits_77 h
set_option maxRecDepth 20000 in
theorem w_Tp_scanDigits_b48 {X : CX} {V : WV} (hV : IsC V) {z : Int32 × Mem} (hC : Ck X V bc_Tp_scanDigits 5 "SecretWells$Tape" (some .int) 1 20) (x1 : Int32) (x2 : Int32) (x3 : Int32) (x4 : Int32) (S : Mem) (h : f_Tp_scanDigits_b48  x1 x2 x3 x4 S = some z) : G X V 5 (QI X V z.1 z.2) 48 [some (.ref (V.2.2.1 1 0)), some (.int x1), some (.int x2), some (.int x3), some (.int x4)] [] S := by
  unfold f_Tp_scanDigits_b48 at h
  refine g_aload_n (pc := 48) hC (i := 0) (x := (V.2.2.1 1 0)) rfl rfl d_Tp_scanDigits_48 ?_
  refine g_getA (pc := 49) hC fo_Tp_30 (ob_Tp hV) rfl d_Tp_scanDigits_49 ?_
  refine g_iload_n (pc := 52) hC (i := 1) (x := x1) rfl rfl d_Tp_scanDigits_52 ?_
  refine g_iload (pc := 53) hC (i := 4) (x := x4) rfl d_Tp_scanDigits_53 ?_
  refine g_i2l (pc := 55) hC d_Tp_scanDigits_55 ?_
  refine g_last (pc := 56) hC (ar_Tp_5 hV) d_Tp_scanDigits_56 h (fun h => ?_)
  refine g_letS h (fun S56 h => ?_)
  refine g_aload_n (pc := 57) hC (i := 0) (x := (V.2.2.1 1 0)) rfl rfl d_Tp_scanDigits_57 ?_
  refine g_getA (pc := 58) hC fo_Tp_23 (ob_Tp hV) rfl d_Tp_scanDigits_58 ?_
  refine g_iload_n (pc := 61) hC (i := 1) (x := x1) rfl rfl d_Tp_scanDigits_61 ?_
  refine g_iload_n (pc := 62) hC (i := 3) (x := x3) rfl rfl d_Tp_scanDigits_62 ?_
  refine g_iload_n (pc := 63) hC (i := 2) (x := x2) rfl rfl d_Tp_scanDigits_63 ?_
  refine g_isub (pc := 64) hC d_Tp_scanDigits_64 ?_
  refine g_iconst (pc := 65) hC kc_4 d_Tp_scanDigits_65 ?_
  refine g_icmp_le (pc := 66) hC (tgt := 73) (by decide) d_Tp_scanDigits_66 h (fun h => ?_) (fun h => ?_)
  · refine g_bipush (pc := 73) hC kb_48 d_Tp_scanDigits_73 ?_
    refine g_le (lv2 := [some (.ref (V.2.2.1 1 0)), none, none, some (.int x3), none]) (⟨rfl, ⟨rfl, trivial⟩⟩) ?_
    exact w_Tp_scanDigits_b75 hV hC x3 48 x1 S56 h
  · refine g_iconst (pc := 69) hC kc_1 d_Tp_scanDigits_69 ?_
    refine g_goto (pc := 70) hC (tgt := 75) (by decide) d_Tp_scanDigits_70 ?_
    refine g_le (lv2 := [some (.ref (V.2.2.1 1 0)), none, none, some (.int x3), none]) (⟨rfl, ⟨rfl, trivial⟩⟩) ?_
    exact w_Tp_scanDigits_b75 hV hC x3 1 x1 S56 h
set_option maxRecDepth 20000 in
theorem w_Tp_scanDigits_b5 {X : CX} {V : WV} (hV : IsC V) {z : Int32 × Mem} (hC : Ck X V bc_Tp_scanDigits 5 "SecretWells$Tape" (some .int) 1 20) (k5 : Int32 → Int32 → Int32 → Int32 → Mem → Option (Int32 × Mem)) (hk5 : ∀ (x1 : Int32) (x2 : Int32) (x3 : Int32) (x4 : Int32) (S : Mem), k5 x1 x2 x3 x4 S = some z → G X V 5 (QI X V z.1 z.2) 5 [some (.ref (V.2.2.1 1 0)), some (.int x1), some (.int x2), some (.int x3), some (.int x4)] [] S) (x1 : Int32) (x2 : Int32) (x3 : Int32) (x4 : Int32) (S : Mem) (h : f_Tp_scanDigits_b5  k5 x1 x2 x3 x4 S = some z) : G X V 5 (QI X V z.1 z.2) 5 [some (.ref (V.2.2.1 1 0)), some (.int x1), some (.int x2), some (.int x3), some (.int x4)] [] S := by
  unfold f_Tp_scanDigits_b5 at h
  refine g_iload_n (pc := 5) hC (i := 3) (x := x3) rfl rfl d_Tp_scanDigits_5 ?_
  refine g_aload_n (pc := 6) hC (i := 0) (x := (V.2.2.1 1 0)) rfl rfl d_Tp_scanDigits_6 ?_
  refine g_getI (pc := 7) hC fo_Tp_9 (ob_Tp hV) rfl d_Tp_scanDigits_7 ?_
  refine g_icmp_ge (pc := 10) hC (tgt := 48) (by decide) d_Tp_scanDigits_10 h (fun h => ?_) (fun h => ?_)
  · exact w_Tp_scanDigits_b48 hV hC x1 x2 x3 x4 S h
  · refine g_aload_n (pc := 13) hC (i := 0) (x := (V.2.2.1 1 0)) rfl rfl d_Tp_scanDigits_13 ?_
    refine g_getA (pc := 14) hC fo_Tp_15 (ob_Tp hV) rfl d_Tp_scanDigits_14 ?_
    refine g_iload_n (pc := 17) hC (i := 3) (x := x3) rfl rfl d_Tp_scanDigits_17 ?_
    refine g_bald (pc := 18) hC (ar_Tp_1 hV) d_Tp_scanDigits_18 h (fun h => ?_)
    obtain ⟨q19, hq19, h⟩ := Option.bind_eq_some_iff.mp h
    refine g_si (pc := 19) hC (As := [.int (S.2.1 1 1 x3.toNatClampNeg)]) (st := []) mt_Tp_isDigit lk_Tp_66 (Nat.le_of_ble_eq_true rfl) ⟨Nat.le_of_ble_eq_true rfl, Nat.le_of_ble_eq_true rfl⟩ rfl d_Tp_scanDigits_19 (c_Tp_isDigit (IsC.ok hV) hq19) ?_
    refine g_if_eq (pc := 22) hC (tgt := 48) (by decide) d_Tp_scanDigits_22 h (fun h => ?_) (fun h => ?_)
    · exact w_Tp_scanDigits_b48 hV hC x1 x2 x3 x4 S h
    · refine g_iload (pc := 25) hC (i := 4) (x := x4) rfl d_Tp_scanDigits_25 ?_
      refine g_bipush (pc := 27) hC kb_10 d_Tp_scanDigits_27 ?_
      refine g_imul (pc := 29) hC d_Tp_scanDigits_29 ?_
      refine g_aload_n (pc := 30) hC (i := 0) (x := (V.2.2.1 1 0)) rfl rfl d_Tp_scanDigits_30 ?_
      refine g_getA (pc := 31) hC fo_Tp_15 (ob_Tp hV) rfl d_Tp_scanDigits_31 ?_
      refine g_iload_n (pc := 34) hC (i := 3) (x := x3) rfl rfl d_Tp_scanDigits_34 ?_
      refine g_bald (pc := 35) hC (ar_Tp_1 hV) d_Tp_scanDigits_35 h (fun h => ?_)
      refine g_iadd (pc := 36) hC d_Tp_scanDigits_36 ?_
      refine g_bipush (pc := 37) hC kb_48 d_Tp_scanDigits_37 ?_
      refine g_isub (pc := 39) hC d_Tp_scanDigits_39 ?_
      refine g_leti h (fun y40 h => ?_)
      refine s_istore (pc := 40) hC (i := 4) (by decide) d_Tp_scanDigits_40 (lv2 := [some (.ref (V.2.2.1 1 0)), some (.int x1), some (.int x2), some (.int x3), some (.int y40)]) rfl ?_
      refine s_iinc (pc := 42) hC (i := 3) (x := x3) (v := x3 + 1) rfl (by rw [kc_1]) (by decide) d_Tp_scanDigits_42 (lv2 := [some (.ref (V.2.2.1 1 0)), some (.int x1), some (.int x2), some (.int (x3 + 1)), some (.int y40)]) rfl ?_
      refine g_goto (pc := 45) hC (tgt := 5) (by decide) d_Tp_scanDigits_45 ?_
      exact hk5 x1 x2 (x3 + 1) y40 S h
theorem w_Tp_scanDigits_l5 {X : CX} {V : WV} (hV : IsC V) {z : Int32 × Mem} (hC : Ck X V bc_Tp_scanDigits 5 "SecretWells$Tape" (some .int) 1 20) : ∀ (n : Nat) (x1 : Int32) (x2 : Int32) (x3 : Int32) (x4 : Int32) (S : Mem), f_Tp_scanDigits_l5  n x1 x2 x3 x4 S = some z → G X V 5 (QI X V z.1 z.2) 5 [some (.ref (V.2.2.1 1 0)), some (.int x1), some (.int x2), some (.int x3), some (.int x4)] [] S := by
  intro n
  induction n with
  | zero =>
    intro x1 x2 x3 x4 S h
    have h : (none : Option (Int32 × Mem)) = some z := h
    cases h
  | succ n ih =>
    intro x1 x2 x3 x4 S h
    exact w_Tp_scanDigits_b5 hV hC (f_Tp_scanDigits_l5  n) ih x1 x2 x3 x4 S h
set_option maxRecDepth 20000 in
theorem w_Tp_scanDigits_b0 {X : CX} {V : WV} (hV : IsC V) {z : Int32 × Mem} (hC : Ck X V bc_Tp_scanDigits 5 "SecretWells$Tape" (some .int) 1 20) (x1 : Int32) (x2 : Int32) (S : Mem) (h : f_Tp_scanDigits_b0  x1 x2 S = some z) : G X V 5 (QI X V z.1 z.2) 0 [some (.ref (V.2.2.1 1 0)), some (.int x1), some (.int x2), none, none] [] S := by
  unfold f_Tp_scanDigits_b0 at h
  refine g_iload_n (pc := 0) hC (i := 2) (x := x2) rfl rfl d_Tp_scanDigits_0 ?_
  refine s_istore_n (pc := 1) hC (i := 3) rfl (by decide) d_Tp_scanDigits_1 (lv2 := [some (.ref (V.2.2.1 1 0)), some (.int x1), some (.int x2), some (.int x2), none]) rfl ?_
  refine g_iconst (pc := 2) hC kc_0 d_Tp_scanDigits_2 ?_
  refine s_istore (pc := 3) hC (i := 4) (by decide) d_Tp_scanDigits_3 (lv2 := [some (.ref (V.2.2.1 1 0)), some (.int x1), some (.int x2), some (.int x2), some (.int 0)]) rfl ?_
  exact w_Tp_scanDigits_l5 hV hC 5000 x1 x2 x2 0 S h
theorem c_Tp_scanDigits {V : WV} {l : Launch} (hV : IsC V) {x1 : Int32} {x2 : Int32} {S : Mem} {z : Int32 × Mem} (h : f_Tp_scanDigits x1 x2 S = some z) : CI V l y_Tp_scanDigits bc_Tp_scanDigits 5 (some .int) 1 20 [.ref (V.2.2.1 1 0), .int x1, .int x2] S z.1 z.2 :=
  ct_i rfl (IsC.ok hV) (Nat.le_of_ble_eq_true rfl) (fun _ _ hC => w_Tp_scanDigits_b0 hV hC x1 x2 S h)
def f_Tp_scanOne_b104 (x2 : Int32) (s0 : Int32) (s1 : Int32) (S : Mem) : Option (Int32 × Mem) :=
  gIn s1 401 (letS (sA S 1 3 s1 s0) (fun S104 =>
  some (x2 + 1, S104)))
def f_Tp_scanOne_b84 (x1 : Int32) (x2 : Int32) (s0 : Int32) (S : Mem) : Option (Int32 × Mem) :=
  if s0 = 0 then
    f_Tp_scanOne_b104 x2 1 x1 S
  else
    gIn x2 2000 (
    f_Tp_scanOne_b104 x2 (S.2.1 1 1 x2.toNatClampNeg) x1 S)
def f_Tp_scanOne_b0 (x1 : Int32) (x2 : Int32) (S : Mem) : Option (Int32 × Mem) :=
  if x2 < (S.1 1 0) then
    gIn x2 2000 (
    Option.bind (f_Tp_isLetter (S.2.1 1 1 x2.toNatClampNeg)) (fun q23 =>
    if q23 = 0 then
      gIn x2 2000 (
      Option.bind (f_Tp_isDigit (S.2.1 1 1 x2.toNatClampNeg)) (fun q42 =>
      if q42 = 0 then
        gIn x2 2000 (
        if (S.2.1 1 1 x2.toNatClampNeg) ≤ 0 then
          f_Tp_scanOne_b84 x1 x2 0 S
        else
          gIn x2 2000 (
          Option.bind (f_JStr_indexOf 1 (((S.2.1 1 1 x2.toNatClampNeg).toUInt32 % 65536).toInt32)) (fun q73 =>
          if q73 < 0 then
            f_Tp_scanOne_b84 x1 x2 0 S
          else
            f_Tp_scanOne_b84 x1 x2 1 S)))
      else
        Option.bind (f_Tp_scanDigits x1 x2 S) (fun q51 =>
        some (q51.1, q51.2))))
    else
      Option.bind (f_Tp_scanLetters x1 x2 S) (fun q32 =>
      some (q32.1, q32.2))))
  else
    gIn x1 401 (letS (sA S 1 3 x1 0) (fun S14 =>
    some (x2, S14)))
def f_Tp_scanOne (x1 : Int32) (x2 : Int32) (S : Mem) : Option (Int32 × Mem) := f_Tp_scanOne_b0  x1 x2 S
theorem d_Tp_scanOne_0 : decode bc_Tp_scanOne 0 = .ok (.iload_n 2, 1) := by decide +kernel
theorem d_Tp_scanOne_1 : decode bc_Tp_scanOne 1 = .ok (.aload_n 0, 1) := by decide +kernel
theorem d_Tp_scanOne_2 : decode bc_Tp_scanOne 2 = .ok (.getfield 9, 3) := by decide +kernel
theorem d_Tp_scanOne_5 : decode bc_Tp_scanOne 5 = .ok (.if_icmp .lt 12, 3) := by decide +kernel
theorem d_Tp_scanOne_8 : decode bc_Tp_scanOne 8 = .ok (.aload_n 0, 1) := by decide +kernel
theorem d_Tp_scanOne_9 : decode bc_Tp_scanOne 9 = .ok (.getfield 23, 3) := by decide +kernel
theorem d_Tp_scanOne_12 : decode bc_Tp_scanOne 12 = .ok (.iload_n 1, 1) := by decide +kernel
theorem d_Tp_scanOne_13 : decode bc_Tp_scanOne 13 = .ok (.iconst 0, 1) := by decide +kernel
theorem d_Tp_scanOne_14 : decode bc_Tp_scanOne 14 = .ok (.iastore, 1) := by decide +kernel
theorem d_Tp_scanOne_15 : decode bc_Tp_scanOne 15 = .ok (.iload_n 2, 1) := by decide +kernel
theorem d_Tp_scanOne_16 : decode bc_Tp_scanOne 16 = .ok (.ireturn, 1) := by decide +kernel
theorem d_Tp_scanOne_17 : decode bc_Tp_scanOne 17 = .ok (.aload_n 0, 1) := by decide +kernel
theorem d_Tp_scanOne_18 : decode bc_Tp_scanOne 18 = .ok (.getfield 15, 3) := by decide +kernel
theorem d_Tp_scanOne_21 : decode bc_Tp_scanOne 21 = .ok (.iload_n 2, 1) := by decide +kernel
theorem d_Tp_scanOne_22 : decode bc_Tp_scanOne 22 = .ok (.baload, 1) := by decide +kernel
theorem d_Tp_scanOne_23 : decode bc_Tp_scanOne 23 = .ok (.invokestatic 60, 3) := by decide +kernel
theorem d_Tp_scanOne_26 : decode bc_Tp_scanOne 26 = .ok (.ifCond .eq 10, 3) := by decide +kernel
theorem d_Tp_scanOne_29 : decode bc_Tp_scanOne 29 = .ok (.aload_n 0, 1) := by decide +kernel
theorem d_Tp_scanOne_30 : decode bc_Tp_scanOne 30 = .ok (.iload_n 1, 1) := by decide +kernel
theorem d_Tp_scanOne_31 : decode bc_Tp_scanOne 31 = .ok (.iload_n 2, 1) := by decide +kernel
theorem d_Tp_scanOne_32 : decode bc_Tp_scanOne 32 = .ok (.invokevirtual 63, 3) := by decide +kernel
theorem d_Tp_scanOne_35 : decode bc_Tp_scanOne 35 = .ok (.ireturn, 1) := by decide +kernel
theorem d_Tp_scanOne_36 : decode bc_Tp_scanOne 36 = .ok (.aload_n 0, 1) := by decide +kernel
theorem d_Tp_scanOne_37 : decode bc_Tp_scanOne 37 = .ok (.getfield 15, 3) := by decide +kernel
theorem d_Tp_scanOne_40 : decode bc_Tp_scanOne 40 = .ok (.iload_n 2, 1) := by decide +kernel
theorem d_Tp_scanOne_41 : decode bc_Tp_scanOne 41 = .ok (.baload, 1) := by decide +kernel
theorem d_Tp_scanOne_42 : decode bc_Tp_scanOne 42 = .ok (.invokestatic 66, 3) := by decide +kernel
theorem d_Tp_scanOne_45 : decode bc_Tp_scanOne 45 = .ok (.ifCond .eq 10, 3) := by decide +kernel
theorem d_Tp_scanOne_48 : decode bc_Tp_scanOne 48 = .ok (.aload_n 0, 1) := by decide +kernel
theorem d_Tp_scanOne_49 : decode bc_Tp_scanOne 49 = .ok (.iload_n 1, 1) := by decide +kernel
theorem d_Tp_scanOne_50 : decode bc_Tp_scanOne 50 = .ok (.iload_n 2, 1) := by decide +kernel
theorem d_Tp_scanOne_51 : decode bc_Tp_scanOne 51 = .ok (.invokevirtual 69, 3) := by decide +kernel
theorem d_Tp_scanOne_54 : decode bc_Tp_scanOne 54 = .ok (.ireturn, 1) := by decide +kernel
theorem d_Tp_scanOne_55 : decode bc_Tp_scanOne 55 = .ok (.aload_n 0, 1) := by decide +kernel
theorem d_Tp_scanOne_56 : decode bc_Tp_scanOne 56 = .ok (.getfield 15, 3) := by decide +kernel
theorem d_Tp_scanOne_59 : decode bc_Tp_scanOne 59 = .ok (.iload_n 2, 1) := by decide +kernel
theorem d_Tp_scanOne_60 : decode bc_Tp_scanOne 60 = .ok (.baload, 1) := by decide +kernel
theorem d_Tp_scanOne_61 : decode bc_Tp_scanOne 61 = .ok (.ifCond .le 22, 3) := by decide +kernel
theorem d_Tp_scanOne_64 : decode bc_Tp_scanOne 64 = .ok (.ldc 72, 2) := by decide +kernel
theorem d_Tp_scanOne_66 : decode bc_Tp_scanOne 66 = .ok (.aload_n 0, 1) := by decide +kernel
theorem d_Tp_scanOne_67 : decode bc_Tp_scanOne 67 = .ok (.getfield 15, 3) := by decide +kernel
theorem d_Tp_scanOne_70 : decode bc_Tp_scanOne 70 = .ok (.iload_n 2, 1) := by decide +kernel
theorem d_Tp_scanOne_71 : decode bc_Tp_scanOne 71 = .ok (.baload, 1) := by decide +kernel
theorem d_Tp_scanOne_72 : decode bc_Tp_scanOne 72 = .ok (.i2c, 1) := by decide +kernel
theorem d_Tp_scanOne_73 : decode bc_Tp_scanOne 73 = .ok (.invokevirtual 74, 3) := by decide +kernel
theorem d_Tp_scanOne_76 : decode bc_Tp_scanOne 76 = .ok (.ifCond .lt 7, 3) := by decide +kernel
theorem d_Tp_scanOne_79 : decode bc_Tp_scanOne 79 = .ok (.iconst 1, 1) := by decide +kernel
theorem d_Tp_scanOne_80 : decode bc_Tp_scanOne 80 = .ok (.goto 4, 3) := by decide +kernel
theorem d_Tp_scanOne_83 : decode bc_Tp_scanOne 83 = .ok (.iconst 0, 1) := by decide +kernel
theorem d_Tp_scanOne_84 : decode bc_Tp_scanOne 84 = .ok (.istore_n 3, 1) := by decide +kernel
theorem d_Tp_scanOne_85 : decode bc_Tp_scanOne 85 = .ok (.aload_n 0, 1) := by decide +kernel
theorem d_Tp_scanOne_86 : decode bc_Tp_scanOne 86 = .ok (.getfield 23, 3) := by decide +kernel
theorem d_Tp_scanOne_89 : decode bc_Tp_scanOne 89 = .ok (.iload_n 1, 1) := by decide +kernel
theorem d_Tp_scanOne_90 : decode bc_Tp_scanOne 90 = .ok (.iload_n 3, 1) := by decide +kernel
theorem d_Tp_scanOne_91 : decode bc_Tp_scanOne 91 = .ok (.ifCond .eq 12, 3) := by decide +kernel
theorem d_Tp_scanOne_94 : decode bc_Tp_scanOne 94 = .ok (.aload_n 0, 1) := by decide +kernel
theorem d_Tp_scanOne_95 : decode bc_Tp_scanOne 95 = .ok (.getfield 15, 3) := by decide +kernel
theorem d_Tp_scanOne_98 : decode bc_Tp_scanOne 98 = .ok (.iload_n 2, 1) := by decide +kernel
theorem d_Tp_scanOne_99 : decode bc_Tp_scanOne 99 = .ok (.baload, 1) := by decide +kernel
theorem d_Tp_scanOne_100 : decode bc_Tp_scanOne 100 = .ok (.goto 4, 3) := by decide +kernel
theorem d_Tp_scanOne_103 : decode bc_Tp_scanOne 103 = .ok (.iconst 1, 1) := by decide +kernel
theorem d_Tp_scanOne_104 : decode bc_Tp_scanOne 104 = .ok (.iastore, 1) := by decide +kernel
theorem d_Tp_scanOne_105 : decode bc_Tp_scanOne 105 = .ok (.iload_n 2, 1) := by decide +kernel
theorem d_Tp_scanOne_106 : decode bc_Tp_scanOne 106 = .ok (.iconst 1, 1) := by decide +kernel
theorem d_Tp_scanOne_107 : decode bc_Tp_scanOne 107 = .ok (.iadd, 1) := by decide +kernel
theorem d_Tp_scanOne_108 : decode bc_Tp_scanOne 108 = .ok (.ireturn, 1) := by decide +kernel
set_option maxRecDepth 20000 in
theorem w_Tp_scanOne_b104 {X : CX} {V : WV} (hV : IsC V) {z : Int32 × Mem} (hC : Ck X V bc_Tp_scanOne 4 "SecretWells$Tape" (some .int) 4 91) (x2 : Int32) (s0 : Int32) (s1 : Int32) (S : Mem) (h : f_Tp_scanOne_b104  x2 s0 s1 S = some z) : G X V 4 (QI X V z.1 z.2) 104 [some (.ref (V.2.2.1 1 0)), none, some (.int x2), none] [.int s0, .int s1, .ref (V.2.2.1 1 (3 + 1))] S := by
  unfold f_Tp_scanOne_b104 at h
  refine g_iast (pc := 104) hC (ar_Tp_3 hV) d_Tp_scanOne_104 h (fun h => ?_)
  refine g_letS h (fun S104 h => ?_)
  refine g_iload_n (pc := 105) hC (i := 2) (x := x2) rfl rfl d_Tp_scanOne_105 ?_
  refine g_iconst (pc := 106) hC kc_1 d_Tp_scanOne_106 ?_
  refine g_iadd (pc := 107) hC d_Tp_scanOne_107 ?_
  exact g_iW (pc := 108) hC rfl d_Tp_scanOne_108 h
set_option maxRecDepth 20000 in
theorem w_Tp_scanOne_b84 {X : CX} {V : WV} (hV : IsC V) {z : Int32 × Mem} (hC : Ck X V bc_Tp_scanOne 4 "SecretWells$Tape" (some .int) 4 91) (x1 : Int32) (x2 : Int32) (s0 : Int32) (S : Mem) (h : f_Tp_scanOne_b84  x1 x2 s0 S = some z) : G X V 4 (QI X V z.1 z.2) 84 [some (.ref (V.2.2.1 1 0)), some (.int x1), some (.int x2), none] [.int s0] S := by
  unfold f_Tp_scanOne_b84 at h
  refine s_istore_n (pc := 84) hC (i := 3) rfl (by decide) d_Tp_scanOne_84 (lv2 := [some (.ref (V.2.2.1 1 0)), some (.int x1), some (.int x2), some (.int s0)]) rfl ?_
  refine g_aload_n (pc := 85) hC (i := 0) (x := (V.2.2.1 1 0)) rfl rfl d_Tp_scanOne_85 ?_
  refine g_getA (pc := 86) hC fo_Tp_23 (ob_Tp hV) rfl d_Tp_scanOne_86 ?_
  refine g_iload_n (pc := 89) hC (i := 1) (x := x1) rfl rfl d_Tp_scanOne_89 ?_
  refine g_iload_n (pc := 90) hC (i := 3) (x := s0) rfl rfl d_Tp_scanOne_90 ?_
  refine g_if_eq (pc := 91) hC (tgt := 103) (by decide) d_Tp_scanOne_91 h (fun h => ?_) (fun h => ?_)
  · refine g_iconst (pc := 103) hC kc_1 d_Tp_scanOne_103 ?_
    refine g_le (lv2 := [some (.ref (V.2.2.1 1 0)), none, some (.int x2), none]) (⟨rfl, ⟨rfl, trivial⟩⟩) ?_
    exact w_Tp_scanOne_b104 hV hC x2 1 x1 S h
  · refine g_aload_n (pc := 94) hC (i := 0) (x := (V.2.2.1 1 0)) rfl rfl d_Tp_scanOne_94 ?_
    refine g_getA (pc := 95) hC fo_Tp_15 (ob_Tp hV) rfl d_Tp_scanOne_95 ?_
    refine g_iload_n (pc := 98) hC (i := 2) (x := x2) rfl rfl d_Tp_scanOne_98 ?_
    refine g_bald (pc := 99) hC (ar_Tp_1 hV) d_Tp_scanOne_99 h (fun h => ?_)
    refine g_goto (pc := 100) hC (tgt := 104) (by decide) d_Tp_scanOne_100 ?_
    refine g_le (lv2 := [some (.ref (V.2.2.1 1 0)), none, some (.int x2), none]) (⟨rfl, ⟨rfl, trivial⟩⟩) ?_
    exact w_Tp_scanOne_b104 hV hC x2 (S.2.1 1 1 x2.toNatClampNeg) x1 S h
set_option maxRecDepth 20000 in
theorem w_Tp_scanOne_b0 {X : CX} {V : WV} (hV : IsC V) {z : Int32 × Mem} (hC : Ck X V bc_Tp_scanOne 4 "SecretWells$Tape" (some .int) 4 91) (x1 : Int32) (x2 : Int32) (S : Mem) (h : f_Tp_scanOne_b0  x1 x2 S = some z) : G X V 4 (QI X V z.1 z.2) 0 [some (.ref (V.2.2.1 1 0)), some (.int x1), some (.int x2), none] [] S := by
  unfold f_Tp_scanOne_b0 at h
  refine g_iload_n (pc := 0) hC (i := 2) (x := x2) rfl rfl d_Tp_scanOne_0 ?_
  refine g_aload_n (pc := 1) hC (i := 0) (x := (V.2.2.1 1 0)) rfl rfl d_Tp_scanOne_1 ?_
  refine g_getI (pc := 2) hC fo_Tp_9 (ob_Tp hV) rfl d_Tp_scanOne_2 ?_
  refine g_icmp_lt (pc := 5) hC (tgt := 17) (by decide) d_Tp_scanOne_5 h (fun h => ?_) (fun h => ?_)
  · refine g_aload_n (pc := 17) hC (i := 0) (x := (V.2.2.1 1 0)) rfl rfl d_Tp_scanOne_17 ?_
    refine g_getA (pc := 18) hC fo_Tp_15 (ob_Tp hV) rfl d_Tp_scanOne_18 ?_
    refine g_iload_n (pc := 21) hC (i := 2) (x := x2) rfl rfl d_Tp_scanOne_21 ?_
    refine g_bald (pc := 22) hC (ar_Tp_1 hV) d_Tp_scanOne_22 h (fun h => ?_)
    obtain ⟨q23, hq23, h⟩ := Option.bind_eq_some_iff.mp h
    refine g_si (pc := 23) hC (As := [.int (S.2.1 1 1 x2.toNatClampNeg)]) (st := []) mt_Tp_isLetter lk_Tp_60 (Nat.le_of_ble_eq_true rfl) ⟨Nat.le_of_ble_eq_true rfl, Nat.le_of_ble_eq_true rfl⟩ rfl d_Tp_scanOne_23 (c_Tp_isLetter (IsC.ok hV) hq23) ?_
    refine g_if_eq (pc := 26) hC (tgt := 36) (by decide) d_Tp_scanOne_26 h (fun h => ?_) (fun h => ?_)
    · refine g_aload_n (pc := 36) hC (i := 0) (x := (V.2.2.1 1 0)) rfl rfl d_Tp_scanOne_36 ?_
      refine g_getA (pc := 37) hC fo_Tp_15 (ob_Tp hV) rfl d_Tp_scanOne_37 ?_
      refine g_iload_n (pc := 40) hC (i := 2) (x := x2) rfl rfl d_Tp_scanOne_40 ?_
      refine g_bald (pc := 41) hC (ar_Tp_1 hV) d_Tp_scanOne_41 h (fun h => ?_)
      obtain ⟨q42, hq42, h⟩ := Option.bind_eq_some_iff.mp h
      refine g_si (pc := 42) hC (As := [.int (S.2.1 1 1 x2.toNatClampNeg)]) (st := []) mt_Tp_isDigit lk_Tp_66 (Nat.le_of_ble_eq_true rfl) ⟨Nat.le_of_ble_eq_true rfl, Nat.le_of_ble_eq_true rfl⟩ rfl d_Tp_scanOne_42 (c_Tp_isDigit (IsC.ok hV) hq42) ?_
      refine g_if_eq (pc := 45) hC (tgt := 55) (by decide) d_Tp_scanOne_45 h (fun h => ?_) (fun h => ?_)
      · refine g_aload_n (pc := 55) hC (i := 0) (x := (V.2.2.1 1 0)) rfl rfl d_Tp_scanOne_55 ?_
        refine g_getA (pc := 56) hC fo_Tp_15 (ob_Tp hV) rfl d_Tp_scanOne_56 ?_
        refine g_iload_n (pc := 59) hC (i := 2) (x := x2) rfl rfl d_Tp_scanOne_59 ?_
        refine g_bald (pc := 60) hC (ar_Tp_1 hV) d_Tp_scanOne_60 h (fun h => ?_)
        refine g_if_le (pc := 61) hC (tgt := 83) (by decide) d_Tp_scanOne_61 h (fun h => ?_) (fun h => ?_)
        · refine g_iconst (pc := 83) hC kc_0 d_Tp_scanOne_83 ?_
          exact w_Tp_scanOne_b84 hV hC x1 x2 0 S h
        · refine g_ldcS (pc := 64) hV.2.2 hC 1 (by decide) rfl rfl d_Tp_scanOne_64 ?_
          refine g_aload_n (pc := 66) hC (i := 0) (x := (V.2.2.1 1 0)) rfl rfl d_Tp_scanOne_66 ?_
          refine g_getA (pc := 67) hC fo_Tp_15 (ob_Tp hV) rfl d_Tp_scanOne_67 ?_
          refine g_iload_n (pc := 70) hC (i := 2) (x := x2) rfl rfl d_Tp_scanOne_70 ?_
          refine g_bald (pc := 71) hC (ar_Tp_1 hV) d_Tp_scanOne_71 h (fun h => ?_)
          refine g_i2c (pc := 72) hC d_Tp_scanOne_72 ?_
          obtain ⟨q73, hq73, h⟩ := Option.bind_eq_some_iff.mp h
          refine g_ki (pc := 73) hV.2.2 hC (As := [.int (((S.2.1 1 1 x2.toNatClampNeg).toUInt32 % 65536).toInt32)]) (st := []) mt_JStr_indexOf lk_Tp_74 rfl (by decide) (Nat.le_of_ble_eq_true rfl) ⟨Nat.le_of_ble_eq_true rfl, Nat.le_of_ble_eq_true rfl⟩ rfl d_Tp_scanOne_73 (c_JStr_indexOf (IsC.k hV) (by decide) hq73) ?_
          refine g_if_lt (pc := 76) hC (tgt := 83) (by decide) d_Tp_scanOne_76 h (fun h => ?_) (fun h => ?_)
          · refine g_iconst (pc := 83) hC kc_0 d_Tp_scanOne_83 ?_
            exact w_Tp_scanOne_b84 hV hC x1 x2 0 S h
          · refine g_iconst (pc := 79) hC kc_1 d_Tp_scanOne_79 ?_
            refine g_goto (pc := 80) hC (tgt := 84) (by decide) d_Tp_scanOne_80 ?_
            exact w_Tp_scanOne_b84 hV hC x1 x2 1 S h
      · refine g_aload_n (pc := 48) hC (i := 0) (x := (V.2.2.1 1 0)) rfl rfl d_Tp_scanOne_48 ?_
        refine g_iload_n (pc := 49) hC (i := 1) (x := x1) rfl rfl d_Tp_scanOne_49 ?_
        refine g_iload_n (pc := 50) hC (i := 2) (x := x2) rfl rfl d_Tp_scanOne_50 ?_
        obtain ⟨q51, hq51, h⟩ := Option.bind_eq_some_iff.mp h
        refine g_vi (pc := 51) hC (As := [.int x1, .int x2]) (st := []) mt_Tp_scanDigits lk_Tp_69 rfl (ob_Tp hV) (Nat.le_of_ble_eq_true rfl) ⟨Nat.le_of_ble_eq_true rfl, Nat.le_of_ble_eq_true rfl⟩ rfl d_Tp_scanOne_51 (c_Tp_scanDigits hV hq51) ?_
        exact g_iW (pc := 54) hC rfl d_Tp_scanOne_54 h
    · refine g_aload_n (pc := 29) hC (i := 0) (x := (V.2.2.1 1 0)) rfl rfl d_Tp_scanOne_29 ?_
      refine g_iload_n (pc := 30) hC (i := 1) (x := x1) rfl rfl d_Tp_scanOne_30 ?_
      refine g_iload_n (pc := 31) hC (i := 2) (x := x2) rfl rfl d_Tp_scanOne_31 ?_
      obtain ⟨q32, hq32, h⟩ := Option.bind_eq_some_iff.mp h
      refine g_vi (pc := 32) hC (As := [.int x1, .int x2]) (st := []) mt_Tp_scanLetters lk_Tp_63 rfl (ob_Tp hV) (Nat.le_of_ble_eq_true rfl) ⟨Nat.le_of_ble_eq_true rfl, Nat.le_of_ble_eq_true rfl⟩ rfl d_Tp_scanOne_32 (c_Tp_scanLetters hV hq32) ?_
      exact g_iW (pc := 35) hC rfl d_Tp_scanOne_35 h
  · refine g_aload_n (pc := 8) hC (i := 0) (x := (V.2.2.1 1 0)) rfl rfl d_Tp_scanOne_8 ?_
    refine g_getA (pc := 9) hC fo_Tp_23 (ob_Tp hV) rfl d_Tp_scanOne_9 ?_
    refine g_iload_n (pc := 12) hC (i := 1) (x := x1) rfl rfl d_Tp_scanOne_12 ?_
    refine g_iconst (pc := 13) hC kc_0 d_Tp_scanOne_13 ?_
    refine g_iast (pc := 14) hC (ar_Tp_3 hV) d_Tp_scanOne_14 h (fun h => ?_)
    refine g_letS h (fun S14 h => ?_)
    refine g_iload_n (pc := 15) hC (i := 2) (x := x2) rfl rfl d_Tp_scanOne_15 ?_
    exact g_iW (pc := 16) hC rfl d_Tp_scanOne_16 h
theorem c_Tp_scanOne {V : WV} {l : Launch} (hV : IsC V) {x1 : Int32} {x2 : Int32} {S : Mem} {z : Int32 × Mem} (h : f_Tp_scanOne x1 x2 S = some z) : CI V l y_Tp_scanOne bc_Tp_scanOne 4 (some .int) 4 91 [.ref (V.2.2.1 1 0), .int x1, .int x2] S z.1 z.2 :=
  ct_i rfl (IsC.ok hV) (Nat.le_of_ble_eq_true rfl) (fun _ _ hC => w_Tp_scanOne_b0 hV hC x1 x2 S h)
def f_Tp_scan_b4 (k4 : Int32 → Int32 → Mem → Option (Mem)) (x1 : Int32) (x2 : Int32) (S : Mem) : Option (Mem) :=
  if 400 < x2 then
    some S
  else
    Option.bind (f_Tp_behindBlanks x1 S) (fun q13 =>
    gIn x2 401 (letS (sA S 1 4 x2 q13) (fun S23 =>
    gIn x2 401 (letS (sL S23 1 5 x2 0) (fun S30 =>
    Option.bind (f_Tp_scanOne x2 q13 S30) (fun q34 =>
    letS q34.1 (fun y37 =>
    gIn x2 401 (
    if (q34.2.2.1 1 3 x2.toNatClampNeg) = 0 then
      some q34.2
    else
      gIn x2 401 (
      if (q34.2.2.1 1 3 x2.toNatClampNeg) = 1 then
        some q34.2
      else
        k4 y37 (x2 + 1) q34.2)))))))))
def f_Tp_scan_l4 : Nat → Int32 → Int32 → Mem → Option (Mem)
  | 0 => fun _ _ _ => none
  | n + 1 => f_Tp_scan_b4  (f_Tp_scan_l4  n)
def f_Tp_scan_b0 (S : Mem) : Option (Mem) :=
  f_Tp_scan_l4 5000 0 0 S
def f_Tp_scan (S : Mem) : Option (Mem) := f_Tp_scan_b0  S
theorem d_Tp_scan_0 : decode bc_Tp_scan 0 = .ok (.iconst 0, 1) := by decide +kernel
theorem d_Tp_scan_1 : decode bc_Tp_scan 1 = .ok (.istore_n 1, 1) := by decide +kernel
theorem d_Tp_scan_2 : decode bc_Tp_scan 2 = .ok (.iconst 0, 1) := by decide +kernel
theorem d_Tp_scan_3 : decode bc_Tp_scan 3 = .ok (.istore_n 2, 1) := by decide +kernel
theorem d_Tp_scan_4 : decode bc_Tp_scan 4 = .ok (.iload_n 2, 1) := by decide +kernel
theorem d_Tp_scan_5 : decode bc_Tp_scan 5 = .ok (.sipush 400, 3) := by decide +kernel
theorem d_Tp_scan_8 : decode bc_Tp_scan 8 = .ok (.if_icmp .gt 56, 3) := by decide +kernel
theorem d_Tp_scan_11 : decode bc_Tp_scan 11 = .ok (.aload_n 0, 1) := by decide +kernel
theorem d_Tp_scan_12 : decode bc_Tp_scan 12 = .ok (.iload_n 1, 1) := by decide +kernel
theorem d_Tp_scan_13 : decode bc_Tp_scan 13 = .ok (.invokevirtual 48, 3) := by decide +kernel
theorem d_Tp_scan_16 : decode bc_Tp_scan 16 = .ok (.istore_n 1, 1) := by decide +kernel
theorem d_Tp_scan_17 : decode bc_Tp_scan 17 = .ok (.aload_n 0, 1) := by decide +kernel
theorem d_Tp_scan_18 : decode bc_Tp_scan 18 = .ok (.getfield 27, 3) := by decide +kernel
theorem d_Tp_scan_21 : decode bc_Tp_scan 21 = .ok (.iload_n 2, 1) := by decide +kernel
theorem d_Tp_scan_22 : decode bc_Tp_scan 22 = .ok (.iload_n 1, 1) := by decide +kernel
theorem d_Tp_scan_23 : decode bc_Tp_scan 23 = .ok (.iastore, 1) := by decide +kernel
theorem d_Tp_scan_24 : decode bc_Tp_scan 24 = .ok (.aload_n 0, 1) := by decide +kernel
theorem d_Tp_scan_25 : decode bc_Tp_scan 25 = .ok (.getfield 30, 3) := by decide +kernel
theorem d_Tp_scan_28 : decode bc_Tp_scan 28 = .ok (.iload_n 2, 1) := by decide +kernel
theorem d_Tp_scan_29 : decode bc_Tp_scan 29 = .ok (.lconst 0, 1) := by decide +kernel
theorem d_Tp_scan_30 : decode bc_Tp_scan 30 = .ok (.lastore, 1) := by decide +kernel
theorem d_Tp_scan_31 : decode bc_Tp_scan 31 = .ok (.aload_n 0, 1) := by decide +kernel
theorem d_Tp_scan_32 : decode bc_Tp_scan 32 = .ok (.iload_n 2, 1) := by decide +kernel
theorem d_Tp_scan_33 : decode bc_Tp_scan 33 = .ok (.iload_n 1, 1) := by decide +kernel
theorem d_Tp_scan_34 : decode bc_Tp_scan 34 = .ok (.invokevirtual 52, 3) := by decide +kernel
theorem d_Tp_scan_37 : decode bc_Tp_scan 37 = .ok (.istore_n 1, 1) := by decide +kernel
theorem d_Tp_scan_38 : decode bc_Tp_scan 38 = .ok (.aload_n 0, 1) := by decide +kernel
theorem d_Tp_scan_39 : decode bc_Tp_scan 39 = .ok (.getfield 23, 3) := by decide +kernel
theorem d_Tp_scan_42 : decode bc_Tp_scan 42 = .ok (.iload_n 2, 1) := by decide +kernel
theorem d_Tp_scan_43 : decode bc_Tp_scan 43 = .ok (.iaload, 1) := by decide +kernel
theorem d_Tp_scan_44 : decode bc_Tp_scan 44 = .ok (.ifCond .eq 13, 3) := by decide +kernel
theorem d_Tp_scan_47 : decode bc_Tp_scan 47 = .ok (.aload_n 0, 1) := by decide +kernel
theorem d_Tp_scan_48 : decode bc_Tp_scan 48 = .ok (.getfield 23, 3) := by decide +kernel
theorem d_Tp_scan_51 : decode bc_Tp_scan 51 = .ok (.iload_n 2, 1) := by decide +kernel
theorem d_Tp_scan_52 : decode bc_Tp_scan 52 = .ok (.iaload, 1) := by decide +kernel
theorem d_Tp_scan_53 : decode bc_Tp_scan 53 = .ok (.iconst 1, 1) := by decide +kernel
theorem d_Tp_scan_54 : decode bc_Tp_scan 54 = .ok (.if_icmp .ne 4, 3) := by decide +kernel
theorem d_Tp_scan_57 : decode bc_Tp_scan 57 = .ok (.return_, 1) := by decide +kernel
theorem d_Tp_scan_58 : decode bc_Tp_scan 58 = .ok (.iinc 2 1, 3) := by decide +kernel
theorem d_Tp_scan_61 : decode bc_Tp_scan 61 = .ok (.goto (-57), 3) := by decide +kernel
theorem d_Tp_scan_64 : decode bc_Tp_scan 64 = .ok (.return_, 1) := by decide +kernel
set_option maxRecDepth 20000 in
theorem w_Tp_scan_b4 {X : CX} {V : WV} (hV : IsC V) {z : Mem} (hC : Ck X V bc_Tp_scan 3 "SecretWells$Tape" none 5 114) (k4 : Int32 → Int32 → Mem → Option (Mem)) (hk4 : ∀ (x1 : Int32) (x2 : Int32) (S : Mem), k4 x1 x2 S = some z → G X V 3 (QV X V z) 4 [some (.ref (V.2.2.1 1 0)), some (.int x1), some (.int x2)] [] S) (x1 : Int32) (x2 : Int32) (S : Mem) (h : f_Tp_scan_b4  k4 x1 x2 S = some z) : G X V 3 (QV X V z) 4 [some (.ref (V.2.2.1 1 0)), some (.int x1), some (.int x2)] [] S := by
  unfold f_Tp_scan_b4 at h
  refine g_iload_n (pc := 4) hC (i := 2) (x := x2) rfl rfl d_Tp_scan_4 ?_
  refine g_sipush (pc := 5) hC ks_400 d_Tp_scan_5 ?_
  refine g_icmp_gt (pc := 8) hC (tgt := 64) (by decide) d_Tp_scan_8 h (fun h => ?_) (fun h => ?_)
  · exact g_vW (pc := 64) hC d_Tp_scan_64 h
  · refine g_aload_n (pc := 11) hC (i := 0) (x := (V.2.2.1 1 0)) rfl rfl d_Tp_scan_11 ?_
    refine g_iload_n (pc := 12) hC (i := 1) (x := x1) rfl rfl d_Tp_scan_12 ?_
    obtain ⟨q13, hq13, h⟩ := Option.bind_eq_some_iff.mp h
    refine g_vi (pc := 13) hC (As := [.int x1]) (st := []) mt_Tp_behindBlanks lk_Tp_48 rfl (ob_Tp hV) (Nat.le_of_ble_eq_true rfl) ⟨Nat.le_of_ble_eq_true rfl, Nat.le_of_ble_eq_true rfl⟩ rfl d_Tp_scan_13 (c_Tp_behindBlanks hV hq13) ?_
    refine s_istore_n (pc := 16) hC (i := 1) rfl (by decide) d_Tp_scan_16 (lv2 := [some (.ref (V.2.2.1 1 0)), some (.int q13), some (.int x2)]) rfl ?_
    refine g_aload_n (pc := 17) hC (i := 0) (x := (V.2.2.1 1 0)) rfl rfl d_Tp_scan_17 ?_
    refine g_getA (pc := 18) hC fo_Tp_27 (ob_Tp hV) rfl d_Tp_scan_18 ?_
    refine g_iload_n (pc := 21) hC (i := 2) (x := x2) rfl rfl d_Tp_scan_21 ?_
    refine g_iload_n (pc := 22) hC (i := 1) (x := q13) rfl rfl d_Tp_scan_22 ?_
    refine g_iast (pc := 23) hC (ar_Tp_4 hV) d_Tp_scan_23 h (fun h => ?_)
    refine g_letS h (fun S23 h => ?_)
    refine g_aload_n (pc := 24) hC (i := 0) (x := (V.2.2.1 1 0)) rfl rfl d_Tp_scan_24 ?_
    refine g_getA (pc := 25) hC fo_Tp_30 (ob_Tp hV) rfl d_Tp_scan_25 ?_
    refine g_iload_n (pc := 28) hC (i := 2) (x := x2) rfl rfl d_Tp_scan_28 ?_
    refine g_lconst (pc := 29) hC (v := 0) (by decide) d_Tp_scan_29 ?_
    refine g_last (pc := 30) hC (ar_Tp_5 hV) d_Tp_scan_30 h (fun h => ?_)
    refine g_letS h (fun S30 h => ?_)
    refine g_aload_n (pc := 31) hC (i := 0) (x := (V.2.2.1 1 0)) rfl rfl d_Tp_scan_31 ?_
    refine g_iload_n (pc := 32) hC (i := 2) (x := x2) rfl rfl d_Tp_scan_32 ?_
    refine g_iload_n (pc := 33) hC (i := 1) (x := q13) rfl rfl d_Tp_scan_33 ?_
    obtain ⟨q34, hq34, h⟩ := Option.bind_eq_some_iff.mp h
    refine g_vi (pc := 34) hC (As := [.int x2, .int q13]) (st := []) mt_Tp_scanOne lk_Tp_52 rfl (ob_Tp hV) (Nat.le_of_ble_eq_true rfl) ⟨Nat.le_of_ble_eq_true rfl, Nat.le_of_ble_eq_true rfl⟩ rfl d_Tp_scan_34 (c_Tp_scanOne hV hq34) ?_
    refine g_leti h (fun y37 h => ?_)
    refine s_istore_n (pc := 37) hC (i := 1) rfl (by decide) d_Tp_scan_37 (lv2 := [some (.ref (V.2.2.1 1 0)), some (.int y37), some (.int x2)]) rfl ?_
    refine g_aload_n (pc := 38) hC (i := 0) (x := (V.2.2.1 1 0)) rfl rfl d_Tp_scan_38 ?_
    refine g_getA (pc := 39) hC fo_Tp_23 (ob_Tp hV) rfl d_Tp_scan_39 ?_
    refine g_iload_n (pc := 42) hC (i := 2) (x := x2) rfl rfl d_Tp_scan_42 ?_
    refine g_iald (pc := 43) hC (ar_Tp_3 hV) d_Tp_scan_43 h (fun h => ?_)
    refine g_if_eq (pc := 44) hC (tgt := 57) (by decide) d_Tp_scan_44 h (fun h => ?_) (fun h => ?_)
    · exact g_vW (pc := 57) hC d_Tp_scan_57 h
    · refine g_aload_n (pc := 47) hC (i := 0) (x := (V.2.2.1 1 0)) rfl rfl d_Tp_scan_47 ?_
      refine g_getA (pc := 48) hC fo_Tp_23 (ob_Tp hV) rfl d_Tp_scan_48 ?_
      refine g_iload_n (pc := 51) hC (i := 2) (x := x2) rfl rfl d_Tp_scan_51 ?_
      refine g_iald (pc := 52) hC (ar_Tp_3 hV) d_Tp_scan_52 h (fun h => ?_)
      refine g_iconst (pc := 53) hC kc_1 d_Tp_scan_53 ?_
      refine g_icmp_ne (pc := 54) hC (tgt := 58) (by decide) d_Tp_scan_54 h (fun h => ?_) (fun h => ?_)
      · refine s_iinc (pc := 58) hC (i := 2) (x := x2) (v := x2 + 1) rfl (by rw [kc_1]) (by decide) d_Tp_scan_58 (lv2 := [some (.ref (V.2.2.1 1 0)), some (.int y37), some (.int (x2 + 1))]) rfl ?_
        refine g_goto (pc := 61) hC (tgt := 4) (by decide) d_Tp_scan_61 ?_
        exact hk4 y37 (x2 + 1) q34.2 h
      · exact g_vW (pc := 57) hC d_Tp_scan_57 h
theorem w_Tp_scan_l4 {X : CX} {V : WV} (hV : IsC V) {z : Mem} (hC : Ck X V bc_Tp_scan 3 "SecretWells$Tape" none 5 114) : ∀ (n : Nat) (x1 : Int32) (x2 : Int32) (S : Mem), f_Tp_scan_l4  n x1 x2 S = some z → G X V 3 (QV X V z) 4 [some (.ref (V.2.2.1 1 0)), some (.int x1), some (.int x2)] [] S := by
  intro n
  induction n with
  | zero =>
    intro x1 x2 S h
    have h : (none : Option (Mem)) = some z := h
    cases h
  | succ n ih =>
    intro x1 x2 S h
    exact w_Tp_scan_b4 hV hC (f_Tp_scan_l4  n) ih x1 x2 S h
set_option maxRecDepth 20000 in
theorem w_Tp_scan_b0 {X : CX} {V : WV} (hV : IsC V) {z : Mem} (hC : Ck X V bc_Tp_scan 3 "SecretWells$Tape" none 5 114) (S : Mem) (h : f_Tp_scan_b0  S = some z) : G X V 3 (QV X V z) 0 [some (.ref (V.2.2.1 1 0)), none, none] [] S := by
  unfold f_Tp_scan_b0 at h
  refine g_iconst (pc := 0) hC kc_0 d_Tp_scan_0 ?_
  refine s_istore_n (pc := 1) hC (i := 1) rfl (by decide) d_Tp_scan_1 (lv2 := [some (.ref (V.2.2.1 1 0)), some (.int 0), none]) rfl ?_
  refine g_iconst (pc := 2) hC kc_0 d_Tp_scan_2 ?_
  refine s_istore_n (pc := 3) hC (i := 2) rfl (by decide) d_Tp_scan_3 (lv2 := [some (.ref (V.2.2.1 1 0)), some (.int 0), some (.int 0)]) rfl ?_
  exact w_Tp_scan_l4 hV hC 5000 0 0 S h
theorem c_Tp_scan {V : WV} {l : Launch} (hV : IsC V) {S : Mem} {z : Mem} (h : f_Tp_scan S = some z) : CV V l y_Tp_scan bc_Tp_scan 3 none 5 114 [.ref (V.2.2.1 1 0)] S z :=
  ct_v rfl (IsC.ok hV) (Nat.le_of_ble_eq_true rfl) (fun _ _ hC => w_Tp_scan_b0 hV hC S h)
def f_Co_feed_b0 (x1 : Int32) (x2 : Int32) (x3 : Int32) (x4 : Int32) (x5 : Int32) (S : Mem) : Option (Int32 × Mem) :=
  if ((S.1 1 0) + 20) ≤ 2000 then
    Option.bind (f_Tp_append x1 S) (fun q23 =>
    Option.bind (f_Tp_append x2 q23) (fun q31 =>
    Option.bind (f_Tp_append x3 q31) (fun q39 =>
    Option.bind (f_Tp_append x4 q39) (fun q48 =>
    Option.bind (f_Tp_append x5 q48) (fun q57 =>
    some (q57.1 1 0, q57))))))
  else
    some ((-1), S)
def f_Co_feed (x1 : Int32) (x2 : Int32) (x3 : Int32) (x4 : Int32) (x5 : Int32) (S : Mem) : Option (Int32 × Mem) := f_Co_feed_b0  x1 x2 x3 x4 x5 S
theorem d_Co_feed_0 : decode bc_Co_feed 0 = .ok (.aload_n 0, 1) := by decide +kernel
theorem d_Co_feed_1 : decode bc_Co_feed 1 = .ok (.getfield 10, 3) := by decide +kernel
theorem d_Co_feed_4 : decode bc_Co_feed 4 = .ok (.getfield 112, 3) := by decide +kernel
theorem d_Co_feed_7 : decode bc_Co_feed 7 = .ok (.bipush 20, 2) := by decide +kernel
theorem d_Co_feed_9 : decode bc_Co_feed 9 = .ok (.iadd, 1) := by decide +kernel
theorem d_Co_feed_10 : decode bc_Co_feed 10 = .ok (.sipush 2000, 3) := by decide +kernel
theorem d_Co_feed_13 : decode bc_Co_feed 13 = .ok (.if_icmp .le 5, 3) := by decide +kernel
theorem d_Co_feed_16 : decode bc_Co_feed 16 = .ok (.iconst (-1), 1) := by decide +kernel
theorem d_Co_feed_17 : decode bc_Co_feed 17 = .ok (.ireturn, 1) := by decide +kernel
theorem d_Co_feed_18 : decode bc_Co_feed 18 = .ok (.aload_n 0, 1) := by decide +kernel
theorem d_Co_feed_19 : decode bc_Co_feed 19 = .ok (.getfield 10, 3) := by decide +kernel
theorem d_Co_feed_22 : decode bc_Co_feed 22 = .ok (.iload_n 1, 1) := by decide +kernel
theorem d_Co_feed_23 : decode bc_Co_feed 23 = .ok (.invokevirtual 115, 3) := by decide +kernel
theorem d_Co_feed_26 : decode bc_Co_feed 26 = .ok (.aload_n 0, 1) := by decide +kernel
theorem d_Co_feed_27 : decode bc_Co_feed 27 = .ok (.getfield 10, 3) := by decide +kernel
theorem d_Co_feed_30 : decode bc_Co_feed 30 = .ok (.iload_n 2, 1) := by decide +kernel
theorem d_Co_feed_31 : decode bc_Co_feed 31 = .ok (.invokevirtual 115, 3) := by decide +kernel
theorem d_Co_feed_34 : decode bc_Co_feed 34 = .ok (.aload_n 0, 1) := by decide +kernel
theorem d_Co_feed_35 : decode bc_Co_feed 35 = .ok (.getfield 10, 3) := by decide +kernel
theorem d_Co_feed_38 : decode bc_Co_feed 38 = .ok (.iload_n 3, 1) := by decide +kernel
theorem d_Co_feed_39 : decode bc_Co_feed 39 = .ok (.invokevirtual 115, 3) := by decide +kernel
theorem d_Co_feed_42 : decode bc_Co_feed 42 = .ok (.aload_n 0, 1) := by decide +kernel
theorem d_Co_feed_43 : decode bc_Co_feed 43 = .ok (.getfield 10, 3) := by decide +kernel
theorem d_Co_feed_46 : decode bc_Co_feed 46 = .ok (.iload 4, 2) := by decide +kernel
theorem d_Co_feed_48 : decode bc_Co_feed 48 = .ok (.invokevirtual 115, 3) := by decide +kernel
theorem d_Co_feed_51 : decode bc_Co_feed 51 = .ok (.aload_n 0, 1) := by decide +kernel
theorem d_Co_feed_52 : decode bc_Co_feed 52 = .ok (.getfield 10, 3) := by decide +kernel
theorem d_Co_feed_55 : decode bc_Co_feed 55 = .ok (.iload 5, 2) := by decide +kernel
theorem d_Co_feed_57 : decode bc_Co_feed 57 = .ok (.invokevirtual 115, 3) := by decide +kernel
theorem d_Co_feed_60 : decode bc_Co_feed 60 = .ok (.aload_n 0, 1) := by decide +kernel
theorem d_Co_feed_61 : decode bc_Co_feed 61 = .ok (.getfield 10, 3) := by decide +kernel
theorem d_Co_feed_64 : decode bc_Co_feed 64 = .ok (.getfield 112, 3) := by decide +kernel
theorem d_Co_feed_67 : decode bc_Co_feed 67 = .ok (.ireturn, 1) := by decide +kernel
set_option maxRecDepth 20000 in
theorem w_Co_feed_b0 {X : CX} {V : WV} (hV : IsC V) {z : Int32 × Mem} (hC : Ck X V bc_Co_feed 6 "SecretWells" (some .int) 1 22) (x1 : Int32) (x2 : Int32) (x3 : Int32) (x4 : Int32) (x5 : Int32) (S : Mem) (h : f_Co_feed_b0  x1 x2 x3 x4 x5 S = some z) : G X V 6 (QI X V z.1 z.2) 0 [some (.ref (V.2.2.1 0 0)), some (.int x1), some (.int x2), some (.int x3), some (.int x4), some (.int x5)] [] S := by
  unfold f_Co_feed_b0 at h
  refine g_aload_n (pc := 0) hC (i := 0) (x := (V.2.2.1 0 0)) rfl rfl d_Co_feed_0 ?_
  refine g_getC (pc := 1) hC (j := 1) fo_Co_10 (ob_Co hV) rfl d_Co_feed_1 ?_
  refine g_getI (pc := 4) hC fo_Co_112 (ob_Tp hV) rfl d_Co_feed_4 ?_
  refine g_bipush (pc := 7) hC kb_20 d_Co_feed_7 ?_
  refine g_iadd (pc := 9) hC d_Co_feed_9 ?_
  refine g_sipush (pc := 10) hC ks_2000 d_Co_feed_10 ?_
  refine g_icmp_le (pc := 13) hC (tgt := 18) (by decide) d_Co_feed_13 h (fun h => ?_) (fun h => ?_)
  · refine g_aload_n (pc := 18) hC (i := 0) (x := (V.2.2.1 0 0)) rfl rfl d_Co_feed_18 ?_
    refine g_getC (pc := 19) hC (j := 1) fo_Co_10 (ob_Co hV) rfl d_Co_feed_19 ?_
    refine g_iload_n (pc := 22) hC (i := 1) (x := x1) rfl rfl d_Co_feed_22 ?_
    obtain ⟨q23, hq23, h⟩ := Option.bind_eq_some_iff.mp h
    refine g_vv (pc := 23) hC (As := [.int x1]) (st := []) mt_Tp_append lk_Co_115 rfl (ob_Tp hV) (Nat.le_of_ble_eq_true rfl) ⟨Nat.le_of_ble_eq_true rfl, Nat.le_of_ble_eq_true rfl⟩ rfl d_Co_feed_23 (c_Tp_append hV hq23) ?_
    refine g_aload_n (pc := 26) hC (i := 0) (x := (V.2.2.1 0 0)) rfl rfl d_Co_feed_26 ?_
    refine g_getC (pc := 27) hC (j := 1) fo_Co_10 (ob_Co hV) rfl d_Co_feed_27 ?_
    refine g_iload_n (pc := 30) hC (i := 2) (x := x2) rfl rfl d_Co_feed_30 ?_
    obtain ⟨q31, hq31, h⟩ := Option.bind_eq_some_iff.mp h
    refine g_vv (pc := 31) hC (As := [.int x2]) (st := []) mt_Tp_append lk_Co_115 rfl (ob_Tp hV) (Nat.le_of_ble_eq_true rfl) ⟨Nat.le_of_ble_eq_true rfl, Nat.le_of_ble_eq_true rfl⟩ rfl d_Co_feed_31 (c_Tp_append hV hq31) ?_
    refine g_aload_n (pc := 34) hC (i := 0) (x := (V.2.2.1 0 0)) rfl rfl d_Co_feed_34 ?_
    refine g_getC (pc := 35) hC (j := 1) fo_Co_10 (ob_Co hV) rfl d_Co_feed_35 ?_
    refine g_iload_n (pc := 38) hC (i := 3) (x := x3) rfl rfl d_Co_feed_38 ?_
    obtain ⟨q39, hq39, h⟩ := Option.bind_eq_some_iff.mp h
    refine g_vv (pc := 39) hC (As := [.int x3]) (st := []) mt_Tp_append lk_Co_115 rfl (ob_Tp hV) (Nat.le_of_ble_eq_true rfl) ⟨Nat.le_of_ble_eq_true rfl, Nat.le_of_ble_eq_true rfl⟩ rfl d_Co_feed_39 (c_Tp_append hV hq39) ?_
    refine g_aload_n (pc := 42) hC (i := 0) (x := (V.2.2.1 0 0)) rfl rfl d_Co_feed_42 ?_
    refine g_getC (pc := 43) hC (j := 1) fo_Co_10 (ob_Co hV) rfl d_Co_feed_43 ?_
    refine g_iload (pc := 46) hC (i := 4) (x := x4) rfl d_Co_feed_46 ?_
    obtain ⟨q48, hq48, h⟩ := Option.bind_eq_some_iff.mp h
    refine g_vv (pc := 48) hC (As := [.int x4]) (st := []) mt_Tp_append lk_Co_115 rfl (ob_Tp hV) (Nat.le_of_ble_eq_true rfl) ⟨Nat.le_of_ble_eq_true rfl, Nat.le_of_ble_eq_true rfl⟩ rfl d_Co_feed_48 (c_Tp_append hV hq48) ?_
    refine g_aload_n (pc := 51) hC (i := 0) (x := (V.2.2.1 0 0)) rfl rfl d_Co_feed_51 ?_
    refine g_getC (pc := 52) hC (j := 1) fo_Co_10 (ob_Co hV) rfl d_Co_feed_52 ?_
    refine g_iload (pc := 55) hC (i := 5) (x := x5) rfl d_Co_feed_55 ?_
    obtain ⟨q57, hq57, h⟩ := Option.bind_eq_some_iff.mp h
    refine g_vv (pc := 57) hC (As := [.int x5]) (st := []) mt_Tp_append lk_Co_115 rfl (ob_Tp hV) (Nat.le_of_ble_eq_true rfl) ⟨Nat.le_of_ble_eq_true rfl, Nat.le_of_ble_eq_true rfl⟩ rfl d_Co_feed_57 (c_Tp_append hV hq57) ?_
    refine g_aload_n (pc := 60) hC (i := 0) (x := (V.2.2.1 0 0)) rfl rfl d_Co_feed_60 ?_
    refine g_getC (pc := 61) hC (j := 1) fo_Co_10 (ob_Co hV) rfl d_Co_feed_61 ?_
    refine g_getI (pc := 64) hC fo_Co_112 (ob_Tp hV) rfl d_Co_feed_64 ?_
    exact g_iW (pc := 67) hC rfl d_Co_feed_67 h
  · refine g_iconst (pc := 16) hC kc_m1 d_Co_feed_16 ?_
    exact g_iW (pc := 17) hC rfl d_Co_feed_17 h
theorem c_Co_feed {V : WV} {l : Launch} (hV : IsC V) {x1 : Int32} {x2 : Int32} {x3 : Int32} {x4 : Int32} {x5 : Int32} {S : Mem} {z : Int32 × Mem} (h : f_Co_feed x1 x2 x3 x4 x5 S = some z) : CI V l y_Co_feed bc_Co_feed 6 (some .int) 1 22 [.ref (V.2.2.1 0 0), .int x1, .int x2, .int x3, .int x4, .int x5] S z.1 z.2 :=
  ct_i rfl (IsC.ok hV) (Nat.le_of_ble_eq_true rfl) (fun _ _ hC => w_Co_feed_b0 hV hC x1 x2 x3 x4 x5 S h)
def f_Co_back_b0 (x1 : Int32) (S : Mem) : Option (Int32 × Mem) :=
  if x1 < 0 then
    some ((-1), S)
  else
    if x1 ≤ (S.1 1 0) then
      letS (pI S 1 0 ((S.1 1 0) - x1)) (fun S27 =>
      some (S27.1 1 0, S27))
    else
      some ((-1), S)
def f_Co_back (x1 : Int32) (S : Mem) : Option (Int32 × Mem) := f_Co_back_b0  x1 S
theorem d_Co_back_0 : decode bc_Co_back 0 = .ok (.iload_n 1, 1) := by decide +kernel
theorem d_Co_back_1 : decode bc_Co_back 1 = .ok (.ifCond .lt 14, 3) := by decide +kernel
theorem d_Co_back_4 : decode bc_Co_back 4 = .ok (.iload_n 1, 1) := by decide +kernel
theorem d_Co_back_5 : decode bc_Co_back 5 = .ok (.aload_n 0, 1) := by decide +kernel
theorem d_Co_back_6 : decode bc_Co_back 6 = .ok (.getfield 10, 3) := by decide +kernel
theorem d_Co_back_9 : decode bc_Co_back 9 = .ok (.getfield 112, 3) := by decide +kernel
theorem d_Co_back_12 : decode bc_Co_back 12 = .ok (.if_icmp .le 5, 3) := by decide +kernel
theorem d_Co_back_15 : decode bc_Co_back 15 = .ok (.iconst (-1), 1) := by decide +kernel
theorem d_Co_back_16 : decode bc_Co_back 16 = .ok (.ireturn, 1) := by decide +kernel
theorem d_Co_back_17 : decode bc_Co_back 17 = .ok (.aload_n 0, 1) := by decide +kernel
theorem d_Co_back_18 : decode bc_Co_back 18 = .ok (.getfield 10, 3) := by decide +kernel
theorem d_Co_back_21 : decode bc_Co_back 21 = .ok (.dup, 1) := by decide +kernel
theorem d_Co_back_22 : decode bc_Co_back 22 = .ok (.getfield 112, 3) := by decide +kernel
theorem d_Co_back_25 : decode bc_Co_back 25 = .ok (.iload_n 1, 1) := by decide +kernel
theorem d_Co_back_26 : decode bc_Co_back 26 = .ok (.isub, 1) := by decide +kernel
theorem d_Co_back_27 : decode bc_Co_back 27 = .ok (.putfield 112, 3) := by decide +kernel
theorem d_Co_back_30 : decode bc_Co_back 30 = .ok (.aload_n 0, 1) := by decide +kernel
theorem d_Co_back_31 : decode bc_Co_back 31 = .ok (.getfield 10, 3) := by decide +kernel
theorem d_Co_back_34 : decode bc_Co_back 34 = .ok (.getfield 112, 3) := by decide +kernel
theorem d_Co_back_37 : decode bc_Co_back 37 = .ok (.ireturn, 1) := by decide +kernel
set_option maxRecDepth 20000 in
theorem w_Co_back_b0 {X : CX} {V : WV} (hV : IsC V) {z : Int32 × Mem} (hC : Ck X V bc_Co_back 2 "SecretWells" (some .int) 0 0) (x1 : Int32) (S : Mem) (h : f_Co_back_b0  x1 S = some z) : G X V 2 (QI X V z.1 z.2) 0 [some (.ref (V.2.2.1 0 0)), some (.int x1)] [] S := by
  unfold f_Co_back_b0 at h
  refine g_iload_n (pc := 0) hC (i := 1) (x := x1) rfl rfl d_Co_back_0 ?_
  refine g_if_lt (pc := 1) hC (tgt := 15) (by decide) d_Co_back_1 h (fun h => ?_) (fun h => ?_)
  · refine g_iconst (pc := 15) hC kc_m1 d_Co_back_15 ?_
    exact g_iW (pc := 16) hC rfl d_Co_back_16 h
  · refine g_iload_n (pc := 4) hC (i := 1) (x := x1) rfl rfl d_Co_back_4 ?_
    refine g_aload_n (pc := 5) hC (i := 0) (x := (V.2.2.1 0 0)) rfl rfl d_Co_back_5 ?_
    refine g_getC (pc := 6) hC (j := 1) fo_Co_10 (ob_Co hV) rfl d_Co_back_6 ?_
    refine g_getI (pc := 9) hC fo_Co_112 (ob_Tp hV) rfl d_Co_back_9 ?_
    refine g_icmp_le (pc := 12) hC (tgt := 17) (by decide) d_Co_back_12 h (fun h => ?_) (fun h => ?_)
    · refine g_aload_n (pc := 17) hC (i := 0) (x := (V.2.2.1 0 0)) rfl rfl d_Co_back_17 ?_
      refine g_getC (pc := 18) hC (j := 1) fo_Co_10 (ob_Co hV) rfl d_Co_back_18 ?_
      refine g_dup (pc := 21) hC rfl d_Co_back_21 ?_
      refine g_getI (pc := 22) hC fo_Co_112 (ob_Tp hV) rfl d_Co_back_22 ?_
      refine g_iload_n (pc := 25) hC (i := 1) (x := x1) rfl rfl d_Co_back_25 ?_
      refine g_isub (pc := 26) hC d_Co_back_26 ?_
      refine g_putI (pc := 27) hC po_Co_112 (ob_Tp hV) rfl rfl rfl d_Co_back_27 ?_
      refine g_letS h (fun S27 h => ?_)
      refine g_aload_n (pc := 30) hC (i := 0) (x := (V.2.2.1 0 0)) rfl rfl d_Co_back_30 ?_
      refine g_getC (pc := 31) hC (j := 1) fo_Co_10 (ob_Co hV) rfl d_Co_back_31 ?_
      refine g_getI (pc := 34) hC fo_Co_112 (ob_Tp hV) rfl d_Co_back_34 ?_
      exact g_iW (pc := 37) hC rfl d_Co_back_37 h
    · refine g_iconst (pc := 15) hC kc_m1 d_Co_back_15 ?_
      exact g_iW (pc := 16) hC rfl d_Co_back_16 h
theorem c_Co_back {V : WV} {l : Launch} (hV : IsC V) {x1 : Int32} {S : Mem} {z : Int32 × Mem} (h : f_Co_back x1 S = some z) : CI V l y_Co_back bc_Co_back 2 (some .int) 0 0 [.ref (V.2.2.1 0 0), .int x1] S z.1 z.2 :=
  ct_i rfl (IsC.ok hV) (Nat.le_of_ble_eq_true rfl) (fun _ _ hC => w_Co_back_b0 hV hC x1 S h)
def f_Co_forgetDone_b0 (S : Mem) : Option (Mem) :=
  letS (pI S 0 14 0) (fun S2 =>
  letS (pI S2 0 15 0) (fun S7 =>
  some S7))
def f_Co_forgetDone (S : Mem) : Option (Mem) := f_Co_forgetDone_b0  S
theorem d_Co_forgetDone_0 : decode bc_Co_forgetDone 0 = .ok (.aload_n 0, 1) := by decide +kernel
theorem d_Co_forgetDone_1 : decode bc_Co_forgetDone 1 = .ok (.iconst 0, 1) := by decide +kernel
theorem d_Co_forgetDone_2 : decode bc_Co_forgetDone 2 = .ok (.putfield 96, 3) := by decide +kernel
theorem d_Co_forgetDone_5 : decode bc_Co_forgetDone 5 = .ok (.aload_n 0, 1) := by decide +kernel
theorem d_Co_forgetDone_6 : decode bc_Co_forgetDone 6 = .ok (.iconst 0, 1) := by decide +kernel
theorem d_Co_forgetDone_7 : decode bc_Co_forgetDone 7 = .ok (.putfield 99, 3) := by decide +kernel
theorem d_Co_forgetDone_10 : decode bc_Co_forgetDone 10 = .ok (.return_, 1) := by decide +kernel
set_option maxRecDepth 20000 in
theorem w_Co_forgetDone_b0 {X : CX} {V : WV} (hV : IsC V) {z : Mem} (hC : Ck X V bc_Co_forgetDone 1 "SecretWells" none 0 0) (S : Mem) (h : f_Co_forgetDone_b0  S = some z) : G X V 1 (QV X V z) 0 [some (.ref (V.2.2.1 0 0))] [] S := by
  unfold f_Co_forgetDone_b0 at h
  refine g_aload_n (pc := 0) hC (i := 0) (x := (V.2.2.1 0 0)) rfl rfl d_Co_forgetDone_0 ?_
  refine g_iconst (pc := 1) hC kc_0 d_Co_forgetDone_1 ?_
  refine g_putI (pc := 2) hC po_Co_96 (ob_Co hV) rfl rfl rfl d_Co_forgetDone_2 ?_
  refine g_letS h (fun S2 h => ?_)
  refine g_aload_n (pc := 5) hC (i := 0) (x := (V.2.2.1 0 0)) rfl rfl d_Co_forgetDone_5 ?_
  refine g_iconst (pc := 6) hC kc_0 d_Co_forgetDone_6 ?_
  refine g_putI (pc := 7) hC po_Co_99 (ob_Co hV) rfl rfl rfl d_Co_forgetDone_7 ?_
  refine g_letS h (fun S7 h => ?_)
  exact g_vW (pc := 10) hC d_Co_forgetDone_10 h
theorem c_Co_forgetDone {V : WV} {l : Launch} (hV : IsC V) {S : Mem} {z : Mem} (h : f_Co_forgetDone S = some z) : CV V l y_Co_forgetDone bc_Co_forgetDone 1 none 0 0 [.ref (V.2.2.1 0 0)] S z :=
  ct_v rfl (IsC.ok hV) (Nat.le_of_ble_eq_true rfl) (fun _ _ hC => w_Co_forgetDone_b0 hV hC S h)
def f_Co_changed_b0 (S : Mem) : Option (Mem) :=
  gTx (S.1 0 11) (
  Option.bind (f_St_measure 4 ((S.1 0 11).toNatClampNeg) S) (fun q8 =>
  gTx (q8.1 0 11) (
  Option.bind (f_St_settle 4 ((q8.1 0 11).toNatClampNeg) q8) (fun q19 =>
  letS (pI q19 7 0 0) (fun S27 =>
  some S27)))))
def f_Co_changed (S : Mem) : Option (Mem) := f_Co_changed_b0  S
theorem d_Co_changed_0 : decode bc_Co_changed 0 = .ok (.aload_n 0, 1) := by decide +kernel
theorem d_Co_changed_1 : decode bc_Co_changed 1 = .ok (.getfield 35, 3) := by decide +kernel
theorem d_Co_changed_4 : decode bc_Co_changed 4 = .ok (.aload_n 0, 1) := by decide +kernel
theorem d_Co_changed_5 : decode bc_Co_changed 5 = .ok (.getfield 85, 3) := by decide +kernel
theorem d_Co_changed_8 : decode bc_Co_changed 8 = .ok (.invokevirtual 285, 3) := by decide +kernel
theorem d_Co_changed_11 : decode bc_Co_changed 11 = .ok (.aload_n 0, 1) := by decide +kernel
theorem d_Co_changed_12 : decode bc_Co_changed 12 = .ok (.getfield 35, 3) := by decide +kernel
theorem d_Co_changed_15 : decode bc_Co_changed 15 = .ok (.aload_n 0, 1) := by decide +kernel
theorem d_Co_changed_16 : decode bc_Co_changed 16 = .ok (.getfield 85, 3) := by decide +kernel
theorem d_Co_changed_19 : decode bc_Co_changed 19 = .ok (.invokevirtual 288, 3) := by decide +kernel
theorem d_Co_changed_22 : decode bc_Co_changed 22 = .ok (.aload_n 0, 1) := by decide +kernel
theorem d_Co_changed_23 : decode bc_Co_changed 23 = .ok (.getfield 52, 3) := by decide +kernel
theorem d_Co_changed_26 : decode bc_Co_changed 26 = .ok (.iconst 0, 1) := by decide +kernel
theorem d_Co_changed_27 : decode bc_Co_changed 27 = .ok (.putfield 291, 3) := by decide +kernel
theorem d_Co_changed_30 : decode bc_Co_changed 30 = .ok (.return_, 1) := by decide +kernel
set_option maxRecDepth 20000 in
theorem w_Co_changed_b0 {X : CX} {V : WV} (hV : IsC V) {z : Mem} (hC : Ck X V bc_Co_changed 1 "SecretWells" none 2 49) (S : Mem) (h : f_Co_changed_b0  S = some z) : G X V 1 (QV X V z) 0 [some (.ref (V.2.2.1 0 0))] [] S := by
  unfold f_Co_changed_b0 at h
  refine g_aload_n (pc := 0) hC (i := 0) (x := (V.2.2.1 0 0)) rfl rfl d_Co_changed_0 ?_
  refine g_getC (pc := 1) hC (j := 4) fo_Co_35 (ob_Co hV) rfl d_Co_changed_1 ?_
  refine g_aload_n (pc := 4) hC (i := 0) (x := (V.2.2.1 0 0)) rfl rfl d_Co_changed_4 ?_
  refine g_getM (pc := 5) hC fo_Co_85 (ob_Co hV) rfl d_Co_changed_5 ?_
  obtain ⟨ht5, h⟩ := gTx_some h
  obtain ⟨q8, hq8, h⟩ := Option.bind_eq_some_iff.mp h
  refine g_vv (pc := 8) hC (As := [.ref (V.2.2.1 ((S.1 0 11).toNatClampNeg) 0)]) (st := []) mt_St_measure lk_Co_285 rfl (ob_St hV is_4) (Nat.le_of_ble_eq_true rfl) ⟨Nat.le_of_ble_eq_true rfl, Nat.le_of_ble_eq_true rfl⟩ rfl d_Co_changed_8 (c_St_measure hV is_4 ht5 hq8) ?_
  refine g_aload_n (pc := 11) hC (i := 0) (x := (V.2.2.1 0 0)) rfl rfl d_Co_changed_11 ?_
  refine g_getC (pc := 12) hC (j := 4) fo_Co_35 (ob_Co hV) rfl d_Co_changed_12 ?_
  refine g_aload_n (pc := 15) hC (i := 0) (x := (V.2.2.1 0 0)) rfl rfl d_Co_changed_15 ?_
  refine g_getM (pc := 16) hC fo_Co_85 (ob_Co hV) rfl d_Co_changed_16 ?_
  obtain ⟨ht16, h⟩ := gTx_some h
  obtain ⟨q19, hq19, h⟩ := Option.bind_eq_some_iff.mp h
  refine g_vv (pc := 19) hC (As := [.ref (V.2.2.1 ((q8.1 0 11).toNatClampNeg) 0)]) (st := []) mt_St_settle lk_Co_288 rfl (ob_St hV is_4) (Nat.le_of_ble_eq_true rfl) ⟨Nat.le_of_ble_eq_true rfl, Nat.le_of_ble_eq_true rfl⟩ rfl d_Co_changed_19 (c_St_settle hV is_4 ht16 hq19) ?_
  refine g_aload_n (pc := 22) hC (i := 0) (x := (V.2.2.1 0 0)) rfl rfl d_Co_changed_22 ?_
  refine g_getC (pc := 23) hC (j := 7) fo_Co_52 (ob_Co hV) rfl d_Co_changed_23 ?_
  refine g_iconst (pc := 26) hC kc_0 d_Co_changed_26 ?_
  refine g_putI (pc := 27) hC po_Co_291 (ob_Rn hV) rfl rfl rfl d_Co_changed_27 ?_
  refine g_letS h (fun S27 h => ?_)
  exact g_vW (pc := 30) hC d_Co_changed_30 h
theorem c_Co_changed {V : WV} {l : Launch} (hV : IsC V) {S : Mem} {z : Mem} (h : f_Co_changed S = some z) : CV V l y_Co_changed bc_Co_changed 1 none 2 49 [.ref (V.2.2.1 0 0)] S z :=
  ct_v rfl (IsC.ok hV) (Nat.le_of_ble_eq_true rfl) (fun _ _ hC => w_Co_changed_b0 hV hC S h)
def f_Co_beginAnew_b0 (S : Mem) : Option (Mem) :=
  gTx (S.1 0 11) (
  gTx (S.1 0 12) (
  letS (pI S 0 11 (nI ((S.1 0 12).toNatClampNeg))) (fun S10 =>
  letS (pI S10 0 12 (nI ((S.1 0 11).toNatClampNeg))) (fun S15 =>
  gTx (S15.1 0 11) (
  Option.bind (f_St_begin 4 ((S15.1 0 11).toNatClampNeg) S15) (fun q26 =>
  letS (pI q26 9 0 0) (fun S34 =>
  letS (pI S34 0 16 0) (fun S39 =>
  Option.bind (f_Co_forgetDone S39) (fun q43 =>
  Option.bind (f_Co_changed q43) (fun q47 =>
  some q47))))))))))
def f_Co_beginAnew (S : Mem) : Option (Mem) := f_Co_beginAnew_b0  S
theorem d_Co_beginAnew_0 : decode bc_Co_beginAnew 0 = .ok (.aload_n 0, 1) := by decide +kernel
theorem d_Co_beginAnew_1 : decode bc_Co_beginAnew 1 = .ok (.getfield 85, 3) := by decide +kernel
theorem d_Co_beginAnew_4 : decode bc_Co_beginAnew 4 = .ok (.astore_n 1, 1) := by decide +kernel
theorem d_Co_beginAnew_5 : decode bc_Co_beginAnew 5 = .ok (.aload_n 0, 1) := by decide +kernel
theorem d_Co_beginAnew_6 : decode bc_Co_beginAnew 6 = .ok (.aload_n 0, 1) := by decide +kernel
theorem d_Co_beginAnew_7 : decode bc_Co_beginAnew 7 = .ok (.getfield 89, 3) := by decide +kernel
theorem d_Co_beginAnew_10 : decode bc_Co_beginAnew 10 = .ok (.putfield 85, 3) := by decide +kernel
theorem d_Co_beginAnew_13 : decode bc_Co_beginAnew 13 = .ok (.aload_n 0, 1) := by decide +kernel
theorem d_Co_beginAnew_14 : decode bc_Co_beginAnew 14 = .ok (.aload_n 1, 1) := by decide +kernel
theorem d_Co_beginAnew_15 : decode bc_Co_beginAnew 15 = .ok (.putfield 89, 3) := by decide +kernel
theorem d_Co_beginAnew_18 : decode bc_Co_beginAnew 18 = .ok (.aload_n 0, 1) := by decide +kernel
theorem d_Co_beginAnew_19 : decode bc_Co_beginAnew 19 = .ok (.getfield 35, 3) := by decide +kernel
theorem d_Co_beginAnew_22 : decode bc_Co_beginAnew 22 = .ok (.aload_n 0, 1) := by decide +kernel
theorem d_Co_beginAnew_23 : decode bc_Co_beginAnew 23 = .ok (.getfield 85, 3) := by decide +kernel
theorem d_Co_beginAnew_26 : decode bc_Co_beginAnew 26 = .ok (.invokevirtual 108, 3) := by decide +kernel
theorem d_Co_beginAnew_29 : decode bc_Co_beginAnew 29 = .ok (.aload_n 0, 1) := by decide +kernel
theorem d_Co_beginAnew_30 : decode bc_Co_beginAnew 30 = .ok (.getfield 66, 3) := by decide +kernel
theorem d_Co_beginAnew_33 : decode bc_Co_beginAnew 33 = .ok (.iconst 0, 1) := by decide +kernel
theorem d_Co_beginAnew_34 : decode bc_Co_beginAnew 34 = .ok (.putfield 135, 3) := by decide +kernel
theorem d_Co_beginAnew_37 : decode bc_Co_beginAnew 37 = .ok (.aload_n 0, 1) := by decide +kernel
theorem d_Co_beginAnew_38 : decode bc_Co_beginAnew 38 = .ok (.iconst 0, 1) := by decide +kernel
theorem d_Co_beginAnew_39 : decode bc_Co_beginAnew 39 = .ok (.putfield 102, 3) := by decide +kernel
theorem d_Co_beginAnew_42 : decode bc_Co_beginAnew 42 = .ok (.aload_n 0, 1) := by decide +kernel
theorem d_Co_beginAnew_43 : decode bc_Co_beginAnew 43 = .ok (.invokevirtual 138, 3) := by decide +kernel
theorem d_Co_beginAnew_46 : decode bc_Co_beginAnew 46 = .ok (.aload_n 0, 1) := by decide +kernel
theorem d_Co_beginAnew_47 : decode bc_Co_beginAnew 47 = .ok (.invokevirtual 141, 3) := by decide +kernel
theorem d_Co_beginAnew_50 : decode bc_Co_beginAnew 50 = .ok (.return_, 1) := by decide +kernel
set_option maxRecDepth 20000 in
theorem w_Co_beginAnew_b0 {X : CX} {V : WV} (hV : IsC V) {z : Mem} (hC : Ck X V bc_Co_beginAnew 2 "SecretWells" none 3 70) (S : Mem) (h : f_Co_beginAnew_b0  S = some z) : G X V 2 (QV X V z) 0 [some (.ref (V.2.2.1 0 0)), none] [] S := by
  unfold f_Co_beginAnew_b0 at h
  refine g_aload_n (pc := 0) hC (i := 0) (x := (V.2.2.1 0 0)) rfl rfl d_Co_beginAnew_0 ?_
  refine g_getM (pc := 1) hC fo_Co_85 (ob_Co hV) rfl d_Co_beginAnew_1 ?_
  obtain ⟨ht1, h⟩ := gTx_some h
  refine s_astore_n (pc := 4) hC (i := 1) rfl (by decide) d_Co_beginAnew_4 (lv2 := [some (.ref (V.2.2.1 0 0)), some (.ref (V.2.2.1 ((S.1 0 11).toNatClampNeg) 0))]) rfl ?_
  refine g_aload_n (pc := 5) hC (i := 0) (x := (V.2.2.1 0 0)) rfl rfl d_Co_beginAnew_5 ?_
  refine g_aload_n (pc := 6) hC (i := 0) (x := (V.2.2.1 0 0)) rfl rfl d_Co_beginAnew_6 ?_
  refine g_getM (pc := 7) hC fo_Co_89 (ob_Co hV) rfl d_Co_beginAnew_7 ?_
  obtain ⟨ht7, h⟩ := gTx_some h
  refine g_putM (pc := 10) hC (j := ((S.1 0 12).toNatClampNeg)) po_Co_85 (ob_Co hV) rfl (fun _ => rfl) (fun _ => rfl) (tx_lt ht7) d_Co_beginAnew_10 ?_
  refine g_letS h (fun S10 h => ?_)
  refine g_aload_n (pc := 13) hC (i := 0) (x := (V.2.2.1 0 0)) rfl rfl d_Co_beginAnew_13 ?_
  refine g_aload_n (pc := 14) hC (i := 1) (x := (V.2.2.1 ((S.1 0 11).toNatClampNeg) 0)) rfl rfl d_Co_beginAnew_14 ?_
  refine g_putM (pc := 15) hC (j := ((S.1 0 11).toNatClampNeg)) po_Co_89 (ob_Co hV) rfl (fun _ => rfl) (fun _ => rfl) (tx_lt ht1) d_Co_beginAnew_15 ?_
  refine g_letS h (fun S15 h => ?_)
  refine g_aload_n (pc := 18) hC (i := 0) (x := (V.2.2.1 0 0)) rfl rfl d_Co_beginAnew_18 ?_
  refine g_getC (pc := 19) hC (j := 4) fo_Co_35 (ob_Co hV) rfl d_Co_beginAnew_19 ?_
  refine g_aload_n (pc := 22) hC (i := 0) (x := (V.2.2.1 0 0)) rfl rfl d_Co_beginAnew_22 ?_
  refine g_getM (pc := 23) hC fo_Co_85 (ob_Co hV) rfl d_Co_beginAnew_23 ?_
  obtain ⟨ht23, h⟩ := gTx_some h
  obtain ⟨q26, hq26, h⟩ := Option.bind_eq_some_iff.mp h
  refine g_vv (pc := 26) hC (As := [.ref (V.2.2.1 ((S15.1 0 11).toNatClampNeg) 0)]) (st := []) mt_St_begin lk_Co_108 rfl (ob_St hV is_4) (Nat.le_of_ble_eq_true rfl) ⟨Nat.le_of_ble_eq_true rfl, Nat.le_of_ble_eq_true rfl⟩ rfl d_Co_beginAnew_26 (c_St_begin hV is_4 ht23 hq26) ?_
  refine g_aload_n (pc := 29) hC (i := 0) (x := (V.2.2.1 0 0)) rfl rfl d_Co_beginAnew_29 ?_
  refine g_getC (pc := 30) hC (j := 9) fo_Co_66 (ob_Co hV) rfl d_Co_beginAnew_30 ?_
  refine g_iconst (pc := 33) hC kc_0 d_Co_beginAnew_33 ?_
  refine g_putI (pc := 34) hC po_Co_135 (ob_Nt hV) rfl rfl rfl d_Co_beginAnew_34 ?_
  refine g_letS h (fun S34 h => ?_)
  refine g_aload_n (pc := 37) hC (i := 0) (x := (V.2.2.1 0 0)) rfl rfl d_Co_beginAnew_37 ?_
  refine g_iconst (pc := 38) hC kc_0 d_Co_beginAnew_38 ?_
  refine g_putI (pc := 39) hC po_Co_102 (ob_Co hV) rfl rfl rfl d_Co_beginAnew_39 ?_
  refine g_letS h (fun S39 h => ?_)
  refine g_aload_n (pc := 42) hC (i := 0) (x := (V.2.2.1 0 0)) rfl rfl d_Co_beginAnew_42 ?_
  obtain ⟨q43, hq43, h⟩ := Option.bind_eq_some_iff.mp h
  refine g_vv (pc := 43) hC (As := []) (st := []) mt_Co_forgetDone lk_Co_138 rfl (ob_Co hV) (Nat.le_of_ble_eq_true rfl) ⟨Nat.le_of_ble_eq_true rfl, Nat.le_of_ble_eq_true rfl⟩ rfl d_Co_beginAnew_43 (c_Co_forgetDone hV hq43) ?_
  refine g_aload_n (pc := 46) hC (i := 0) (x := (V.2.2.1 0 0)) rfl rfl d_Co_beginAnew_46 ?_
  obtain ⟨q47, hq47, h⟩ := Option.bind_eq_some_iff.mp h
  refine g_vv (pc := 47) hC (As := []) (st := []) mt_Co_changed lk_Co_141 rfl (ob_Co hV) (Nat.le_of_ble_eq_true rfl) ⟨Nat.le_of_ble_eq_true rfl, Nat.le_of_ble_eq_true rfl⟩ rfl d_Co_beginAnew_47 (c_Co_changed hV hq47) ?_
  exact g_vW (pc := 50) hC d_Co_beginAnew_50 h
theorem c_Co_beginAnew {V : WV} {l : Launch} (hV : IsC V) {S : Mem} {z : Mem} (h : f_Co_beginAnew S = some z) : CV V l y_Co_beginAnew bc_Co_beginAnew 2 none 3 70 [.ref (V.2.2.1 0 0)] S z :=
  ct_v rfl (IsC.ok hV) (Nat.le_of_ble_eq_true rfl) (fun _ _ hC => w_Co_beginAnew_b0 hV hC S h)
def f_Co_read_b61 (x1 : Int32) (S : Mem) : Option (Int32 × Mem) :=
  if x1 = 0 then
    Option.bind (f_Co_beginAnew S) (fun q66 =>
    some (x1, q66))
  else
    some (x1, S)
def f_Co_read_b0 (S : Mem) : Option (Int32 × Mem) :=
  Option.bind (f_Tp_scan S) (fun q4 =>
  letS (pI q4 1 0 0) (fun S12 =>
  Option.bind (f_Sh_seek S12) (fun q19 =>
  letS q19.1 (fun y22 =>
  letS (pI q19.2 0 13 (q19.2.1 2 0)) (fun S31 =>
  if y22 = 0 then
    gTx (S31.1 0 12) (
    Option.bind (f_Mn_seek ((S31.1 0 12).toNatClampNeg) S31) (fun q46 =>
    letS q46.1 (fun y49 =>
    letS (pI q46.2 0 13 (q46.2.1 3 0)) (fun S58 =>
    f_Co_read_b61 y49 S58))))
  else
    f_Co_read_b61 y22 S31)))))
def f_Co_read (S : Mem) : Option (Int32 × Mem) := f_Co_read_b0  S
theorem d_Co_read_0 : decode bc_Co_read 0 = .ok (.aload_n 0, 1) := by decide +kernel
theorem d_Co_read_1 : decode bc_Co_read 1 = .ok (.getfield 10, 3) := by decide +kernel
theorem d_Co_read_4 : decode bc_Co_read 4 = .ok (.invokevirtual 118, 3) := by decide +kernel
theorem d_Co_read_7 : decode bc_Co_read 7 = .ok (.aload_n 0, 1) := by decide +kernel
theorem d_Co_read_8 : decode bc_Co_read 8 = .ok (.getfield 10, 3) := by decide +kernel
theorem d_Co_read_11 : decode bc_Co_read 11 = .ok (.iconst 0, 1) := by decide +kernel
theorem d_Co_read_12 : decode bc_Co_read 12 = .ok (.putfield 112, 3) := by decide +kernel
theorem d_Co_read_15 : decode bc_Co_read 15 = .ok (.aload_n 0, 1) := by decide +kernel
theorem d_Co_read_16 : decode bc_Co_read 16 = .ok (.getfield 21, 3) := by decide +kernel
theorem d_Co_read_19 : decode bc_Co_read 19 = .ok (.invokevirtual 121, 3) := by decide +kernel
theorem d_Co_read_22 : decode bc_Co_read 22 = .ok (.istore_n 1, 1) := by decide +kernel
theorem d_Co_read_23 : decode bc_Co_read 23 = .ok (.aload_n 0, 1) := by decide +kernel
theorem d_Co_read_24 : decode bc_Co_read 24 = .ok (.aload_n 0, 1) := by decide +kernel
theorem d_Co_read_25 : decode bc_Co_read 25 = .ok (.getfield 21, 3) := by decide +kernel
theorem d_Co_read_28 : decode bc_Co_read 28 = .ok (.getfield 125, 3) := by decide +kernel
theorem d_Co_read_31 : decode bc_Co_read 31 = .ok (.putfield 92, 3) := by decide +kernel
theorem d_Co_read_34 : decode bc_Co_read 34 = .ok (.iload_n 1, 1) := by decide +kernel
theorem d_Co_read_35 : decode bc_Co_read 35 = .ok (.ifCond .ne 26, 3) := by decide +kernel
theorem d_Co_read_38 : decode bc_Co_read 38 = .ok (.aload_n 0, 1) := by decide +kernel
theorem d_Co_read_39 : decode bc_Co_read 39 = .ok (.getfield 28, 3) := by decide +kernel
theorem d_Co_read_42 : decode bc_Co_read 42 = .ok (.aload_n 0, 1) := by decide +kernel
theorem d_Co_read_43 : decode bc_Co_read 43 = .ok (.getfield 89, 3) := by decide +kernel
theorem d_Co_read_46 : decode bc_Co_read 46 = .ok (.invokevirtual 128, 3) := by decide +kernel
theorem d_Co_read_49 : decode bc_Co_read 49 = .ok (.istore_n 1, 1) := by decide +kernel
theorem d_Co_read_50 : decode bc_Co_read 50 = .ok (.aload_n 0, 1) := by decide +kernel
theorem d_Co_read_51 : decode bc_Co_read 51 = .ok (.aload_n 0, 1) := by decide +kernel
theorem d_Co_read_52 : decode bc_Co_read 52 = .ok (.getfield 28, 3) := by decide +kernel
theorem d_Co_read_55 : decode bc_Co_read 55 = .ok (.getfield 131, 3) := by decide +kernel
theorem d_Co_read_58 : decode bc_Co_read 58 = .ok (.putfield 92, 3) := by decide +kernel
theorem d_Co_read_61 : decode bc_Co_read 61 = .ok (.iload_n 1, 1) := by decide +kernel
theorem d_Co_read_62 : decode bc_Co_read 62 = .ok (.ifCond .ne 7, 3) := by decide +kernel
theorem d_Co_read_65 : decode bc_Co_read 65 = .ok (.aload_n 0, 1) := by decide +kernel
theorem d_Co_read_66 : decode bc_Co_read 66 = .ok (.invokevirtual 132, 3) := by decide +kernel
theorem d_Co_read_69 : decode bc_Co_read 69 = .ok (.iload_n 1, 1) := by decide +kernel
theorem d_Co_read_70 : decode bc_Co_read 70 = .ok (.ireturn, 1) := by decide +kernel
set_option maxRecDepth 20000 in
theorem w_Co_read_b61 {X : CX} {V : WV} (hV : IsC V) {z : Int32 × Mem} (hC : Ck X V bc_Co_read 2 "SecretWells" (some .int) 8 171) (x1 : Int32) (S : Mem) (h : f_Co_read_b61  x1 S = some z) : G X V 2 (QI X V z.1 z.2) 61 [some (.ref (V.2.2.1 0 0)), some (.int x1)] [] S := by
  unfold f_Co_read_b61 at h
  refine g_iload_n (pc := 61) hC (i := 1) (x := x1) rfl rfl d_Co_read_61 ?_
  refine g_if_ne (pc := 62) hC (tgt := 69) (by decide) d_Co_read_62 h (fun h => ?_) (fun h => ?_)
  · refine g_iload_n (pc := 69) hC (i := 1) (x := x1) rfl rfl d_Co_read_69 ?_
    exact g_iW (pc := 70) hC rfl d_Co_read_70 h
  · refine g_aload_n (pc := 65) hC (i := 0) (x := (V.2.2.1 0 0)) rfl rfl d_Co_read_65 ?_
    obtain ⟨q66, hq66, h⟩ := Option.bind_eq_some_iff.mp h
    refine g_vv (pc := 66) hC (As := []) (st := []) mt_Co_beginAnew lk_Co_132 rfl (ob_Co hV) (Nat.le_of_ble_eq_true rfl) ⟨Nat.le_of_ble_eq_true rfl, Nat.le_of_ble_eq_true rfl⟩ rfl d_Co_read_66 (c_Co_beginAnew hV hq66) ?_
    refine g_iload_n (pc := 69) hC (i := 1) (x := x1) rfl rfl d_Co_read_69 ?_
    exact g_iW (pc := 70) hC rfl d_Co_read_70 h
set_option maxRecDepth 20000 in
theorem w_Co_read_b0 {X : CX} {V : WV} (hV : IsC V) {z : Int32 × Mem} (hC : Ck X V bc_Co_read 2 "SecretWells" (some .int) 8 171) (S : Mem) (h : f_Co_read_b0  S = some z) : G X V 2 (QI X V z.1 z.2) 0 [some (.ref (V.2.2.1 0 0)), none] [] S := by
  unfold f_Co_read_b0 at h
  refine g_aload_n (pc := 0) hC (i := 0) (x := (V.2.2.1 0 0)) rfl rfl d_Co_read_0 ?_
  refine g_getC (pc := 1) hC (j := 1) fo_Co_10 (ob_Co hV) rfl d_Co_read_1 ?_
  obtain ⟨q4, hq4, h⟩ := Option.bind_eq_some_iff.mp h
  refine g_vv (pc := 4) hC (As := []) (st := []) mt_Tp_scan lk_Co_118 rfl (ob_Tp hV) (Nat.le_of_ble_eq_true rfl) ⟨Nat.le_of_ble_eq_true rfl, Nat.le_of_ble_eq_true rfl⟩ rfl d_Co_read_4 (c_Tp_scan hV hq4) ?_
  refine g_aload_n (pc := 7) hC (i := 0) (x := (V.2.2.1 0 0)) rfl rfl d_Co_read_7 ?_
  refine g_getC (pc := 8) hC (j := 1) fo_Co_10 (ob_Co hV) rfl d_Co_read_8 ?_
  refine g_iconst (pc := 11) hC kc_0 d_Co_read_11 ?_
  refine g_putI (pc := 12) hC po_Co_112 (ob_Tp hV) rfl rfl rfl d_Co_read_12 ?_
  refine g_letS h (fun S12 h => ?_)
  refine g_aload_n (pc := 15) hC (i := 0) (x := (V.2.2.1 0 0)) rfl rfl d_Co_read_15 ?_
  refine g_getC (pc := 16) hC (j := 2) fo_Co_21 (ob_Co hV) rfl d_Co_read_16 ?_
  obtain ⟨q19, hq19, h⟩ := Option.bind_eq_some_iff.mp h
  refine g_vi (pc := 19) hC (As := []) (st := []) mt_Sh_seek lk_Co_121 rfl (ob_Sh hV) (Nat.le_of_ble_eq_true rfl) ⟨Nat.le_of_ble_eq_true rfl, Nat.le_of_ble_eq_true rfl⟩ rfl d_Co_read_19 (c_Sh_seek hV hq19) ?_
  refine g_leti h (fun y22 h => ?_)
  refine s_istore_n (pc := 22) hC (i := 1) rfl (by decide) d_Co_read_22 (lv2 := [some (.ref (V.2.2.1 0 0)), some (.int y22)]) rfl ?_
  refine g_aload_n (pc := 23) hC (i := 0) (x := (V.2.2.1 0 0)) rfl rfl d_Co_read_23 ?_
  refine g_aload_n (pc := 24) hC (i := 0) (x := (V.2.2.1 0 0)) rfl rfl d_Co_read_24 ?_
  refine g_getC (pc := 25) hC (j := 2) fo_Co_21 (ob_Co hV) rfl d_Co_read_25 ?_
  refine g_getI (pc := 28) hC fo_Co_125 (ob_Sh hV) rfl d_Co_read_28 ?_
  refine g_putI (pc := 31) hC po_Co_92 (ob_Co hV) rfl rfl rfl d_Co_read_31 ?_
  refine g_letS h (fun S31 h => ?_)
  refine g_iload_n (pc := 34) hC (i := 1) (x := y22) rfl rfl d_Co_read_34 ?_
  refine g_if_ne (pc := 35) hC (tgt := 61) (by decide) d_Co_read_35 h (fun h => ?_) (fun h => ?_)
  · exact w_Co_read_b61 hV hC y22 S31 h
  · refine g_aload_n (pc := 38) hC (i := 0) (x := (V.2.2.1 0 0)) rfl rfl d_Co_read_38 ?_
    refine g_getC (pc := 39) hC (j := 3) fo_Co_28 (ob_Co hV) rfl d_Co_read_39 ?_
    refine g_aload_n (pc := 42) hC (i := 0) (x := (V.2.2.1 0 0)) rfl rfl d_Co_read_42 ?_
    refine g_getM (pc := 43) hC fo_Co_89 (ob_Co hV) rfl d_Co_read_43 ?_
    obtain ⟨ht43, h⟩ := gTx_some h
    obtain ⟨q46, hq46, h⟩ := Option.bind_eq_some_iff.mp h
    refine g_vi (pc := 46) hC (As := [.ref (V.2.2.1 ((S31.1 0 12).toNatClampNeg) 0)]) (st := []) mt_Mn_seek lk_Co_128 rfl (ob_Mn hV) (Nat.le_of_ble_eq_true rfl) ⟨Nat.le_of_ble_eq_true rfl, Nat.le_of_ble_eq_true rfl⟩ rfl d_Co_read_46 (c_Mn_seek hV ht43 hq46) ?_
    refine g_leti h (fun y49 h => ?_)
    refine s_istore_n (pc := 49) hC (i := 1) rfl (by decide) d_Co_read_49 (lv2 := [some (.ref (V.2.2.1 0 0)), some (.int y49)]) rfl ?_
    refine g_aload_n (pc := 50) hC (i := 0) (x := (V.2.2.1 0 0)) rfl rfl d_Co_read_50 ?_
    refine g_aload_n (pc := 51) hC (i := 0) (x := (V.2.2.1 0 0)) rfl rfl d_Co_read_51 ?_
    refine g_getC (pc := 52) hC (j := 3) fo_Co_28 (ob_Co hV) rfl d_Co_read_52 ?_
    refine g_getI (pc := 55) hC fo_Co_131 (ob_Mn hV) rfl d_Co_read_55 ?_
    refine g_putI (pc := 58) hC po_Co_92 (ob_Co hV) rfl rfl rfl d_Co_read_58 ?_
    refine g_letS h (fun S58 h => ?_)
    exact w_Co_read_b61 hV hC y49 S58 h
theorem c_Co_read {V : WV} {l : Launch} (hV : IsC V) {S : Mem} {z : Int32 × Mem} (h : f_Co_read S = some z) : CI V l y_Co_read bc_Co_read 2 (some .int) 8 171 [.ref (V.2.2.1 0 0)] S z.1 z.2 :=
  ct_i rfl (IsC.ok hV) (Nat.le_of_ble_eq_true rfl) (fun _ _ hC => w_Co_read_b0 hV hC S h)
def f_Co_place_b0 (S : Mem) : Option (Int32) :=
  some (S.1 0 13)
def f_Co_place (S : Mem) : Option (Int32) := f_Co_place_b0 S
theorem d_Co_place_0 : decode bc_Co_place 0 = .ok (.aload_n 0, 1) := by decide +kernel
theorem d_Co_place_1 : decode bc_Co_place 1 = .ok (.getfield 92, 3) := by decide +kernel
theorem d_Co_place_4 : decode bc_Co_place 4 = .ok (.ireturn, 1) := by decide +kernel
set_option maxRecDepth 20000 in
theorem w_Co_place_b0 {X : CX} {V : WV} (hV : IsC V) {S : Mem} {z : Int32} (hC : Ck X V bc_Co_place 1 "SecretWells" (some .int) 0 0) (h : f_Co_place_b0 S = some z) : G X V 1 (QI X V z S) 0 [some (.ref (V.2.2.1 0 0))] [] S := by
  unfold f_Co_place_b0 at h
  refine g_aload_n (pc := 0) hC (i := 0) (x := (V.2.2.1 0 0)) rfl rfl d_Co_place_0 ?_
  refine g_getI (pc := 1) hC fo_Co_92 (ob_Co hV) rfl d_Co_place_1 ?_
  exact g_iN (pc := 4) hC rfl d_Co_place_4 h
theorem c_Co_place {V : WV} {l : Launch} (hV : IsC V) {S : Mem} {z : Int32} (h : f_Co_place S = some z) : CI V l y_Co_place bc_Co_place 1 (some .int) 0 0 [.ref (V.2.2.1 0 0)] S z S :=
  ct_i rfl (IsC.ok hV) (Nat.le_of_ble_eq_true rfl) (fun _ _ hC => w_Co_place_b0 hV hC h)
def f_Co_isWell_b0 (S : Mem) (x1 : Int32) : Option (Int32) :=
  if x1 < 0 then
    some 0
  else
    gTx (S.1 0 11) (
    if (S.1 ((S.1 0 11).toNatClampNeg) 0) ≤ x1 then
      some 0
    else
      some 1)
def f_Co_isWell (x1 : Int32) (S : Mem) : Option (Int32) := f_Co_isWell_b0 S x1
theorem d_Co_isWell_0 : decode bc_Co_isWell 0 = .ok (.iload_n 1, 1) := by decide +kernel
theorem d_Co_isWell_1 : decode bc_Co_isWell 1 = .ok (.ifCond .lt 18, 3) := by decide +kernel
theorem d_Co_isWell_4 : decode bc_Co_isWell 4 = .ok (.iload_n 1, 1) := by decide +kernel
theorem d_Co_isWell_5 : decode bc_Co_isWell 5 = .ok (.aload_n 0, 1) := by decide +kernel
theorem d_Co_isWell_6 : decode bc_Co_isWell 6 = .ok (.getfield 85, 3) := by decide +kernel
theorem d_Co_isWell_9 : decode bc_Co_isWell 9 = .ok (.getfield 221, 3) := by decide +kernel
theorem d_Co_isWell_12 : decode bc_Co_isWell 12 = .ok (.if_icmp .ge 7, 3) := by decide +kernel
theorem d_Co_isWell_15 : decode bc_Co_isWell 15 = .ok (.iconst 1, 1) := by decide +kernel
theorem d_Co_isWell_16 : decode bc_Co_isWell 16 = .ok (.goto 4, 3) := by decide +kernel
theorem d_Co_isWell_19 : decode bc_Co_isWell 19 = .ok (.iconst 0, 1) := by decide +kernel
theorem d_Co_isWell_20 : decode bc_Co_isWell 20 = .ok (.ireturn, 1) := by decide +kernel
set_option maxRecDepth 20000 in
theorem w_Co_isWell_b0 {X : CX} {V : WV} (hV : IsC V) {S : Mem} {z : Int32} (hC : Ck X V bc_Co_isWell 2 "SecretWells" (some .boolean) 0 0) (x1 : Int32) (h : f_Co_isWell_b0 S x1 = some z) : G X V 2 (QI X V z S) 0 [some (.ref (V.2.2.1 0 0)), some (.int x1)] [] S := by
  unfold f_Co_isWell_b0 at h
  refine g_iload_n (pc := 0) hC (i := 1) (x := x1) rfl rfl d_Co_isWell_0 ?_
  refine g_if_lt (pc := 1) hC (tgt := 19) (by decide) d_Co_isWell_1 h (fun h => ?_) (fun h => ?_)
  · refine g_iconst (pc := 19) hC kc_0 d_Co_isWell_19 ?_
    exact g_iN (pc := 20) hC rfl d_Co_isWell_20 h
  · refine g_iload_n (pc := 4) hC (i := 1) (x := x1) rfl rfl d_Co_isWell_4 ?_
    refine g_aload_n (pc := 5) hC (i := 0) (x := (V.2.2.1 0 0)) rfl rfl d_Co_isWell_5 ?_
    refine g_getM (pc := 6) hC fo_Co_85 (ob_Co hV) rfl d_Co_isWell_6 ?_
    obtain ⟨ht6, h⟩ := gTx_some h
    refine g_getI (pc := 9) hC fo_Co_221 (ob_Tx hV ht6) rfl d_Co_isWell_9 ?_
    refine g_icmp_ge (pc := 12) hC (tgt := 19) (by decide) d_Co_isWell_12 h (fun h => ?_) (fun h => ?_)
    · refine g_iconst (pc := 19) hC kc_0 d_Co_isWell_19 ?_
      exact g_iN (pc := 20) hC rfl d_Co_isWell_20 h
    · refine g_iconst (pc := 15) hC kc_1 d_Co_isWell_15 ?_
      refine g_goto (pc := 16) hC (tgt := 20) (by decide) d_Co_isWell_16 ?_
      exact g_iN (pc := 20) hC rfl d_Co_isWell_20 h
theorem c_Co_isWell {V : WV} {l : Launch} (hV : IsC V) {x1 : Int32} {S : Mem} {z : Int32} (h : f_Co_isWell x1 S = some z) : CI V l y_Co_isWell bc_Co_isWell 2 (some .boolean) 0 0 [.ref (V.2.2.1 0 0), .int x1] S z S :=
  ct_i rfl (IsC.ok hV) (Nat.le_of_ble_eq_true rfl) (fun _ _ hC => w_Co_isWell_b0 hV hC x1 h)
def f_Co_well_b0 (x1 : Int32) (x2 : Int32) (S : Mem) : Option (Int32 × Mem) :=
  Option.bind (f_Co_isWell x1 S) (fun q2 =>
  if q2 = 0 then
    some ((-1), S)
  else
    if x2 = 0 then
      gIn x1 4 (
      some (S.2.1 4 9 x1.toNatClampNeg, S))
    else if x2 = 1 then
      gIn x1 4 (
      some (S.2.1 4 4 x1.toNatClampNeg, S))
    else if x2 = 2 then
      gTx (S.1 0 11) (
      Option.bind (f_St_whisperedInto 4 ((S.1 0 11).toNatClampNeg) x1 S) (fun q77 =>
      some (q77, S)))
    else if x2 = 3 then
      gIn x1 4 (
      some (S.2.1 4 10 x1.toNatClampNeg, S))
    else if x2 = 4 then
      gIn x1 4 (
      some (S.2.1 4 11 x1.toNatClampNeg, S))
    else if x2 = 5 then
      gTx (S.1 0 11) (
      Option.bind (f_Dy_fillsNow ((S.1 0 11).toNatClampNeg) 4 x1 S) (fun q114 =>
      some (q114.1, q114.2)))
    else 
      some ((-1), S))
def f_Co_well (x1 : Int32) (x2 : Int32) (S : Mem) : Option (Int32 × Mem) := f_Co_well_b0  x1 x2 S
theorem d_Co_well_0 : decode bc_Co_well 0 = .ok (.aload_n 0, 1) := by decide +kernel
theorem d_Co_well_1 : decode bc_Co_well 1 = .ok (.iload_n 1, 1) := by decide +kernel
theorem d_Co_well_2 : decode bc_Co_well 2 = .ok (.invokevirtual 144, 3) := by decide +kernel
theorem d_Co_well_5 : decode bc_Co_well 5 = .ok (.ifCond .ne 5, 3) := by decide +kernel
theorem d_Co_well_8 : decode bc_Co_well 8 = .ok (.iconst (-1), 1) := by decide +kernel
theorem d_Co_well_9 : decode bc_Co_well 9 = .ok (.ireturn, 1) := by decide +kernel
theorem d_Co_well_10 : decode bc_Co_well 10 = .ok (.iload_n 2, 1) := by decide +kernel
theorem d_Co_well_11 : decode bc_Co_well 11 = .ok (.tableswitch 107 0 5 #[37, 47, 57, 70, 80, 90], 37) := by decide +kernel
theorem d_Co_well_48 : decode bc_Co_well 48 = .ok (.aload_n 0, 1) := by decide +kernel
theorem d_Co_well_49 : decode bc_Co_well 49 = .ok (.getfield 35, 3) := by decide +kernel
theorem d_Co_well_52 : decode bc_Co_well 52 = .ok (.getfield 148, 3) := by decide +kernel
theorem d_Co_well_55 : decode bc_Co_well 55 = .ok (.iload_n 1, 1) := by decide +kernel
theorem d_Co_well_56 : decode bc_Co_well 56 = .ok (.iaload, 1) := by decide +kernel
theorem d_Co_well_57 : decode bc_Co_well 57 = .ok (.ireturn, 1) := by decide +kernel
theorem d_Co_well_58 : decode bc_Co_well 58 = .ok (.aload_n 0, 1) := by decide +kernel
theorem d_Co_well_59 : decode bc_Co_well 59 = .ok (.getfield 35, 3) := by decide +kernel
theorem d_Co_well_62 : decode bc_Co_well 62 = .ok (.getfield 152, 3) := by decide +kernel
theorem d_Co_well_65 : decode bc_Co_well 65 = .ok (.iload_n 1, 1) := by decide +kernel
theorem d_Co_well_66 : decode bc_Co_well 66 = .ok (.iaload, 1) := by decide +kernel
theorem d_Co_well_67 : decode bc_Co_well 67 = .ok (.ireturn, 1) := by decide +kernel
theorem d_Co_well_68 : decode bc_Co_well 68 = .ok (.aload_n 0, 1) := by decide +kernel
theorem d_Co_well_69 : decode bc_Co_well 69 = .ok (.getfield 35, 3) := by decide +kernel
theorem d_Co_well_72 : decode bc_Co_well 72 = .ok (.aload_n 0, 1) := by decide +kernel
theorem d_Co_well_73 : decode bc_Co_well 73 = .ok (.getfield 85, 3) := by decide +kernel
theorem d_Co_well_76 : decode bc_Co_well 76 = .ok (.iload_n 1, 1) := by decide +kernel
theorem d_Co_well_77 : decode bc_Co_well 77 = .ok (.invokevirtual 155, 3) := by decide +kernel
theorem d_Co_well_80 : decode bc_Co_well 80 = .ok (.ireturn, 1) := by decide +kernel
theorem d_Co_well_81 : decode bc_Co_well 81 = .ok (.aload_n 0, 1) := by decide +kernel
theorem d_Co_well_82 : decode bc_Co_well 82 = .ok (.getfield 35, 3) := by decide +kernel
theorem d_Co_well_85 : decode bc_Co_well 85 = .ok (.getfield 159, 3) := by decide +kernel
theorem d_Co_well_88 : decode bc_Co_well 88 = .ok (.iload_n 1, 1) := by decide +kernel
theorem d_Co_well_89 : decode bc_Co_well 89 = .ok (.iaload, 1) := by decide +kernel
theorem d_Co_well_90 : decode bc_Co_well 90 = .ok (.ireturn, 1) := by decide +kernel
theorem d_Co_well_91 : decode bc_Co_well 91 = .ok (.aload_n 0, 1) := by decide +kernel
theorem d_Co_well_92 : decode bc_Co_well 92 = .ok (.getfield 35, 3) := by decide +kernel
theorem d_Co_well_95 : decode bc_Co_well 95 = .ok (.getfield 162, 3) := by decide +kernel
theorem d_Co_well_98 : decode bc_Co_well 98 = .ok (.iload_n 1, 1) := by decide +kernel
theorem d_Co_well_99 : decode bc_Co_well 99 = .ok (.iaload, 1) := by decide +kernel
theorem d_Co_well_100 : decode bc_Co_well 100 = .ok (.ireturn, 1) := by decide +kernel
theorem d_Co_well_101 : decode bc_Co_well 101 = .ok (.aload_n 0, 1) := by decide +kernel
theorem d_Co_well_102 : decode bc_Co_well 102 = .ok (.getfield 45, 3) := by decide +kernel
theorem d_Co_well_105 : decode bc_Co_well 105 = .ok (.aload_n 0, 1) := by decide +kernel
theorem d_Co_well_106 : decode bc_Co_well 106 = .ok (.getfield 85, 3) := by decide +kernel
theorem d_Co_well_109 : decode bc_Co_well 109 = .ok (.aload_n 0, 1) := by decide +kernel
theorem d_Co_well_110 : decode bc_Co_well 110 = .ok (.getfield 35, 3) := by decide +kernel
theorem d_Co_well_113 : decode bc_Co_well 113 = .ok (.iload_n 1, 1) := by decide +kernel
theorem d_Co_well_114 : decode bc_Co_well 114 = .ok (.invokevirtual 165, 3) := by decide +kernel
theorem d_Co_well_117 : decode bc_Co_well 117 = .ok (.ireturn, 1) := by decide +kernel
theorem d_Co_well_118 : decode bc_Co_well 118 = .ok (.iconst (-1), 1) := by decide +kernel
theorem d_Co_well_119 : decode bc_Co_well 119 = .ok (.ireturn, 1) := by decide +kernel
set_option maxRecDepth 20000 in
theorem w_Co_well_b0 {X : CX} {V : WV} (hV : IsC V) {z : Int32 × Mem} (hC : Ck X V bc_Co_well 3 "SecretWells" (some .int) 3 73) (x1 : Int32) (x2 : Int32) (S : Mem) (h : f_Co_well_b0  x1 x2 S = some z) : G X V 3 (QI X V z.1 z.2) 0 [some (.ref (V.2.2.1 0 0)), some (.int x1), some (.int x2)] [] S := by
  unfold f_Co_well_b0 at h
  refine g_aload_n (pc := 0) hC (i := 0) (x := (V.2.2.1 0 0)) rfl rfl d_Co_well_0 ?_
  refine g_iload_n (pc := 1) hC (i := 1) (x := x1) rfl rfl d_Co_well_1 ?_
  obtain ⟨q2, hq2, h⟩ := Option.bind_eq_some_iff.mp h
  refine g_vi (pc := 2) hC (As := [.int x1]) (st := []) mt_Co_isWell lk_Co_144 rfl (ob_Co hV) (Nat.le_of_ble_eq_true rfl) ⟨Nat.le_of_ble_eq_true rfl, Nat.le_of_ble_eq_true rfl⟩ rfl d_Co_well_2 (c_Co_isWell hV hq2) ?_
  refine g_if_ne (pc := 5) hC (tgt := 10) (by decide) d_Co_well_5 h (fun h => ?_) (fun h => ?_)
  · refine g_iload_n (pc := 10) hC (i := 2) (x := x2) rfl rfl d_Co_well_10 ?_
    by_cases hs11_0 : x2 = 0
    · rw [if_pos hs11_0] at h
      refine g_table (pc := 11) hC (tgt := 48) d_Co_well_11 rfl (by rw [hs11_0]; decide) ?_
      refine g_aload_n (pc := 48) hC (i := 0) (x := (V.2.2.1 0 0)) rfl rfl d_Co_well_48 ?_
      refine g_getC (pc := 49) hC (j := 4) fo_Co_35 (ob_Co hV) rfl d_Co_well_49 ?_
      refine g_getA (pc := 52) hC fo_Co_148 (ob_St hV is_4) rfl d_Co_well_52 ?_
      refine g_iload_n (pc := 55) hC (i := 1) (x := x1) rfl rfl d_Co_well_55 ?_
      refine g_iald (pc := 56) hC (ar_St_9 hV is_4) d_Co_well_56 h (fun h => ?_)
      exact g_iW (pc := 57) hC rfl d_Co_well_57 h
    rw [if_neg hs11_0] at h
    by_cases hs11_1 : x2 = 1
    · rw [if_pos hs11_1] at h
      refine g_table (pc := 11) hC (tgt := 58) d_Co_well_11 rfl (by rw [hs11_1]; decide) ?_
      refine g_aload_n (pc := 58) hC (i := 0) (x := (V.2.2.1 0 0)) rfl rfl d_Co_well_58 ?_
      refine g_getC (pc := 59) hC (j := 4) fo_Co_35 (ob_Co hV) rfl d_Co_well_59 ?_
      refine g_getA (pc := 62) hC fo_Co_152 (ob_St hV is_4) rfl d_Co_well_62 ?_
      refine g_iload_n (pc := 65) hC (i := 1) (x := x1) rfl rfl d_Co_well_65 ?_
      refine g_iald (pc := 66) hC (ar_St_4 hV is_4) d_Co_well_66 h (fun h => ?_)
      exact g_iW (pc := 67) hC rfl d_Co_well_67 h
    rw [if_neg hs11_1] at h
    by_cases hs11_2 : x2 = 2
    · rw [if_pos hs11_2] at h
      refine g_table (pc := 11) hC (tgt := 68) d_Co_well_11 rfl (by rw [hs11_2]; decide) ?_
      refine g_aload_n (pc := 68) hC (i := 0) (x := (V.2.2.1 0 0)) rfl rfl d_Co_well_68 ?_
      refine g_getC (pc := 69) hC (j := 4) fo_Co_35 (ob_Co hV) rfl d_Co_well_69 ?_
      refine g_aload_n (pc := 72) hC (i := 0) (x := (V.2.2.1 0 0)) rfl rfl d_Co_well_72 ?_
      refine g_getM (pc := 73) hC fo_Co_85 (ob_Co hV) rfl d_Co_well_73 ?_
      obtain ⟨ht73, h⟩ := gTx_some h
      refine g_iload_n (pc := 76) hC (i := 1) (x := x1) rfl rfl d_Co_well_76 ?_
      obtain ⟨q77, hq77, h⟩ := Option.bind_eq_some_iff.mp h
      refine g_vi (pc := 77) hC (As := [.ref (V.2.2.1 ((S.1 0 11).toNatClampNeg) 0), .int x1]) (st := []) mt_St_whisperedInto lk_Co_155 rfl (ob_St hV is_4) (Nat.le_of_ble_eq_true rfl) ⟨Nat.le_of_ble_eq_true rfl, Nat.le_of_ble_eq_true rfl⟩ rfl d_Co_well_77 (c_St_whisperedInto hV is_4 ht73 hq77) ?_
      exact g_iW (pc := 80) hC rfl d_Co_well_80 h
    rw [if_neg hs11_2] at h
    by_cases hs11_3 : x2 = 3
    · rw [if_pos hs11_3] at h
      refine g_table (pc := 11) hC (tgt := 81) d_Co_well_11 rfl (by rw [hs11_3]; decide) ?_
      refine g_aload_n (pc := 81) hC (i := 0) (x := (V.2.2.1 0 0)) rfl rfl d_Co_well_81 ?_
      refine g_getC (pc := 82) hC (j := 4) fo_Co_35 (ob_Co hV) rfl d_Co_well_82 ?_
      refine g_getA (pc := 85) hC fo_Co_159 (ob_St hV is_4) rfl d_Co_well_85 ?_
      refine g_iload_n (pc := 88) hC (i := 1) (x := x1) rfl rfl d_Co_well_88 ?_
      refine g_iald (pc := 89) hC (ar_St_10 hV is_4) d_Co_well_89 h (fun h => ?_)
      exact g_iW (pc := 90) hC rfl d_Co_well_90 h
    rw [if_neg hs11_3] at h
    by_cases hs11_4 : x2 = 4
    · rw [if_pos hs11_4] at h
      refine g_table (pc := 11) hC (tgt := 91) d_Co_well_11 rfl (by rw [hs11_4]; decide) ?_
      refine g_aload_n (pc := 91) hC (i := 0) (x := (V.2.2.1 0 0)) rfl rfl d_Co_well_91 ?_
      refine g_getC (pc := 92) hC (j := 4) fo_Co_35 (ob_Co hV) rfl d_Co_well_92 ?_
      refine g_getA (pc := 95) hC fo_Co_162 (ob_St hV is_4) rfl d_Co_well_95 ?_
      refine g_iload_n (pc := 98) hC (i := 1) (x := x1) rfl rfl d_Co_well_98 ?_
      refine g_iald (pc := 99) hC (ar_St_11 hV is_4) d_Co_well_99 h (fun h => ?_)
      exact g_iW (pc := 100) hC rfl d_Co_well_100 h
    rw [if_neg hs11_4] at h
    by_cases hs11_5 : x2 = 5
    · rw [if_pos hs11_5] at h
      refine g_table (pc := 11) hC (tgt := 101) d_Co_well_11 rfl (by rw [hs11_5]; decide) ?_
      refine g_aload_n (pc := 101) hC (i := 0) (x := (V.2.2.1 0 0)) rfl rfl d_Co_well_101 ?_
      refine g_getC (pc := 102) hC (j := 6) fo_Co_45 (ob_Co hV) rfl d_Co_well_102 ?_
      refine g_aload_n (pc := 105) hC (i := 0) (x := (V.2.2.1 0 0)) rfl rfl d_Co_well_105 ?_
      refine g_getM (pc := 106) hC fo_Co_85 (ob_Co hV) rfl d_Co_well_106 ?_
      obtain ⟨ht106, h⟩ := gTx_some h
      refine g_aload_n (pc := 109) hC (i := 0) (x := (V.2.2.1 0 0)) rfl rfl d_Co_well_109 ?_
      refine g_getC (pc := 110) hC (j := 4) fo_Co_35 (ob_Co hV) rfl d_Co_well_110 ?_
      refine g_iload_n (pc := 113) hC (i := 1) (x := x1) rfl rfl d_Co_well_113 ?_
      obtain ⟨q114, hq114, h⟩ := Option.bind_eq_some_iff.mp h
      refine g_vi (pc := 114) hC (As := [.ref (V.2.2.1 ((S.1 0 11).toNatClampNeg) 0), .ref (V.2.2.1 4 0), .int x1]) (st := []) mt_Dy_fillsNow lk_Co_165 rfl (ob_Dy hV) (Nat.le_of_ble_eq_true rfl) ⟨Nat.le_of_ble_eq_true rfl, Nat.le_of_ble_eq_true rfl⟩ rfl d_Co_well_114 (c_Dy_fillsNow hV ht106 is_4 hq114) ?_
      exact g_iW (pc := 117) hC rfl d_Co_well_117 h
    rw [if_neg hs11_5] at h
    refine g_table (pc := 11) hC (tgt := 118) d_Co_well_11 rfl ((sw_else [(0 : Int32), (1 : Int32), (2 : Int32), (3 : Int32), (4 : Int32), (5 : Int32)] (by intro v hv; simp only [List.mem_cons, List.not_mem_nil, or_false] at hv; rcases hv with rfl | rfl | rfl | rfl | rfl | rfl <;> assumption) (by decide)).trans (by decide)) ?_
    refine g_iconst (pc := 118) hC kc_m1 d_Co_well_118 ?_
    exact g_iW (pc := 119) hC rfl d_Co_well_119 h
  · refine g_iconst (pc := 8) hC kc_m1 d_Co_well_8 ?_
    exact g_iW (pc := 9) hC rfl d_Co_well_9 h
theorem c_Co_well {V : WV} {l : Launch} (hV : IsC V) {x1 : Int32} {x2 : Int32} {S : Mem} {z : Int32 × Mem} (h : f_Co_well x1 x2 S = some z) : CI V l y_Co_well bc_Co_well 3 (some .int) 3 73 [.ref (V.2.2.1 0 0), .int x1, .int x2] S z.1 z.2 :=
  ct_i rfl (IsC.ok hV) (Nat.le_of_ble_eq_true rfl) (fun _ _ hC => w_Co_well_b0 hV hC x1 x2 S h)
def f_Co_isMan_b0 (S : Mem) (x1 : Int32) : Option (Int32) :=
  if x1 < 0 then
    some 0
  else
    gTx (S.1 0 11) (
    if (S.1 ((S.1 0 11).toNatClampNeg) 1) ≤ x1 then
      some 0
    else
      some 1)
def f_Co_isMan (x1 : Int32) (S : Mem) : Option (Int32) := f_Co_isMan_b0 S x1
theorem d_Co_isMan_0 : decode bc_Co_isMan 0 = .ok (.iload_n 1, 1) := by decide +kernel
theorem d_Co_isMan_1 : decode bc_Co_isMan 1 = .ok (.ifCond .lt 18, 3) := by decide +kernel
theorem d_Co_isMan_4 : decode bc_Co_isMan 4 = .ok (.iload_n 1, 1) := by decide +kernel
theorem d_Co_isMan_5 : decode bc_Co_isMan 5 = .ok (.aload_n 0, 1) := by decide +kernel
theorem d_Co_isMan_6 : decode bc_Co_isMan 6 = .ok (.getfield 85, 3) := by decide +kernel
theorem d_Co_isMan_9 : decode bc_Co_isMan 9 = .ok (.getfield 224, 3) := by decide +kernel
theorem d_Co_isMan_12 : decode bc_Co_isMan 12 = .ok (.if_icmp .ge 7, 3) := by decide +kernel
theorem d_Co_isMan_15 : decode bc_Co_isMan 15 = .ok (.iconst 1, 1) := by decide +kernel
theorem d_Co_isMan_16 : decode bc_Co_isMan 16 = .ok (.goto 4, 3) := by decide +kernel
theorem d_Co_isMan_19 : decode bc_Co_isMan 19 = .ok (.iconst 0, 1) := by decide +kernel
theorem d_Co_isMan_20 : decode bc_Co_isMan 20 = .ok (.ireturn, 1) := by decide +kernel
set_option maxRecDepth 20000 in
theorem w_Co_isMan_b0 {X : CX} {V : WV} (hV : IsC V) {S : Mem} {z : Int32} (hC : Ck X V bc_Co_isMan 2 "SecretWells" (some .boolean) 0 0) (x1 : Int32) (h : f_Co_isMan_b0 S x1 = some z) : G X V 2 (QI X V z S) 0 [some (.ref (V.2.2.1 0 0)), some (.int x1)] [] S := by
  unfold f_Co_isMan_b0 at h
  refine g_iload_n (pc := 0) hC (i := 1) (x := x1) rfl rfl d_Co_isMan_0 ?_
  refine g_if_lt (pc := 1) hC (tgt := 19) (by decide) d_Co_isMan_1 h (fun h => ?_) (fun h => ?_)
  · refine g_iconst (pc := 19) hC kc_0 d_Co_isMan_19 ?_
    exact g_iN (pc := 20) hC rfl d_Co_isMan_20 h
  · refine g_iload_n (pc := 4) hC (i := 1) (x := x1) rfl rfl d_Co_isMan_4 ?_
    refine g_aload_n (pc := 5) hC (i := 0) (x := (V.2.2.1 0 0)) rfl rfl d_Co_isMan_5 ?_
    refine g_getM (pc := 6) hC fo_Co_85 (ob_Co hV) rfl d_Co_isMan_6 ?_
    obtain ⟨ht6, h⟩ := gTx_some h
    refine g_getI (pc := 9) hC fo_Co_224 (ob_Tx hV ht6) rfl d_Co_isMan_9 ?_
    refine g_icmp_ge (pc := 12) hC (tgt := 19) (by decide) d_Co_isMan_12 h (fun h => ?_) (fun h => ?_)
    · refine g_iconst (pc := 19) hC kc_0 d_Co_isMan_19 ?_
      exact g_iN (pc := 20) hC rfl d_Co_isMan_20 h
    · refine g_iconst (pc := 15) hC kc_1 d_Co_isMan_15 ?_
      refine g_goto (pc := 16) hC (tgt := 20) (by decide) d_Co_isMan_16 ?_
      exact g_iN (pc := 20) hC rfl d_Co_isMan_20 h
theorem c_Co_isMan {V : WV} {l : Launch} (hV : IsC V) {x1 : Int32} {S : Mem} {z : Int32} (h : f_Co_isMan x1 S = some z) : CI V l y_Co_isMan bc_Co_isMan 2 (some .boolean) 0 0 [.ref (V.2.2.1 0 0), .int x1] S z S :=
  ct_i rfl (IsC.ok hV) (Nat.le_of_ble_eq_true rfl) (fun _ _ hC => w_Co_isMan_b0 hV hC x1 h)
def f_Co_man_b0 (x1 : Int32) (x2 : Int32) (S : Mem) : Option (Int32 × Mem) :=
  Option.bind (f_Co_isMan x1 S) (fun q2 =>
  if q2 = 0 then
    some ((-1), S)
  else
    if x2 = 0 then
      Option.bind (f_St_isAlive 4 x1 S) (fun q49 =>
      if q49 = 0 then
        some (0, S)
      else
        some (1, S))
    else if x2 = 1 then
      gIn x1 7 (
      some (S.2.1 4 5 x1.toNatClampNeg, S))
    else if x2 = 2 then
      gIn x1 7 (
      some (S.2.1 4 6 x1.toNatClampNeg, S))
    else if x2 = 3 then
      gIn x1 7 (
      some (S.2.1 4 7 x1.toNatClampNeg, S))
    else if x2 = 4 then
      Option.bind (f_St_isAlive 4 x1 S) (fun q96 =>
      if q96 = 0 then
        some (0, S)
      else
        gTx (S.1 0 11) (
        Option.bind (f_Dy_drinksNow ((S.1 0 11).toNatClampNeg) 4 x1 S) (fun q115 =>
        some (q115.1, q115.2))))
    else 
      some ((-1), S))
def f_Co_man (x1 : Int32) (x2 : Int32) (S : Mem) : Option (Int32 × Mem) := f_Co_man_b0  x1 x2 S
theorem d_Co_man_0 : decode bc_Co_man 0 = .ok (.aload_n 0, 1) := by decide +kernel
theorem d_Co_man_1 : decode bc_Co_man 1 = .ok (.iload_n 1, 1) := by decide +kernel
theorem d_Co_man_2 : decode bc_Co_man 2 = .ok (.invokevirtual 169, 3) := by decide +kernel
theorem d_Co_man_5 : decode bc_Co_man 5 = .ok (.ifCond .ne 5, 3) := by decide +kernel
theorem d_Co_man_8 : decode bc_Co_man 8 = .ok (.iconst (-1), 1) := by decide +kernel
theorem d_Co_man_9 : decode bc_Co_man 9 = .ok (.ireturn, 1) := by decide +kernel
theorem d_Co_man_10 : decode bc_Co_man 10 = .ok (.iload_n 2, 1) := by decide +kernel
theorem d_Co_man_11 : decode bc_Co_man 11 = .ok (.tableswitch 112 0 4 #[33, 50, 60, 70, 80], 33) := by decide +kernel
theorem d_Co_man_44 : decode bc_Co_man 44 = .ok (.aload_n 0, 1) := by decide +kernel
theorem d_Co_man_45 : decode bc_Co_man 45 = .ok (.getfield 35, 3) := by decide +kernel
theorem d_Co_man_48 : decode bc_Co_man 48 = .ok (.iload_n 1, 1) := by decide +kernel
theorem d_Co_man_49 : decode bc_Co_man 49 = .ok (.invokevirtual 172, 3) := by decide +kernel
theorem d_Co_man_52 : decode bc_Co_man 52 = .ok (.ifCond .eq 7, 3) := by decide +kernel
theorem d_Co_man_55 : decode bc_Co_man 55 = .ok (.iconst 1, 1) := by decide +kernel
theorem d_Co_man_56 : decode bc_Co_man 56 = .ok (.goto 4, 3) := by decide +kernel
theorem d_Co_man_59 : decode bc_Co_man 59 = .ok (.iconst 0, 1) := by decide +kernel
theorem d_Co_man_60 : decode bc_Co_man 60 = .ok (.ireturn, 1) := by decide +kernel
theorem d_Co_man_61 : decode bc_Co_man 61 = .ok (.aload_n 0, 1) := by decide +kernel
theorem d_Co_man_62 : decode bc_Co_man 62 = .ok (.getfield 35, 3) := by decide +kernel
theorem d_Co_man_65 : decode bc_Co_man 65 = .ok (.getfield 175, 3) := by decide +kernel
theorem d_Co_man_68 : decode bc_Co_man 68 = .ok (.iload_n 1, 1) := by decide +kernel
theorem d_Co_man_69 : decode bc_Co_man 69 = .ok (.iaload, 1) := by decide +kernel
theorem d_Co_man_70 : decode bc_Co_man 70 = .ok (.ireturn, 1) := by decide +kernel
theorem d_Co_man_71 : decode bc_Co_man 71 = .ok (.aload_n 0, 1) := by decide +kernel
theorem d_Co_man_72 : decode bc_Co_man 72 = .ok (.getfield 35, 3) := by decide +kernel
theorem d_Co_man_75 : decode bc_Co_man 75 = .ok (.getfield 178, 3) := by decide +kernel
theorem d_Co_man_78 : decode bc_Co_man 78 = .ok (.iload_n 1, 1) := by decide +kernel
theorem d_Co_man_79 : decode bc_Co_man 79 = .ok (.iaload, 1) := by decide +kernel
theorem d_Co_man_80 : decode bc_Co_man 80 = .ok (.ireturn, 1) := by decide +kernel
theorem d_Co_man_81 : decode bc_Co_man 81 = .ok (.aload_n 0, 1) := by decide +kernel
theorem d_Co_man_82 : decode bc_Co_man 82 = .ok (.getfield 35, 3) := by decide +kernel
theorem d_Co_man_85 : decode bc_Co_man 85 = .ok (.getfield 181, 3) := by decide +kernel
theorem d_Co_man_88 : decode bc_Co_man 88 = .ok (.iload_n 1, 1) := by decide +kernel
theorem d_Co_man_89 : decode bc_Co_man 89 = .ok (.iaload, 1) := by decide +kernel
theorem d_Co_man_90 : decode bc_Co_man 90 = .ok (.ireturn, 1) := by decide +kernel
theorem d_Co_man_91 : decode bc_Co_man 91 = .ok (.aload_n 0, 1) := by decide +kernel
theorem d_Co_man_92 : decode bc_Co_man 92 = .ok (.getfield 35, 3) := by decide +kernel
theorem d_Co_man_95 : decode bc_Co_man 95 = .ok (.iload_n 1, 1) := by decide +kernel
theorem d_Co_man_96 : decode bc_Co_man 96 = .ok (.invokevirtual 172, 3) := by decide +kernel
theorem d_Co_man_99 : decode bc_Co_man 99 = .ok (.ifCond .eq 22, 3) := by decide +kernel
theorem d_Co_man_102 : decode bc_Co_man 102 = .ok (.aload_n 0, 1) := by decide +kernel
theorem d_Co_man_103 : decode bc_Co_man 103 = .ok (.getfield 45, 3) := by decide +kernel
theorem d_Co_man_106 : decode bc_Co_man 106 = .ok (.aload_n 0, 1) := by decide +kernel
theorem d_Co_man_107 : decode bc_Co_man 107 = .ok (.getfield 85, 3) := by decide +kernel
theorem d_Co_man_110 : decode bc_Co_man 110 = .ok (.aload_n 0, 1) := by decide +kernel
theorem d_Co_man_111 : decode bc_Co_man 111 = .ok (.getfield 35, 3) := by decide +kernel
theorem d_Co_man_114 : decode bc_Co_man 114 = .ok (.iload_n 1, 1) := by decide +kernel
theorem d_Co_man_115 : decode bc_Co_man 115 = .ok (.invokevirtual 184, 3) := by decide +kernel
theorem d_Co_man_118 : decode bc_Co_man 118 = .ok (.goto 4, 3) := by decide +kernel
theorem d_Co_man_121 : decode bc_Co_man 121 = .ok (.iconst 0, 1) := by decide +kernel
theorem d_Co_man_122 : decode bc_Co_man 122 = .ok (.ireturn, 1) := by decide +kernel
theorem d_Co_man_123 : decode bc_Co_man 123 = .ok (.iconst (-1), 1) := by decide +kernel
theorem d_Co_man_124 : decode bc_Co_man 124 = .ok (.ireturn, 1) := by decide +kernel
set_option maxRecDepth 20000 in
theorem w_Co_man_b0 {X : CX} {V : WV} (hV : IsC V) {z : Int32 × Mem} (hC : Ck X V bc_Co_man 3 "SecretWells" (some .int) 3 73) (x1 : Int32) (x2 : Int32) (S : Mem) (h : f_Co_man_b0  x1 x2 S = some z) : G X V 3 (QI X V z.1 z.2) 0 [some (.ref (V.2.2.1 0 0)), some (.int x1), some (.int x2)] [] S := by
  unfold f_Co_man_b0 at h
  refine g_aload_n (pc := 0) hC (i := 0) (x := (V.2.2.1 0 0)) rfl rfl d_Co_man_0 ?_
  refine g_iload_n (pc := 1) hC (i := 1) (x := x1) rfl rfl d_Co_man_1 ?_
  obtain ⟨q2, hq2, h⟩ := Option.bind_eq_some_iff.mp h
  refine g_vi (pc := 2) hC (As := [.int x1]) (st := []) mt_Co_isMan lk_Co_169 rfl (ob_Co hV) (Nat.le_of_ble_eq_true rfl) ⟨Nat.le_of_ble_eq_true rfl, Nat.le_of_ble_eq_true rfl⟩ rfl d_Co_man_2 (c_Co_isMan hV hq2) ?_
  refine g_if_ne (pc := 5) hC (tgt := 10) (by decide) d_Co_man_5 h (fun h => ?_) (fun h => ?_)
  · refine g_iload_n (pc := 10) hC (i := 2) (x := x2) rfl rfl d_Co_man_10 ?_
    by_cases hs11_0 : x2 = 0
    · rw [if_pos hs11_0] at h
      refine g_table (pc := 11) hC (tgt := 44) d_Co_man_11 rfl (by rw [hs11_0]; decide) ?_
      refine g_aload_n (pc := 44) hC (i := 0) (x := (V.2.2.1 0 0)) rfl rfl d_Co_man_44 ?_
      refine g_getC (pc := 45) hC (j := 4) fo_Co_35 (ob_Co hV) rfl d_Co_man_45 ?_
      refine g_iload_n (pc := 48) hC (i := 1) (x := x1) rfl rfl d_Co_man_48 ?_
      obtain ⟨q49, hq49, h⟩ := Option.bind_eq_some_iff.mp h
      refine g_vi (pc := 49) hC (As := [.int x1]) (st := []) mt_St_isAlive lk_Co_172 rfl (ob_St hV is_4) (Nat.le_of_ble_eq_true rfl) ⟨Nat.le_of_ble_eq_true rfl, Nat.le_of_ble_eq_true rfl⟩ rfl d_Co_man_49 (c_St_isAlive hV is_4 hq49) ?_
      refine g_if_eq (pc := 52) hC (tgt := 59) (by decide) d_Co_man_52 h (fun h => ?_) (fun h => ?_)
      · refine g_iconst (pc := 59) hC kc_0 d_Co_man_59 ?_
        exact g_iW (pc := 60) hC rfl d_Co_man_60 h
      · refine g_iconst (pc := 55) hC kc_1 d_Co_man_55 ?_
        refine g_goto (pc := 56) hC (tgt := 60) (by decide) d_Co_man_56 ?_
        exact g_iW (pc := 60) hC rfl d_Co_man_60 h
    rw [if_neg hs11_0] at h
    by_cases hs11_1 : x2 = 1
    · rw [if_pos hs11_1] at h
      refine g_table (pc := 11) hC (tgt := 61) d_Co_man_11 rfl (by rw [hs11_1]; decide) ?_
      refine g_aload_n (pc := 61) hC (i := 0) (x := (V.2.2.1 0 0)) rfl rfl d_Co_man_61 ?_
      refine g_getC (pc := 62) hC (j := 4) fo_Co_35 (ob_Co hV) rfl d_Co_man_62 ?_
      refine g_getA (pc := 65) hC fo_Co_175 (ob_St hV is_4) rfl d_Co_man_65 ?_
      refine g_iload_n (pc := 68) hC (i := 1) (x := x1) rfl rfl d_Co_man_68 ?_
      refine g_iald (pc := 69) hC (ar_St_5 hV is_4) d_Co_man_69 h (fun h => ?_)
      exact g_iW (pc := 70) hC rfl d_Co_man_70 h
    rw [if_neg hs11_1] at h
    by_cases hs11_2 : x2 = 2
    · rw [if_pos hs11_2] at h
      refine g_table (pc := 11) hC (tgt := 71) d_Co_man_11 rfl (by rw [hs11_2]; decide) ?_
      refine g_aload_n (pc := 71) hC (i := 0) (x := (V.2.2.1 0 0)) rfl rfl d_Co_man_71 ?_
      refine g_getC (pc := 72) hC (j := 4) fo_Co_35 (ob_Co hV) rfl d_Co_man_72 ?_
      refine g_getA (pc := 75) hC fo_Co_178 (ob_St hV is_4) rfl d_Co_man_75 ?_
      refine g_iload_n (pc := 78) hC (i := 1) (x := x1) rfl rfl d_Co_man_78 ?_
      refine g_iald (pc := 79) hC (ar_St_6 hV is_4) d_Co_man_79 h (fun h => ?_)
      exact g_iW (pc := 80) hC rfl d_Co_man_80 h
    rw [if_neg hs11_2] at h
    by_cases hs11_3 : x2 = 3
    · rw [if_pos hs11_3] at h
      refine g_table (pc := 11) hC (tgt := 81) d_Co_man_11 rfl (by rw [hs11_3]; decide) ?_
      refine g_aload_n (pc := 81) hC (i := 0) (x := (V.2.2.1 0 0)) rfl rfl d_Co_man_81 ?_
      refine g_getC (pc := 82) hC (j := 4) fo_Co_35 (ob_Co hV) rfl d_Co_man_82 ?_
      refine g_getA (pc := 85) hC fo_Co_181 (ob_St hV is_4) rfl d_Co_man_85 ?_
      refine g_iload_n (pc := 88) hC (i := 1) (x := x1) rfl rfl d_Co_man_88 ?_
      refine g_iald (pc := 89) hC (ar_St_7 hV is_4) d_Co_man_89 h (fun h => ?_)
      exact g_iW (pc := 90) hC rfl d_Co_man_90 h
    rw [if_neg hs11_3] at h
    by_cases hs11_4 : x2 = 4
    · rw [if_pos hs11_4] at h
      refine g_table (pc := 11) hC (tgt := 91) d_Co_man_11 rfl (by rw [hs11_4]; decide) ?_
      refine g_aload_n (pc := 91) hC (i := 0) (x := (V.2.2.1 0 0)) rfl rfl d_Co_man_91 ?_
      refine g_getC (pc := 92) hC (j := 4) fo_Co_35 (ob_Co hV) rfl d_Co_man_92 ?_
      refine g_iload_n (pc := 95) hC (i := 1) (x := x1) rfl rfl d_Co_man_95 ?_
      obtain ⟨q96, hq96, h⟩ := Option.bind_eq_some_iff.mp h
      refine g_vi (pc := 96) hC (As := [.int x1]) (st := []) mt_St_isAlive lk_Co_172 rfl (ob_St hV is_4) (Nat.le_of_ble_eq_true rfl) ⟨Nat.le_of_ble_eq_true rfl, Nat.le_of_ble_eq_true rfl⟩ rfl d_Co_man_96 (c_St_isAlive hV is_4 hq96) ?_
      refine g_if_eq (pc := 99) hC (tgt := 121) (by decide) d_Co_man_99 h (fun h => ?_) (fun h => ?_)
      · refine g_iconst (pc := 121) hC kc_0 d_Co_man_121 ?_
        exact g_iW (pc := 122) hC rfl d_Co_man_122 h
      · refine g_aload_n (pc := 102) hC (i := 0) (x := (V.2.2.1 0 0)) rfl rfl d_Co_man_102 ?_
        refine g_getC (pc := 103) hC (j := 6) fo_Co_45 (ob_Co hV) rfl d_Co_man_103 ?_
        refine g_aload_n (pc := 106) hC (i := 0) (x := (V.2.2.1 0 0)) rfl rfl d_Co_man_106 ?_
        refine g_getM (pc := 107) hC fo_Co_85 (ob_Co hV) rfl d_Co_man_107 ?_
        obtain ⟨ht107, h⟩ := gTx_some h
        refine g_aload_n (pc := 110) hC (i := 0) (x := (V.2.2.1 0 0)) rfl rfl d_Co_man_110 ?_
        refine g_getC (pc := 111) hC (j := 4) fo_Co_35 (ob_Co hV) rfl d_Co_man_111 ?_
        refine g_iload_n (pc := 114) hC (i := 1) (x := x1) rfl rfl d_Co_man_114 ?_
        obtain ⟨q115, hq115, h⟩ := Option.bind_eq_some_iff.mp h
        refine g_vi (pc := 115) hC (As := [.ref (V.2.2.1 ((S.1 0 11).toNatClampNeg) 0), .ref (V.2.2.1 4 0), .int x1]) (st := []) mt_Dy_drinksNow lk_Co_184 rfl (ob_Dy hV) (Nat.le_of_ble_eq_true rfl) ⟨Nat.le_of_ble_eq_true rfl, Nat.le_of_ble_eq_true rfl⟩ rfl d_Co_man_115 (c_Dy_drinksNow hV ht107 is_4 hq115) ?_
        refine g_goto (pc := 118) hC (tgt := 122) (by decide) d_Co_man_118 ?_
        exact g_iW (pc := 122) hC rfl d_Co_man_122 h
    rw [if_neg hs11_4] at h
    refine g_table (pc := 11) hC (tgt := 123) d_Co_man_11 rfl ((sw_else [(0 : Int32), (1 : Int32), (2 : Int32), (3 : Int32), (4 : Int32)] (by intro v hv; simp only [List.mem_cons, List.not_mem_nil, or_false] at hv; rcases hv with rfl | rfl | rfl | rfl | rfl <;> assumption) (by decide)).trans (by decide)) ?_
    refine g_iconst (pc := 123) hC kc_m1 d_Co_man_123 ?_
    exact g_iW (pc := 124) hC rfl d_Co_man_124 h
  · refine g_iconst (pc := 8) hC kc_m1 d_Co_man_8 ?_
    exact g_iW (pc := 9) hC rfl d_Co_man_9 h
theorem c_Co_man {V : WV} {l : Launch} (hV : IsC V) {x1 : Int32} {x2 : Int32} {S : Mem} {z : Int32 × Mem} (h : f_Co_man x1 x2 S = some z) : CI V l y_Co_man bc_Co_man 3 (some .int) 3 73 [.ref (V.2.2.1 0 0), .int x1, .int x2] S z.1 z.2 :=
  ct_i rfl (IsC.ok hV) (Nat.le_of_ble_eq_true rfl) (fun _ _ hC => w_Co_man_b0 hV hC x1 x2 S h)
def f_Co_isSecret_b0 (S : Mem) (x1 : Int32) : Option (Int32) :=
  if x1 < 0 then
    some 0
  else
    gTx (S.1 0 11) (
    if (S.1 ((S.1 0 11).toNatClampNeg) 2) ≤ x1 then
      some 0
    else
      some 1)
def f_Co_isSecret (x1 : Int32) (S : Mem) : Option (Int32) := f_Co_isSecret_b0 S x1
theorem d_Co_isSecret_0 : decode bc_Co_isSecret 0 = .ok (.iload_n 1, 1) := by decide +kernel
theorem d_Co_isSecret_1 : decode bc_Co_isSecret 1 = .ok (.ifCond .lt 18, 3) := by decide +kernel
theorem d_Co_isSecret_4 : decode bc_Co_isSecret 4 = .ok (.iload_n 1, 1) := by decide +kernel
theorem d_Co_isSecret_5 : decode bc_Co_isSecret 5 = .ok (.aload_n 0, 1) := by decide +kernel
theorem d_Co_isSecret_6 : decode bc_Co_isSecret 6 = .ok (.getfield 85, 3) := by decide +kernel
theorem d_Co_isSecret_9 : decode bc_Co_isSecret 9 = .ok (.getfield 227, 3) := by decide +kernel
theorem d_Co_isSecret_12 : decode bc_Co_isSecret 12 = .ok (.if_icmp .ge 7, 3) := by decide +kernel
theorem d_Co_isSecret_15 : decode bc_Co_isSecret 15 = .ok (.iconst 1, 1) := by decide +kernel
theorem d_Co_isSecret_16 : decode bc_Co_isSecret 16 = .ok (.goto 4, 3) := by decide +kernel
theorem d_Co_isSecret_19 : decode bc_Co_isSecret 19 = .ok (.iconst 0, 1) := by decide +kernel
theorem d_Co_isSecret_20 : decode bc_Co_isSecret 20 = .ok (.ireturn, 1) := by decide +kernel
set_option maxRecDepth 20000 in
theorem w_Co_isSecret_b0 {X : CX} {V : WV} (hV : IsC V) {S : Mem} {z : Int32} (hC : Ck X V bc_Co_isSecret 2 "SecretWells" (some .boolean) 0 0) (x1 : Int32) (h : f_Co_isSecret_b0 S x1 = some z) : G X V 2 (QI X V z S) 0 [some (.ref (V.2.2.1 0 0)), some (.int x1)] [] S := by
  unfold f_Co_isSecret_b0 at h
  refine g_iload_n (pc := 0) hC (i := 1) (x := x1) rfl rfl d_Co_isSecret_0 ?_
  refine g_if_lt (pc := 1) hC (tgt := 19) (by decide) d_Co_isSecret_1 h (fun h => ?_) (fun h => ?_)
  · refine g_iconst (pc := 19) hC kc_0 d_Co_isSecret_19 ?_
    exact g_iN (pc := 20) hC rfl d_Co_isSecret_20 h
  · refine g_iload_n (pc := 4) hC (i := 1) (x := x1) rfl rfl d_Co_isSecret_4 ?_
    refine g_aload_n (pc := 5) hC (i := 0) (x := (V.2.2.1 0 0)) rfl rfl d_Co_isSecret_5 ?_
    refine g_getM (pc := 6) hC fo_Co_85 (ob_Co hV) rfl d_Co_isSecret_6 ?_
    obtain ⟨ht6, h⟩ := gTx_some h
    refine g_getI (pc := 9) hC fo_Co_227 (ob_Tx hV ht6) rfl d_Co_isSecret_9 ?_
    refine g_icmp_ge (pc := 12) hC (tgt := 19) (by decide) d_Co_isSecret_12 h (fun h => ?_) (fun h => ?_)
    · refine g_iconst (pc := 19) hC kc_0 d_Co_isSecret_19 ?_
      exact g_iN (pc := 20) hC rfl d_Co_isSecret_20 h
    · refine g_iconst (pc := 15) hC kc_1 d_Co_isSecret_15 ?_
      refine g_goto (pc := 16) hC (tgt := 20) (by decide) d_Co_isSecret_16 ?_
      exact g_iN (pc := 20) hC rfl d_Co_isSecret_20 h
theorem c_Co_isSecret {V : WV} {l : Launch} (hV : IsC V) {x1 : Int32} {S : Mem} {z : Int32} (h : f_Co_isSecret x1 S = some z) : CI V l y_Co_isSecret bc_Co_isSecret 2 (some .boolean) 0 0 [.ref (V.2.2.1 0 0), .int x1] S z S :=
  ct_i rfl (IsC.ok hV) (Nat.le_of_ble_eq_true rfl) (fun _ _ hC => w_Co_isSecret_b0 hV hC x1 h)
def f_Co_secret_b0 (S : Mem) (x1 : Int32) (x2 : Int32) : Option (Int32) :=
  Option.bind (f_Co_isSecret x1 S) (fun q2 =>
  if q2 = 0 then
    some (-1)
  else
    gTx (S.1 0 11) (
    Option.bind (f_St_knowers 4 ((S.1 0 11).toNatClampNeg) x1 S) (fun q19 =>
    if x2 = 0 then
      some q19
    else if x2 = 1 then
      Option.bind (f_JInt_bitCount (q19 &&& (S.1 4 1))) (fun q67 =>
      some q67)
    else if x2 = 2 then
      gIn x1 8 (
      some (S.2.1 4 8 x1.toNatClampNeg))
    else if x2 = 3 then
      gIn x1 8 (
      if (S.2.1 4 8 x1.toNatClampNeg) = (-2) then
        some 0
      else
        gIn x1 8 (
        some (S.2.1 4 12 x1.toNatClampNeg)))
    else 
      some (-1))))
def f_Co_secret (x1 : Int32) (x2 : Int32) (S : Mem) : Option (Int32) := f_Co_secret_b0 S x1 x2
theorem d_Co_secret_0 : decode bc_Co_secret 0 = .ok (.aload_n 0, 1) := by decide +kernel
theorem d_Co_secret_1 : decode bc_Co_secret 1 = .ok (.iload_n 1, 1) := by decide +kernel
theorem d_Co_secret_2 : decode bc_Co_secret 2 = .ok (.invokevirtual 187, 3) := by decide +kernel
theorem d_Co_secret_5 : decode bc_Co_secret 5 = .ok (.ifCond .ne 5, 3) := by decide +kernel
theorem d_Co_secret_8 : decode bc_Co_secret 8 = .ok (.iconst (-1), 1) := by decide +kernel
theorem d_Co_secret_9 : decode bc_Co_secret 9 = .ok (.ireturn, 1) := by decide +kernel
theorem d_Co_secret_10 : decode bc_Co_secret 10 = .ok (.aload_n 0, 1) := by decide +kernel
theorem d_Co_secret_11 : decode bc_Co_secret 11 = .ok (.getfield 35, 3) := by decide +kernel
theorem d_Co_secret_14 : decode bc_Co_secret 14 = .ok (.aload_n 0, 1) := by decide +kernel
theorem d_Co_secret_15 : decode bc_Co_secret 15 = .ok (.getfield 85, 3) := by decide +kernel
theorem d_Co_secret_18 : decode bc_Co_secret 18 = .ok (.iload_n 1, 1) := by decide +kernel
theorem d_Co_secret_19 : decode bc_Co_secret 19 = .ok (.invokevirtual 190, 3) := by decide +kernel
theorem d_Co_secret_22 : decode bc_Co_secret 22 = .ok (.istore_n 3, 1) := by decide +kernel
theorem d_Co_secret_23 : decode bc_Co_secret 23 = .ok (.iload_n 2, 1) := by decide +kernel
theorem d_Co_secret_24 : decode bc_Co_secret 24 = .ok (.tableswitch 85 0 3 #[32, 34, 47, 57], 32) := by decide +kernel
theorem d_Co_secret_56 : decode bc_Co_secret 56 = .ok (.iload_n 3, 1) := by decide +kernel
theorem d_Co_secret_57 : decode bc_Co_secret 57 = .ok (.ireturn, 1) := by decide +kernel
theorem d_Co_secret_58 : decode bc_Co_secret 58 = .ok (.iload_n 3, 1) := by decide +kernel
theorem d_Co_secret_59 : decode bc_Co_secret 59 = .ok (.aload_n 0, 1) := by decide +kernel
theorem d_Co_secret_60 : decode bc_Co_secret 60 = .ok (.getfield 35, 3) := by decide +kernel
theorem d_Co_secret_63 : decode bc_Co_secret 63 = .ok (.getfield 193, 3) := by decide +kernel
theorem d_Co_secret_66 : decode bc_Co_secret 66 = .ok (.iand, 1) := by decide +kernel
theorem d_Co_secret_67 : decode bc_Co_secret 67 = .ok (.invokestatic 196, 3) := by decide +kernel
theorem d_Co_secret_70 : decode bc_Co_secret 70 = .ok (.ireturn, 1) := by decide +kernel
theorem d_Co_secret_71 : decode bc_Co_secret 71 = .ok (.aload_n 0, 1) := by decide +kernel
theorem d_Co_secret_72 : decode bc_Co_secret 72 = .ok (.getfield 35, 3) := by decide +kernel
theorem d_Co_secret_75 : decode bc_Co_secret 75 = .ok (.getfield 202, 3) := by decide +kernel
theorem d_Co_secret_78 : decode bc_Co_secret 78 = .ok (.iload_n 1, 1) := by decide +kernel
theorem d_Co_secret_79 : decode bc_Co_secret 79 = .ok (.iaload, 1) := by decide +kernel
theorem d_Co_secret_80 : decode bc_Co_secret 80 = .ok (.ireturn, 1) := by decide +kernel
theorem d_Co_secret_81 : decode bc_Co_secret 81 = .ok (.aload_n 0, 1) := by decide +kernel
theorem d_Co_secret_82 : decode bc_Co_secret 82 = .ok (.getfield 35, 3) := by decide +kernel
theorem d_Co_secret_85 : decode bc_Co_secret 85 = .ok (.getfield 202, 3) := by decide +kernel
theorem d_Co_secret_88 : decode bc_Co_secret 88 = .ok (.iload_n 1, 1) := by decide +kernel
theorem d_Co_secret_89 : decode bc_Co_secret 89 = .ok (.iaload, 1) := by decide +kernel
theorem d_Co_secret_90 : decode bc_Co_secret 90 = .ok (.bipush (-2), 2) := by decide +kernel
theorem d_Co_secret_92 : decode bc_Co_secret 92 = .ok (.if_icmp .ne 7, 3) := by decide +kernel
theorem d_Co_secret_95 : decode bc_Co_secret 95 = .ok (.iconst 0, 1) := by decide +kernel
theorem d_Co_secret_96 : decode bc_Co_secret 96 = .ok (.goto 12, 3) := by decide +kernel
theorem d_Co_secret_99 : decode bc_Co_secret 99 = .ok (.aload_n 0, 1) := by decide +kernel
theorem d_Co_secret_100 : decode bc_Co_secret 100 = .ok (.getfield 35, 3) := by decide +kernel
theorem d_Co_secret_103 : decode bc_Co_secret 103 = .ok (.getfield 205, 3) := by decide +kernel
theorem d_Co_secret_106 : decode bc_Co_secret 106 = .ok (.iload_n 1, 1) := by decide +kernel
theorem d_Co_secret_107 : decode bc_Co_secret 107 = .ok (.iaload, 1) := by decide +kernel
theorem d_Co_secret_108 : decode bc_Co_secret 108 = .ok (.ireturn, 1) := by decide +kernel
theorem d_Co_secret_109 : decode bc_Co_secret 109 = .ok (.iconst (-1), 1) := by decide +kernel
theorem d_Co_secret_110 : decode bc_Co_secret 110 = .ok (.ireturn, 1) := by decide +kernel
set_option maxRecDepth 20000 in
theorem w_Co_secret_b0 {X : CX} {V : WV} (hV : IsC V) {S : Mem} {z : Int32} (hC : Ck X V bc_Co_secret 4 "SecretWells" (some .int) 1 24) (x1 : Int32) (x2 : Int32) (h : f_Co_secret_b0 S x1 x2 = some z) : G X V 4 (QI X V z S) 0 [some (.ref (V.2.2.1 0 0)), some (.int x1), some (.int x2), none] [] S := by
  unfold f_Co_secret_b0 at h
  refine g_aload_n (pc := 0) hC (i := 0) (x := (V.2.2.1 0 0)) rfl rfl d_Co_secret_0 ?_
  refine g_iload_n (pc := 1) hC (i := 1) (x := x1) rfl rfl d_Co_secret_1 ?_
  obtain ⟨q2, hq2, h⟩ := Option.bind_eq_some_iff.mp h
  refine g_vi (pc := 2) hC (As := [.int x1]) (st := []) mt_Co_isSecret lk_Co_187 rfl (ob_Co hV) (Nat.le_of_ble_eq_true rfl) ⟨Nat.le_of_ble_eq_true rfl, Nat.le_of_ble_eq_true rfl⟩ rfl d_Co_secret_2 (c_Co_isSecret hV hq2) ?_
  refine g_if_ne (pc := 5) hC (tgt := 10) (by decide) d_Co_secret_5 h (fun h => ?_) (fun h => ?_)
  · refine g_aload_n (pc := 10) hC (i := 0) (x := (V.2.2.1 0 0)) rfl rfl d_Co_secret_10 ?_
    refine g_getC (pc := 11) hC (j := 4) fo_Co_35 (ob_Co hV) rfl d_Co_secret_11 ?_
    refine g_aload_n (pc := 14) hC (i := 0) (x := (V.2.2.1 0 0)) rfl rfl d_Co_secret_14 ?_
    refine g_getM (pc := 15) hC fo_Co_85 (ob_Co hV) rfl d_Co_secret_15 ?_
    obtain ⟨ht15, h⟩ := gTx_some h
    refine g_iload_n (pc := 18) hC (i := 1) (x := x1) rfl rfl d_Co_secret_18 ?_
    obtain ⟨q19, hq19, h⟩ := Option.bind_eq_some_iff.mp h
    refine g_vi (pc := 19) hC (As := [.ref (V.2.2.1 ((S.1 0 11).toNatClampNeg) 0), .int x1]) (st := []) mt_St_knowers lk_Co_190 rfl (ob_St hV is_4) (Nat.le_of_ble_eq_true rfl) ⟨Nat.le_of_ble_eq_true rfl, Nat.le_of_ble_eq_true rfl⟩ rfl d_Co_secret_19 (c_St_knowers hV is_4 ht15 hq19) ?_
    refine s_istore_n (pc := 22) hC (i := 3) rfl (by decide) d_Co_secret_22 (lv2 := [some (.ref (V.2.2.1 0 0)), some (.int x1), some (.int x2), some (.int q19)]) rfl ?_
    refine g_iload_n (pc := 23) hC (i := 2) (x := x2) rfl rfl d_Co_secret_23 ?_
    by_cases hs24_0 : x2 = 0
    · rw [if_pos hs24_0] at h
      refine g_table (pc := 24) hC (tgt := 56) d_Co_secret_24 rfl (by rw [hs24_0]; decide) ?_
      refine g_iload_n (pc := 56) hC (i := 3) (x := q19) rfl rfl d_Co_secret_56 ?_
      exact g_iN (pc := 57) hC rfl d_Co_secret_57 h
    rw [if_neg hs24_0] at h
    by_cases hs24_1 : x2 = 1
    · rw [if_pos hs24_1] at h
      refine g_table (pc := 24) hC (tgt := 58) d_Co_secret_24 rfl (by rw [hs24_1]; decide) ?_
      refine g_iload_n (pc := 58) hC (i := 3) (x := q19) rfl rfl d_Co_secret_58 ?_
      refine g_aload_n (pc := 59) hC (i := 0) (x := (V.2.2.1 0 0)) rfl rfl d_Co_secret_59 ?_
      refine g_getC (pc := 60) hC (j := 4) fo_Co_35 (ob_Co hV) rfl d_Co_secret_60 ?_
      refine g_getI (pc := 63) hC fo_Co_193 (ob_St hV is_4) rfl d_Co_secret_63 ?_
      refine g_iand (pc := 66) hC d_Co_secret_66 ?_
      obtain ⟨q67, hq67, h⟩ := Option.bind_eq_some_iff.mp h
      refine g_si (pc := 67) hC (As := [.int (q19 &&& (S.1 4 1))]) (st := []) mt_JInt_bitCount lk_Co_196 (Nat.le_of_ble_eq_true rfl) ⟨Nat.le_of_ble_eq_true rfl, Nat.le_of_ble_eq_true rfl⟩ rfl d_Co_secret_67 (c_JInt_bitCount (IsC.ok hV) hq67) ?_
      exact g_iN (pc := 70) hC rfl d_Co_secret_70 h
    rw [if_neg hs24_1] at h
    by_cases hs24_2 : x2 = 2
    · rw [if_pos hs24_2] at h
      refine g_table (pc := 24) hC (tgt := 71) d_Co_secret_24 rfl (by rw [hs24_2]; decide) ?_
      refine g_aload_n (pc := 71) hC (i := 0) (x := (V.2.2.1 0 0)) rfl rfl d_Co_secret_71 ?_
      refine g_getC (pc := 72) hC (j := 4) fo_Co_35 (ob_Co hV) rfl d_Co_secret_72 ?_
      refine g_getA (pc := 75) hC fo_Co_202 (ob_St hV is_4) rfl d_Co_secret_75 ?_
      refine g_iload_n (pc := 78) hC (i := 1) (x := x1) rfl rfl d_Co_secret_78 ?_
      refine g_iald (pc := 79) hC (ar_St_8 hV is_4) d_Co_secret_79 h (fun h => ?_)
      exact g_iN (pc := 80) hC rfl d_Co_secret_80 h
    rw [if_neg hs24_2] at h
    by_cases hs24_3 : x2 = 3
    · rw [if_pos hs24_3] at h
      refine g_table (pc := 24) hC (tgt := 81) d_Co_secret_24 rfl (by rw [hs24_3]; decide) ?_
      refine g_aload_n (pc := 81) hC (i := 0) (x := (V.2.2.1 0 0)) rfl rfl d_Co_secret_81 ?_
      refine g_getC (pc := 82) hC (j := 4) fo_Co_35 (ob_Co hV) rfl d_Co_secret_82 ?_
      refine g_getA (pc := 85) hC fo_Co_202 (ob_St hV is_4) rfl d_Co_secret_85 ?_
      refine g_iload_n (pc := 88) hC (i := 1) (x := x1) rfl rfl d_Co_secret_88 ?_
      refine g_iald (pc := 89) hC (ar_St_8 hV is_4) d_Co_secret_89 h (fun h => ?_)
      refine g_bipush (pc := 90) hC kb_m2 d_Co_secret_90 ?_
      refine g_icmp_ne (pc := 92) hC (tgt := 99) (by decide) d_Co_secret_92 h (fun h => ?_) (fun h => ?_)
      · refine g_aload_n (pc := 99) hC (i := 0) (x := (V.2.2.1 0 0)) rfl rfl d_Co_secret_99 ?_
        refine g_getC (pc := 100) hC (j := 4) fo_Co_35 (ob_Co hV) rfl d_Co_secret_100 ?_
        refine g_getA (pc := 103) hC fo_Co_205 (ob_St hV is_4) rfl d_Co_secret_103 ?_
        refine g_iload_n (pc := 106) hC (i := 1) (x := x1) rfl rfl d_Co_secret_106 ?_
        refine g_iald (pc := 107) hC (ar_St_12 hV is_4) d_Co_secret_107 h (fun h => ?_)
        exact g_iN (pc := 108) hC rfl d_Co_secret_108 h
      · refine g_iconst (pc := 95) hC kc_0 d_Co_secret_95 ?_
        refine g_goto (pc := 96) hC (tgt := 108) (by decide) d_Co_secret_96 ?_
        exact g_iN (pc := 108) hC rfl d_Co_secret_108 h
    rw [if_neg hs24_3] at h
    refine g_table (pc := 24) hC (tgt := 109) d_Co_secret_24 rfl ((sw_else [(0 : Int32), (1 : Int32), (2 : Int32), (3 : Int32)] (by intro v hv; simp only [List.mem_cons, List.not_mem_nil, or_false] at hv; rcases hv with rfl | rfl | rfl | rfl <;> assumption) (by decide)).trans (by decide)) ?_
    refine g_iconst (pc := 109) hC kc_m1 d_Co_secret_109 ?_
    exact g_iN (pc := 110) hC rfl d_Co_secret_110 h
  · refine g_iconst (pc := 8) hC kc_m1 d_Co_secret_8 ?_
    exact g_iN (pc := 9) hC rfl d_Co_secret_9 h
theorem c_Co_secret {V : WV} {l : Launch} (hV : IsC V) {x1 : Int32} {x2 : Int32} {S : Mem} {z : Int32} (h : f_Co_secret x1 x2 S = some z) : CI V l y_Co_secret bc_Co_secret 4 (some .int) 1 24 [.ref (V.2.2.1 0 0), .int x1, .int x2] S z S :=
  ct_i rfl (IsC.ok hV) (Nat.le_of_ble_eq_true rfl) (fun _ _ hC => w_Co_secret_b0 hV hC x1 x2 h)
def f_Co_isTie_b0 (S : Mem) (x1 : Int32) : Option (Int32) :=
  if x1 < 0 then
    some 0
  else
    gTx (S.1 0 11) (
    if (S.1 ((S.1 0 11).toNatClampNeg) 3) ≤ x1 then
      some 0
    else
      some 1)
def f_Co_isTie (x1 : Int32) (S : Mem) : Option (Int32) := f_Co_isTie_b0 S x1
theorem d_Co_isTie_0 : decode bc_Co_isTie 0 = .ok (.iload_n 1, 1) := by decide +kernel
theorem d_Co_isTie_1 : decode bc_Co_isTie 1 = .ok (.ifCond .lt 18, 3) := by decide +kernel
theorem d_Co_isTie_4 : decode bc_Co_isTie 4 = .ok (.iload_n 1, 1) := by decide +kernel
theorem d_Co_isTie_5 : decode bc_Co_isTie 5 = .ok (.aload_n 0, 1) := by decide +kernel
theorem d_Co_isTie_6 : decode bc_Co_isTie 6 = .ok (.getfield 85, 3) := by decide +kernel
theorem d_Co_isTie_9 : decode bc_Co_isTie 9 = .ok (.getfield 230, 3) := by decide +kernel
theorem d_Co_isTie_12 : decode bc_Co_isTie 12 = .ok (.if_icmp .ge 7, 3) := by decide +kernel
theorem d_Co_isTie_15 : decode bc_Co_isTie 15 = .ok (.iconst 1, 1) := by decide +kernel
theorem d_Co_isTie_16 : decode bc_Co_isTie 16 = .ok (.goto 4, 3) := by decide +kernel
theorem d_Co_isTie_19 : decode bc_Co_isTie 19 = .ok (.iconst 0, 1) := by decide +kernel
theorem d_Co_isTie_20 : decode bc_Co_isTie 20 = .ok (.ireturn, 1) := by decide +kernel
set_option maxRecDepth 20000 in
theorem w_Co_isTie_b0 {X : CX} {V : WV} (hV : IsC V) {S : Mem} {z : Int32} (hC : Ck X V bc_Co_isTie 2 "SecretWells" (some .boolean) 0 0) (x1 : Int32) (h : f_Co_isTie_b0 S x1 = some z) : G X V 2 (QI X V z S) 0 [some (.ref (V.2.2.1 0 0)), some (.int x1)] [] S := by
  unfold f_Co_isTie_b0 at h
  refine g_iload_n (pc := 0) hC (i := 1) (x := x1) rfl rfl d_Co_isTie_0 ?_
  refine g_if_lt (pc := 1) hC (tgt := 19) (by decide) d_Co_isTie_1 h (fun h => ?_) (fun h => ?_)
  · refine g_iconst (pc := 19) hC kc_0 d_Co_isTie_19 ?_
    exact g_iN (pc := 20) hC rfl d_Co_isTie_20 h
  · refine g_iload_n (pc := 4) hC (i := 1) (x := x1) rfl rfl d_Co_isTie_4 ?_
    refine g_aload_n (pc := 5) hC (i := 0) (x := (V.2.2.1 0 0)) rfl rfl d_Co_isTie_5 ?_
    refine g_getM (pc := 6) hC fo_Co_85 (ob_Co hV) rfl d_Co_isTie_6 ?_
    obtain ⟨ht6, h⟩ := gTx_some h
    refine g_getI (pc := 9) hC fo_Co_230 (ob_Tx hV ht6) rfl d_Co_isTie_9 ?_
    refine g_icmp_ge (pc := 12) hC (tgt := 19) (by decide) d_Co_isTie_12 h (fun h => ?_) (fun h => ?_)
    · refine g_iconst (pc := 19) hC kc_0 d_Co_isTie_19 ?_
      exact g_iN (pc := 20) hC rfl d_Co_isTie_20 h
    · refine g_iconst (pc := 15) hC kc_1 d_Co_isTie_15 ?_
      refine g_goto (pc := 16) hC (tgt := 20) (by decide) d_Co_isTie_16 ?_
      exact g_iN (pc := 20) hC rfl d_Co_isTie_20 h
theorem c_Co_isTie {V : WV} {l : Launch} (hV : IsC V) {x1 : Int32} {S : Mem} {z : Int32} (h : f_Co_isTie x1 S = some z) : CI V l y_Co_isTie bc_Co_isTie 2 (some .boolean) 0 0 [.ref (V.2.2.1 0 0), .int x1] S z S :=
  ct_i rfl (IsC.ok hV) (Nat.le_of_ble_eq_true rfl) (fun _ _ hC => w_Co_isTie_b0 hV hC x1 h)
def f_Co_tells_b0 (x1 : Int32) (x2 : Int32) (S : Mem) : Option (Int32 × Mem) :=
  Option.bind (f_Co_isTie x1 S) (fun q2 =>
  if q2 = 0 then
    some ((-1), S)
  else
    Option.bind (f_Co_isSecret x2 S) (fun q10 =>
    if q10 = 0 then
      some ((-1), S)
    else
      gTx (S.1 0 11) (
      gIn x1 12 (
      Option.bind (f_St_isAlive 4 (S.2.1 ((S.1 0 11).toNatClampNeg) 15 x1.toNatClampNeg) S) (fun q31 =>
      if q31 = 0 then
        some ((-2), S)
      else
        gTx (S.1 0 11) (
        gIn x1 12 (
        Option.bind (f_St_isAlive 4 (S.2.1 ((S.1 0 11).toNatClampNeg) 16 x1.toNatClampNeg) S) (fun q50 =>
        if q50 = 0 then
          some ((-2), S)
        else
          gTx (S.1 0 11) (
          Option.bind (f_Dy_tellsNow ((S.1 0 11).toNatClampNeg) 4 x1 x2 S) (fun q73 =>
          some (q73.1, q73.2)))))))))))
def f_Co_tells (x1 : Int32) (x2 : Int32) (S : Mem) : Option (Int32 × Mem) := f_Co_tells_b0  x1 x2 S
theorem d_Co_tells_0 : decode bc_Co_tells 0 = .ok (.aload_n 0, 1) := by decide +kernel
theorem d_Co_tells_1 : decode bc_Co_tells 1 = .ok (.iload_n 1, 1) := by decide +kernel
theorem d_Co_tells_2 : decode bc_Co_tells 2 = .ok (.invokevirtual 208, 3) := by decide +kernel
theorem d_Co_tells_5 : decode bc_Co_tells 5 = .ok (.ifCond .eq 11, 3) := by decide +kernel
theorem d_Co_tells_8 : decode bc_Co_tells 8 = .ok (.aload_n 0, 1) := by decide +kernel
theorem d_Co_tells_9 : decode bc_Co_tells 9 = .ok (.iload_n 2, 1) := by decide +kernel
theorem d_Co_tells_10 : decode bc_Co_tells 10 = .ok (.invokevirtual 187, 3) := by decide +kernel
theorem d_Co_tells_13 : decode bc_Co_tells 13 = .ok (.ifCond .ne 5, 3) := by decide +kernel
theorem d_Co_tells_16 : decode bc_Co_tells 16 = .ok (.iconst (-1), 1) := by decide +kernel
theorem d_Co_tells_17 : decode bc_Co_tells 17 = .ok (.ireturn, 1) := by decide +kernel
theorem d_Co_tells_18 : decode bc_Co_tells 18 = .ok (.aload_n 0, 1) := by decide +kernel
theorem d_Co_tells_19 : decode bc_Co_tells 19 = .ok (.getfield 35, 3) := by decide +kernel
theorem d_Co_tells_22 : decode bc_Co_tells 22 = .ok (.aload_n 0, 1) := by decide +kernel
theorem d_Co_tells_23 : decode bc_Co_tells 23 = .ok (.getfield 85, 3) := by decide +kernel
theorem d_Co_tells_26 : decode bc_Co_tells 26 = .ok (.getfield 211, 3) := by decide +kernel
theorem d_Co_tells_29 : decode bc_Co_tells 29 = .ok (.iload_n 1, 1) := by decide +kernel
theorem d_Co_tells_30 : decode bc_Co_tells 30 = .ok (.iaload, 1) := by decide +kernel
theorem d_Co_tells_31 : decode bc_Co_tells 31 = .ok (.invokevirtual 172, 3) := by decide +kernel
theorem d_Co_tells_34 : decode bc_Co_tells 34 = .ok (.ifCond .eq 22, 3) := by decide +kernel
theorem d_Co_tells_37 : decode bc_Co_tells 37 = .ok (.aload_n 0, 1) := by decide +kernel
theorem d_Co_tells_38 : decode bc_Co_tells 38 = .ok (.getfield 35, 3) := by decide +kernel
theorem d_Co_tells_41 : decode bc_Co_tells 41 = .ok (.aload_n 0, 1) := by decide +kernel
theorem d_Co_tells_42 : decode bc_Co_tells 42 = .ok (.getfield 85, 3) := by decide +kernel
theorem d_Co_tells_45 : decode bc_Co_tells 45 = .ok (.getfield 214, 3) := by decide +kernel
theorem d_Co_tells_48 : decode bc_Co_tells 48 = .ok (.iload_n 1, 1) := by decide +kernel
theorem d_Co_tells_49 : decode bc_Co_tells 49 = .ok (.iaload, 1) := by decide +kernel
theorem d_Co_tells_50 : decode bc_Co_tells 50 = .ok (.invokevirtual 172, 3) := by decide +kernel
theorem d_Co_tells_53 : decode bc_Co_tells 53 = .ok (.ifCond .ne 6, 3) := by decide +kernel
theorem d_Co_tells_56 : decode bc_Co_tells 56 = .ok (.bipush (-2), 2) := by decide +kernel
theorem d_Co_tells_58 : decode bc_Co_tells 58 = .ok (.ireturn, 1) := by decide +kernel
theorem d_Co_tells_59 : decode bc_Co_tells 59 = .ok (.aload_n 0, 1) := by decide +kernel
theorem d_Co_tells_60 : decode bc_Co_tells 60 = .ok (.getfield 45, 3) := by decide +kernel
theorem d_Co_tells_63 : decode bc_Co_tells 63 = .ok (.aload_n 0, 1) := by decide +kernel
theorem d_Co_tells_64 : decode bc_Co_tells 64 = .ok (.getfield 85, 3) := by decide +kernel
theorem d_Co_tells_67 : decode bc_Co_tells 67 = .ok (.aload_n 0, 1) := by decide +kernel
theorem d_Co_tells_68 : decode bc_Co_tells 68 = .ok (.getfield 35, 3) := by decide +kernel
theorem d_Co_tells_71 : decode bc_Co_tells 71 = .ok (.iload_n 1, 1) := by decide +kernel
theorem d_Co_tells_72 : decode bc_Co_tells 72 = .ok (.iload_n 2, 1) := by decide +kernel
theorem d_Co_tells_73 : decode bc_Co_tells 73 = .ok (.invokevirtual 217, 3) := by decide +kernel
theorem d_Co_tells_76 : decode bc_Co_tells 76 = .ok (.ireturn, 1) := by decide +kernel
set_option maxRecDepth 20000 in
theorem w_Co_tells_b0 {X : CX} {V : WV} (hV : IsC V) {z : Int32 × Mem} (hC : Ck X V bc_Co_tells 3 "SecretWells" (some .int) 3 75) (x1 : Int32) (x2 : Int32) (S : Mem) (h : f_Co_tells_b0  x1 x2 S = some z) : G X V 3 (QI X V z.1 z.2) 0 [some (.ref (V.2.2.1 0 0)), some (.int x1), some (.int x2)] [] S := by
  unfold f_Co_tells_b0 at h
  refine g_aload_n (pc := 0) hC (i := 0) (x := (V.2.2.1 0 0)) rfl rfl d_Co_tells_0 ?_
  refine g_iload_n (pc := 1) hC (i := 1) (x := x1) rfl rfl d_Co_tells_1 ?_
  obtain ⟨q2, hq2, h⟩ := Option.bind_eq_some_iff.mp h
  refine g_vi (pc := 2) hC (As := [.int x1]) (st := []) mt_Co_isTie lk_Co_208 rfl (ob_Co hV) (Nat.le_of_ble_eq_true rfl) ⟨Nat.le_of_ble_eq_true rfl, Nat.le_of_ble_eq_true rfl⟩ rfl d_Co_tells_2 (c_Co_isTie hV hq2) ?_
  refine g_if_eq (pc := 5) hC (tgt := 16) (by decide) d_Co_tells_5 h (fun h => ?_) (fun h => ?_)
  · refine g_iconst (pc := 16) hC kc_m1 d_Co_tells_16 ?_
    exact g_iW (pc := 17) hC rfl d_Co_tells_17 h
  · refine g_aload_n (pc := 8) hC (i := 0) (x := (V.2.2.1 0 0)) rfl rfl d_Co_tells_8 ?_
    refine g_iload_n (pc := 9) hC (i := 2) (x := x2) rfl rfl d_Co_tells_9 ?_
    obtain ⟨q10, hq10, h⟩ := Option.bind_eq_some_iff.mp h
    refine g_vi (pc := 10) hC (As := [.int x2]) (st := []) mt_Co_isSecret lk_Co_187 rfl (ob_Co hV) (Nat.le_of_ble_eq_true rfl) ⟨Nat.le_of_ble_eq_true rfl, Nat.le_of_ble_eq_true rfl⟩ rfl d_Co_tells_10 (c_Co_isSecret hV hq10) ?_
    refine g_if_ne (pc := 13) hC (tgt := 18) (by decide) d_Co_tells_13 h (fun h => ?_) (fun h => ?_)
    · refine g_aload_n (pc := 18) hC (i := 0) (x := (V.2.2.1 0 0)) rfl rfl d_Co_tells_18 ?_
      refine g_getC (pc := 19) hC (j := 4) fo_Co_35 (ob_Co hV) rfl d_Co_tells_19 ?_
      refine g_aload_n (pc := 22) hC (i := 0) (x := (V.2.2.1 0 0)) rfl rfl d_Co_tells_22 ?_
      refine g_getM (pc := 23) hC fo_Co_85 (ob_Co hV) rfl d_Co_tells_23 ?_
      obtain ⟨ht23, h⟩ := gTx_some h
      refine g_getA (pc := 26) hC fo_Co_211 (ob_Tx hV ht23) rfl d_Co_tells_26 ?_
      refine g_iload_n (pc := 29) hC (i := 1) (x := x1) rfl rfl d_Co_tells_29 ?_
      refine g_iald (pc := 30) hC (ar_Tx_15 hV ht23) d_Co_tells_30 h (fun h => ?_)
      obtain ⟨q31, hq31, h⟩ := Option.bind_eq_some_iff.mp h
      refine g_vi (pc := 31) hC (As := [.int (S.2.1 ((S.1 0 11).toNatClampNeg) 15 x1.toNatClampNeg)]) (st := []) mt_St_isAlive lk_Co_172 rfl (ob_St hV is_4) (Nat.le_of_ble_eq_true rfl) ⟨Nat.le_of_ble_eq_true rfl, Nat.le_of_ble_eq_true rfl⟩ rfl d_Co_tells_31 (c_St_isAlive hV is_4 hq31) ?_
      refine g_if_eq (pc := 34) hC (tgt := 56) (by decide) d_Co_tells_34 h (fun h => ?_) (fun h => ?_)
      · refine g_bipush (pc := 56) hC kb_m2 d_Co_tells_56 ?_
        exact g_iW (pc := 58) hC rfl d_Co_tells_58 h
      · refine g_aload_n (pc := 37) hC (i := 0) (x := (V.2.2.1 0 0)) rfl rfl d_Co_tells_37 ?_
        refine g_getC (pc := 38) hC (j := 4) fo_Co_35 (ob_Co hV) rfl d_Co_tells_38 ?_
        refine g_aload_n (pc := 41) hC (i := 0) (x := (V.2.2.1 0 0)) rfl rfl d_Co_tells_41 ?_
        refine g_getM (pc := 42) hC fo_Co_85 (ob_Co hV) rfl d_Co_tells_42 ?_
        obtain ⟨ht42, h⟩ := gTx_some h
        refine g_getA (pc := 45) hC fo_Co_214 (ob_Tx hV ht42) rfl d_Co_tells_45 ?_
        refine g_iload_n (pc := 48) hC (i := 1) (x := x1) rfl rfl d_Co_tells_48 ?_
        refine g_iald (pc := 49) hC (ar_Tx_16 hV ht42) d_Co_tells_49 h (fun h => ?_)
        obtain ⟨q50, hq50, h⟩ := Option.bind_eq_some_iff.mp h
        refine g_vi (pc := 50) hC (As := [.int (S.2.1 ((S.1 0 11).toNatClampNeg) 16 x1.toNatClampNeg)]) (st := []) mt_St_isAlive lk_Co_172 rfl (ob_St hV is_4) (Nat.le_of_ble_eq_true rfl) ⟨Nat.le_of_ble_eq_true rfl, Nat.le_of_ble_eq_true rfl⟩ rfl d_Co_tells_50 (c_St_isAlive hV is_4 hq50) ?_
        refine g_if_ne (pc := 53) hC (tgt := 59) (by decide) d_Co_tells_53 h (fun h => ?_) (fun h => ?_)
        · refine g_aload_n (pc := 59) hC (i := 0) (x := (V.2.2.1 0 0)) rfl rfl d_Co_tells_59 ?_
          refine g_getC (pc := 60) hC (j := 6) fo_Co_45 (ob_Co hV) rfl d_Co_tells_60 ?_
          refine g_aload_n (pc := 63) hC (i := 0) (x := (V.2.2.1 0 0)) rfl rfl d_Co_tells_63 ?_
          refine g_getM (pc := 64) hC fo_Co_85 (ob_Co hV) rfl d_Co_tells_64 ?_
          obtain ⟨ht64, h⟩ := gTx_some h
          refine g_aload_n (pc := 67) hC (i := 0) (x := (V.2.2.1 0 0)) rfl rfl d_Co_tells_67 ?_
          refine g_getC (pc := 68) hC (j := 4) fo_Co_35 (ob_Co hV) rfl d_Co_tells_68 ?_
          refine g_iload_n (pc := 71) hC (i := 1) (x := x1) rfl rfl d_Co_tells_71 ?_
          refine g_iload_n (pc := 72) hC (i := 2) (x := x2) rfl rfl d_Co_tells_72 ?_
          obtain ⟨q73, hq73, h⟩ := Option.bind_eq_some_iff.mp h
          refine g_vi (pc := 73) hC (As := [.ref (V.2.2.1 ((S.1 0 11).toNatClampNeg) 0), .ref (V.2.2.1 4 0), .int x1, .int x2]) (st := []) mt_Dy_tellsNow lk_Co_217 rfl (ob_Dy hV) (Nat.le_of_ble_eq_true rfl) ⟨Nat.le_of_ble_eq_true rfl, Nat.le_of_ble_eq_true rfl⟩ rfl d_Co_tells_73 (c_Dy_tellsNow hV ht64 is_4 hq73) ?_
          exact g_iW (pc := 76) hC rfl d_Co_tells_76 h
        · refine g_bipush (pc := 56) hC kb_m2 d_Co_tells_56 ?_
          exact g_iW (pc := 58) hC rfl d_Co_tells_58 h
    · refine g_iconst (pc := 16) hC kc_m1 d_Co_tells_16 ?_
      exact g_iW (pc := 17) hC rfl d_Co_tells_17 h
theorem c_Co_tells {V : WV} {l : Launch} (hV : IsC V) {x1 : Int32} {x2 : Int32} {S : Mem} {z : Int32 × Mem} (h : f_Co_tells x1 x2 S = some z) : CI V l y_Co_tells bc_Co_tells 3 (some .int) 3 75 [.ref (V.2.2.1 0 0), .int x1, .int x2] S z.1 z.2 :=
  ct_i rfl (IsC.ok hV) (Nat.le_of_ble_eq_true rfl) (fun _ _ hC => w_Co_tells_b0 hV hC x1 x2 S h)
def f_Co_count_b0 (S : Mem) (x1 : Int32) : Option (Int32) :=
  if x1 = 0 then
    gTx (S.1 0 11) (
    some (S.1 ((S.1 0 11).toNatClampNeg) 0))
  else if x1 = 1 then
    gTx (S.1 0 11) (
    some (S.1 ((S.1 0 11).toNatClampNeg) 1))
  else if x1 = 2 then
    gTx (S.1 0 11) (
    some (S.1 ((S.1 0 11).toNatClampNeg) 2))
  else if x1 = 3 then
    gTx (S.1 0 11) (
    some (S.1 ((S.1 0 11).toNatClampNeg) 3))
  else if x1 = 4 then
    some (S.1 4 0)
  else if x1 = 5 then
    some (S.1 4 1)
  else if x1 = 6 then
    some (S.1 4 2)
  else if x1 = 7 then
    some (S.1 4 3)
  else if x1 = 8 then
    some (S.1 1 0)
  else if x1 = 9 then
    some (S.1 0 15)
  else if x1 = 10 then
    some (S.1 9 0)
  else if x1 = 11 then
    Option.bind (f_JInt_bitCount (S.1 0 16)) (fun q161 =>
    some q161)
  else if x1 = 12 then
    gTx (S.1 0 11) (
    Option.bind (f_St_allWater 4 ((S.1 0 11).toNatClampNeg) S) (fun q173 =>
    some q173))
  else if x1 = 13 then
    gTx (S.1 0 11) (
    some (S.1 ((S.1 0 11).toNatClampNeg) 4))
  else 
    some (-1)
def f_Co_count (x1 : Int32) (S : Mem) : Option (Int32) := f_Co_count_b0 S x1
theorem d_Co_count_0 : decode bc_Co_count 0 = .ok (.iload_n 1, 1) := by decide +kernel
theorem d_Co_count_1 : decode bc_Co_count 1 = .ok (.tableswitch 184 0 13 #[71, 79, 87, 95, 103, 111, 119, 127, 135, 143, 148, 156, 164, 176], 71) := by decide +kernel
theorem d_Co_count_72 : decode bc_Co_count 72 = .ok (.aload_n 0, 1) := by decide +kernel
theorem d_Co_count_73 : decode bc_Co_count 73 = .ok (.getfield 85, 3) := by decide +kernel
theorem d_Co_count_76 : decode bc_Co_count 76 = .ok (.getfield 221, 3) := by decide +kernel
theorem d_Co_count_79 : decode bc_Co_count 79 = .ok (.ireturn, 1) := by decide +kernel
theorem d_Co_count_80 : decode bc_Co_count 80 = .ok (.aload_n 0, 1) := by decide +kernel
theorem d_Co_count_81 : decode bc_Co_count 81 = .ok (.getfield 85, 3) := by decide +kernel
theorem d_Co_count_84 : decode bc_Co_count 84 = .ok (.getfield 224, 3) := by decide +kernel
theorem d_Co_count_87 : decode bc_Co_count 87 = .ok (.ireturn, 1) := by decide +kernel
theorem d_Co_count_88 : decode bc_Co_count 88 = .ok (.aload_n 0, 1) := by decide +kernel
theorem d_Co_count_89 : decode bc_Co_count 89 = .ok (.getfield 85, 3) := by decide +kernel
theorem d_Co_count_92 : decode bc_Co_count 92 = .ok (.getfield 227, 3) := by decide +kernel
theorem d_Co_count_95 : decode bc_Co_count 95 = .ok (.ireturn, 1) := by decide +kernel
theorem d_Co_count_96 : decode bc_Co_count 96 = .ok (.aload_n 0, 1) := by decide +kernel
theorem d_Co_count_97 : decode bc_Co_count 97 = .ok (.getfield 85, 3) := by decide +kernel
theorem d_Co_count_100 : decode bc_Co_count 100 = .ok (.getfield 230, 3) := by decide +kernel
theorem d_Co_count_103 : decode bc_Co_count 103 = .ok (.ireturn, 1) := by decide +kernel
theorem d_Co_count_104 : decode bc_Co_count 104 = .ok (.aload_n 0, 1) := by decide +kernel
theorem d_Co_count_105 : decode bc_Co_count 105 = .ok (.getfield 35, 3) := by decide +kernel
theorem d_Co_count_108 : decode bc_Co_count 108 = .ok (.getfield 233, 3) := by decide +kernel
theorem d_Co_count_111 : decode bc_Co_count 111 = .ok (.ireturn, 1) := by decide +kernel
theorem d_Co_count_112 : decode bc_Co_count 112 = .ok (.aload_n 0, 1) := by decide +kernel
theorem d_Co_count_113 : decode bc_Co_count 113 = .ok (.getfield 35, 3) := by decide +kernel
theorem d_Co_count_116 : decode bc_Co_count 116 = .ok (.getfield 193, 3) := by decide +kernel
theorem d_Co_count_119 : decode bc_Co_count 119 = .ok (.ireturn, 1) := by decide +kernel
theorem d_Co_count_120 : decode bc_Co_count 120 = .ok (.aload_n 0, 1) := by decide +kernel
theorem d_Co_count_121 : decode bc_Co_count 121 = .ok (.getfield 35, 3) := by decide +kernel
theorem d_Co_count_124 : decode bc_Co_count 124 = .ok (.getfield 236, 3) := by decide +kernel
theorem d_Co_count_127 : decode bc_Co_count 127 = .ok (.ireturn, 1) := by decide +kernel
theorem d_Co_count_128 : decode bc_Co_count 128 = .ok (.aload_n 0, 1) := by decide +kernel
theorem d_Co_count_129 : decode bc_Co_count 129 = .ok (.getfield 35, 3) := by decide +kernel
theorem d_Co_count_132 : decode bc_Co_count 132 = .ok (.getfield 239, 3) := by decide +kernel
theorem d_Co_count_135 : decode bc_Co_count 135 = .ok (.ireturn, 1) := by decide +kernel
theorem d_Co_count_136 : decode bc_Co_count 136 = .ok (.aload_n 0, 1) := by decide +kernel
theorem d_Co_count_137 : decode bc_Co_count 137 = .ok (.getfield 10, 3) := by decide +kernel
theorem d_Co_count_140 : decode bc_Co_count 140 = .ok (.getfield 112, 3) := by decide +kernel
theorem d_Co_count_143 : decode bc_Co_count 143 = .ok (.ireturn, 1) := by decide +kernel
theorem d_Co_count_144 : decode bc_Co_count 144 = .ok (.aload_n 0, 1) := by decide +kernel
theorem d_Co_count_145 : decode bc_Co_count 145 = .ok (.getfield 99, 3) := by decide +kernel
theorem d_Co_count_148 : decode bc_Co_count 148 = .ok (.ireturn, 1) := by decide +kernel
theorem d_Co_count_149 : decode bc_Co_count 149 = .ok (.aload_n 0, 1) := by decide +kernel
theorem d_Co_count_150 : decode bc_Co_count 150 = .ok (.getfield 66, 3) := by decide +kernel
theorem d_Co_count_153 : decode bc_Co_count 153 = .ok (.getfield 135, 3) := by decide +kernel
theorem d_Co_count_156 : decode bc_Co_count 156 = .ok (.ireturn, 1) := by decide +kernel
theorem d_Co_count_157 : decode bc_Co_count 157 = .ok (.aload_n 0, 1) := by decide +kernel
theorem d_Co_count_158 : decode bc_Co_count 158 = .ok (.getfield 102, 3) := by decide +kernel
theorem d_Co_count_161 : decode bc_Co_count 161 = .ok (.invokestatic 196, 3) := by decide +kernel
theorem d_Co_count_164 : decode bc_Co_count 164 = .ok (.ireturn, 1) := by decide +kernel
theorem d_Co_count_165 : decode bc_Co_count 165 = .ok (.aload_n 0, 1) := by decide +kernel
theorem d_Co_count_166 : decode bc_Co_count 166 = .ok (.getfield 35, 3) := by decide +kernel
theorem d_Co_count_169 : decode bc_Co_count 169 = .ok (.aload_n 0, 1) := by decide +kernel
theorem d_Co_count_170 : decode bc_Co_count 170 = .ok (.getfield 85, 3) := by decide +kernel
theorem d_Co_count_173 : decode bc_Co_count 173 = .ok (.invokevirtual 242, 3) := by decide +kernel
theorem d_Co_count_176 : decode bc_Co_count 176 = .ok (.ireturn, 1) := by decide +kernel
theorem d_Co_count_177 : decode bc_Co_count 177 = .ok (.aload_n 0, 1) := by decide +kernel
theorem d_Co_count_178 : decode bc_Co_count 178 = .ok (.getfield 85, 3) := by decide +kernel
theorem d_Co_count_181 : decode bc_Co_count 181 = .ok (.getfield 245, 3) := by decide +kernel
theorem d_Co_count_184 : decode bc_Co_count 184 = .ok (.ireturn, 1) := by decide +kernel
theorem d_Co_count_185 : decode bc_Co_count 185 = .ok (.iconst (-1), 1) := by decide +kernel
theorem d_Co_count_186 : decode bc_Co_count 186 = .ok (.ireturn, 1) := by decide +kernel
set_option maxRecDepth 20000 in
theorem w_Co_count_b0 {X : CX} {V : WV} (hV : IsC V) {S : Mem} {z : Int32} (hC : Ck X V bc_Co_count 2 "SecretWells" (some .int) 1 23) (x1 : Int32) (h : f_Co_count_b0 S x1 = some z) : G X V 2 (QI X V z S) 0 [some (.ref (V.2.2.1 0 0)), some (.int x1)] [] S := by
  unfold f_Co_count_b0 at h
  refine g_iload_n (pc := 0) hC (i := 1) (x := x1) rfl rfl d_Co_count_0 ?_
  by_cases hs1_0 : x1 = 0
  · rw [if_pos hs1_0] at h
    refine g_table (pc := 1) hC (tgt := 72) d_Co_count_1 rfl (by rw [hs1_0]; decide) ?_
    refine g_aload_n (pc := 72) hC (i := 0) (x := (V.2.2.1 0 0)) rfl rfl d_Co_count_72 ?_
    refine g_getM (pc := 73) hC fo_Co_85 (ob_Co hV) rfl d_Co_count_73 ?_
    obtain ⟨ht73, h⟩ := gTx_some h
    refine g_getI (pc := 76) hC fo_Co_221 (ob_Tx hV ht73) rfl d_Co_count_76 ?_
    exact g_iN (pc := 79) hC rfl d_Co_count_79 h
  rw [if_neg hs1_0] at h
  by_cases hs1_1 : x1 = 1
  · rw [if_pos hs1_1] at h
    refine g_table (pc := 1) hC (tgt := 80) d_Co_count_1 rfl (by rw [hs1_1]; decide) ?_
    refine g_aload_n (pc := 80) hC (i := 0) (x := (V.2.2.1 0 0)) rfl rfl d_Co_count_80 ?_
    refine g_getM (pc := 81) hC fo_Co_85 (ob_Co hV) rfl d_Co_count_81 ?_
    obtain ⟨ht81, h⟩ := gTx_some h
    refine g_getI (pc := 84) hC fo_Co_224 (ob_Tx hV ht81) rfl d_Co_count_84 ?_
    exact g_iN (pc := 87) hC rfl d_Co_count_87 h
  rw [if_neg hs1_1] at h
  by_cases hs1_2 : x1 = 2
  · rw [if_pos hs1_2] at h
    refine g_table (pc := 1) hC (tgt := 88) d_Co_count_1 rfl (by rw [hs1_2]; decide) ?_
    refine g_aload_n (pc := 88) hC (i := 0) (x := (V.2.2.1 0 0)) rfl rfl d_Co_count_88 ?_
    refine g_getM (pc := 89) hC fo_Co_85 (ob_Co hV) rfl d_Co_count_89 ?_
    obtain ⟨ht89, h⟩ := gTx_some h
    refine g_getI (pc := 92) hC fo_Co_227 (ob_Tx hV ht89) rfl d_Co_count_92 ?_
    exact g_iN (pc := 95) hC rfl d_Co_count_95 h
  rw [if_neg hs1_2] at h
  by_cases hs1_3 : x1 = 3
  · rw [if_pos hs1_3] at h
    refine g_table (pc := 1) hC (tgt := 96) d_Co_count_1 rfl (by rw [hs1_3]; decide) ?_
    refine g_aload_n (pc := 96) hC (i := 0) (x := (V.2.2.1 0 0)) rfl rfl d_Co_count_96 ?_
    refine g_getM (pc := 97) hC fo_Co_85 (ob_Co hV) rfl d_Co_count_97 ?_
    obtain ⟨ht97, h⟩ := gTx_some h
    refine g_getI (pc := 100) hC fo_Co_230 (ob_Tx hV ht97) rfl d_Co_count_100 ?_
    exact g_iN (pc := 103) hC rfl d_Co_count_103 h
  rw [if_neg hs1_3] at h
  by_cases hs1_4 : x1 = 4
  · rw [if_pos hs1_4] at h
    refine g_table (pc := 1) hC (tgt := 104) d_Co_count_1 rfl (by rw [hs1_4]; decide) ?_
    refine g_aload_n (pc := 104) hC (i := 0) (x := (V.2.2.1 0 0)) rfl rfl d_Co_count_104 ?_
    refine g_getC (pc := 105) hC (j := 4) fo_Co_35 (ob_Co hV) rfl d_Co_count_105 ?_
    refine g_getI (pc := 108) hC fo_Co_233 (ob_St hV is_4) rfl d_Co_count_108 ?_
    exact g_iN (pc := 111) hC rfl d_Co_count_111 h
  rw [if_neg hs1_4] at h
  by_cases hs1_5 : x1 = 5
  · rw [if_pos hs1_5] at h
    refine g_table (pc := 1) hC (tgt := 112) d_Co_count_1 rfl (by rw [hs1_5]; decide) ?_
    refine g_aload_n (pc := 112) hC (i := 0) (x := (V.2.2.1 0 0)) rfl rfl d_Co_count_112 ?_
    refine g_getC (pc := 113) hC (j := 4) fo_Co_35 (ob_Co hV) rfl d_Co_count_113 ?_
    refine g_getI (pc := 116) hC fo_Co_193 (ob_St hV is_4) rfl d_Co_count_116 ?_
    exact g_iN (pc := 119) hC rfl d_Co_count_119 h
  rw [if_neg hs1_5] at h
  by_cases hs1_6 : x1 = 6
  · rw [if_pos hs1_6] at h
    refine g_table (pc := 1) hC (tgt := 120) d_Co_count_1 rfl (by rw [hs1_6]; decide) ?_
    refine g_aload_n (pc := 120) hC (i := 0) (x := (V.2.2.1 0 0)) rfl rfl d_Co_count_120 ?_
    refine g_getC (pc := 121) hC (j := 4) fo_Co_35 (ob_Co hV) rfl d_Co_count_121 ?_
    refine g_getI (pc := 124) hC fo_Co_236 (ob_St hV is_4) rfl d_Co_count_124 ?_
    exact g_iN (pc := 127) hC rfl d_Co_count_127 h
  rw [if_neg hs1_6] at h
  by_cases hs1_7 : x1 = 7
  · rw [if_pos hs1_7] at h
    refine g_table (pc := 1) hC (tgt := 128) d_Co_count_1 rfl (by rw [hs1_7]; decide) ?_
    refine g_aload_n (pc := 128) hC (i := 0) (x := (V.2.2.1 0 0)) rfl rfl d_Co_count_128 ?_
    refine g_getC (pc := 129) hC (j := 4) fo_Co_35 (ob_Co hV) rfl d_Co_count_129 ?_
    refine g_getI (pc := 132) hC fo_Co_239 (ob_St hV is_4) rfl d_Co_count_132 ?_
    exact g_iN (pc := 135) hC rfl d_Co_count_135 h
  rw [if_neg hs1_7] at h
  by_cases hs1_8 : x1 = 8
  · rw [if_pos hs1_8] at h
    refine g_table (pc := 1) hC (tgt := 136) d_Co_count_1 rfl (by rw [hs1_8]; decide) ?_
    refine g_aload_n (pc := 136) hC (i := 0) (x := (V.2.2.1 0 0)) rfl rfl d_Co_count_136 ?_
    refine g_getC (pc := 137) hC (j := 1) fo_Co_10 (ob_Co hV) rfl d_Co_count_137 ?_
    refine g_getI (pc := 140) hC fo_Co_112 (ob_Tp hV) rfl d_Co_count_140 ?_
    exact g_iN (pc := 143) hC rfl d_Co_count_143 h
  rw [if_neg hs1_8] at h
  by_cases hs1_9 : x1 = 9
  · rw [if_pos hs1_9] at h
    refine g_table (pc := 1) hC (tgt := 144) d_Co_count_1 rfl (by rw [hs1_9]; decide) ?_
    refine g_aload_n (pc := 144) hC (i := 0) (x := (V.2.2.1 0 0)) rfl rfl d_Co_count_144 ?_
    refine g_getI (pc := 145) hC fo_Co_99 (ob_Co hV) rfl d_Co_count_145 ?_
    exact g_iN (pc := 148) hC rfl d_Co_count_148 h
  rw [if_neg hs1_9] at h
  by_cases hs1_10 : x1 = 10
  · rw [if_pos hs1_10] at h
    refine g_table (pc := 1) hC (tgt := 149) d_Co_count_1 rfl (by rw [hs1_10]; decide) ?_
    refine g_aload_n (pc := 149) hC (i := 0) (x := (V.2.2.1 0 0)) rfl rfl d_Co_count_149 ?_
    refine g_getC (pc := 150) hC (j := 9) fo_Co_66 (ob_Co hV) rfl d_Co_count_150 ?_
    refine g_getI (pc := 153) hC fo_Co_135 (ob_Nt hV) rfl d_Co_count_153 ?_
    exact g_iN (pc := 156) hC rfl d_Co_count_156 h
  rw [if_neg hs1_10] at h
  by_cases hs1_11 : x1 = 11
  · rw [if_pos hs1_11] at h
    refine g_table (pc := 1) hC (tgt := 157) d_Co_count_1 rfl (by rw [hs1_11]; decide) ?_
    refine g_aload_n (pc := 157) hC (i := 0) (x := (V.2.2.1 0 0)) rfl rfl d_Co_count_157 ?_
    refine g_getI (pc := 158) hC fo_Co_102 (ob_Co hV) rfl d_Co_count_158 ?_
    obtain ⟨q161, hq161, h⟩ := Option.bind_eq_some_iff.mp h
    refine g_si (pc := 161) hC (As := [.int (S.1 0 16)]) (st := []) mt_JInt_bitCount lk_Co_196 (Nat.le_of_ble_eq_true rfl) ⟨Nat.le_of_ble_eq_true rfl, Nat.le_of_ble_eq_true rfl⟩ rfl d_Co_count_161 (c_JInt_bitCount (IsC.ok hV) hq161) ?_
    exact g_iN (pc := 164) hC rfl d_Co_count_164 h
  rw [if_neg hs1_11] at h
  by_cases hs1_12 : x1 = 12
  · rw [if_pos hs1_12] at h
    refine g_table (pc := 1) hC (tgt := 165) d_Co_count_1 rfl (by rw [hs1_12]; decide) ?_
    refine g_aload_n (pc := 165) hC (i := 0) (x := (V.2.2.1 0 0)) rfl rfl d_Co_count_165 ?_
    refine g_getC (pc := 166) hC (j := 4) fo_Co_35 (ob_Co hV) rfl d_Co_count_166 ?_
    refine g_aload_n (pc := 169) hC (i := 0) (x := (V.2.2.1 0 0)) rfl rfl d_Co_count_169 ?_
    refine g_getM (pc := 170) hC fo_Co_85 (ob_Co hV) rfl d_Co_count_170 ?_
    obtain ⟨ht170, h⟩ := gTx_some h
    obtain ⟨q173, hq173, h⟩ := Option.bind_eq_some_iff.mp h
    refine g_vi (pc := 173) hC (As := [.ref (V.2.2.1 ((S.1 0 11).toNatClampNeg) 0)]) (st := []) mt_St_allWater lk_Co_242 rfl (ob_St hV is_4) (Nat.le_of_ble_eq_true rfl) ⟨Nat.le_of_ble_eq_true rfl, Nat.le_of_ble_eq_true rfl⟩ rfl d_Co_count_173 (c_St_allWater hV is_4 ht170 hq173) ?_
    exact g_iN (pc := 176) hC rfl d_Co_count_176 h
  rw [if_neg hs1_12] at h
  by_cases hs1_13 : x1 = 13
  · rw [if_pos hs1_13] at h
    refine g_table (pc := 1) hC (tgt := 177) d_Co_count_1 rfl (by rw [hs1_13]; decide) ?_
    refine g_aload_n (pc := 177) hC (i := 0) (x := (V.2.2.1 0 0)) rfl rfl d_Co_count_177 ?_
    refine g_getM (pc := 178) hC fo_Co_85 (ob_Co hV) rfl d_Co_count_178 ?_
    obtain ⟨ht178, h⟩ := gTx_some h
    refine g_getI (pc := 181) hC fo_Co_245 (ob_Tx hV ht178) rfl d_Co_count_181 ?_
    exact g_iN (pc := 184) hC rfl d_Co_count_184 h
  rw [if_neg hs1_13] at h
  refine g_table (pc := 1) hC (tgt := 185) d_Co_count_1 rfl ((sw_else [(0 : Int32), (1 : Int32), (2 : Int32), (3 : Int32), (4 : Int32), (5 : Int32), (6 : Int32), (7 : Int32), (8 : Int32), (9 : Int32), (10 : Int32), (11 : Int32), (12 : Int32), (13 : Int32)] (by intro v hv; simp only [List.mem_cons, List.not_mem_nil, or_false] at hv; rcases hv with rfl | rfl | rfl | rfl | rfl | rfl | rfl | rfl | rfl | rfl | rfl | rfl | rfl | rfl <;> assumption) (by decide)).trans (by decide)) ?_
  refine g_iconst (pc := 185) hC kc_m1 d_Co_count_185 ?_
  exact g_iN (pc := 186) hC rfl d_Co_count_186 h
theorem c_Co_count {V : WV} {l : Launch} (hV : IsC V) {x1 : Int32} {S : Mem} {z : Int32} (h : f_Co_count x1 S = some z) : CI V l y_Co_count bc_Co_count 2 (some .int) 1 23 [.ref (V.2.2.1 0 0), .int x1] S z S :=
  ct_i rfl (IsC.ok hV) (Nat.le_of_ble_eq_true rfl) (fun _ _ hC => w_Co_count_b0 hV hC x1 h)
def f_Co_keepForUndo_b0 (S : Mem) : Option (Mem) :=
  gNz 40 (
  Option.bind (f_Rw_save 10 4 (((S.1 0 14) + (S.1 0 15)) - ((S.1 0 14) + (S.1 0 15)) / 40 * 40) S) (fun q20 =>
  if 40 ≤ (q20.1 0 15) then
    gNz 40 (
    letS (pI q20 0 14 (((q20.1 0 14) + 1) - ((q20.1 0 14) + 1) / 40 * 40)) (fun S55 =>
    some S55))
  else
    letS (pI q20 0 15 ((q20.1 0 15) + 1)) (fun S39 =>
    some S39)))
def f_Co_keepForUndo (S : Mem) : Option (Mem) := f_Co_keepForUndo_b0  S
theorem d_Co_keepForUndo_0 : decode bc_Co_keepForUndo 0 = .ok (.aload_n 0, 1) := by decide +kernel
theorem d_Co_keepForUndo_1 : decode bc_Co_keepForUndo 1 = .ok (.getfield 75, 3) := by decide +kernel
theorem d_Co_keepForUndo_4 : decode bc_Co_keepForUndo 4 = .ok (.aload_n 0, 1) := by decide +kernel
theorem d_Co_keepForUndo_5 : decode bc_Co_keepForUndo 5 = .ok (.getfield 96, 3) := by decide +kernel
theorem d_Co_keepForUndo_8 : decode bc_Co_keepForUndo 8 = .ok (.aload_n 0, 1) := by decide +kernel
theorem d_Co_keepForUndo_9 : decode bc_Co_keepForUndo 9 = .ok (.getfield 99, 3) := by decide +kernel
theorem d_Co_keepForUndo_12 : decode bc_Co_keepForUndo 12 = .ok (.iadd, 1) := by decide +kernel
theorem d_Co_keepForUndo_13 : decode bc_Co_keepForUndo 13 = .ok (.bipush 40, 2) := by decide +kernel
theorem d_Co_keepForUndo_15 : decode bc_Co_keepForUndo 15 = .ok (.irem, 1) := by decide +kernel
theorem d_Co_keepForUndo_16 : decode bc_Co_keepForUndo 16 = .ok (.aload_n 0, 1) := by decide +kernel
theorem d_Co_keepForUndo_17 : decode bc_Co_keepForUndo 17 = .ok (.getfield 35, 3) := by decide +kernel
theorem d_Co_keepForUndo_20 : decode bc_Co_keepForUndo 20 = .ok (.invokevirtual 282, 3) := by decide +kernel
theorem d_Co_keepForUndo_23 : decode bc_Co_keepForUndo 23 = .ok (.aload_n 0, 1) := by decide +kernel
theorem d_Co_keepForUndo_24 : decode bc_Co_keepForUndo 24 = .ok (.getfield 99, 3) := by decide +kernel
theorem d_Co_keepForUndo_27 : decode bc_Co_keepForUndo 27 = .ok (.bipush 40, 2) := by decide +kernel
theorem d_Co_keepForUndo_29 : decode bc_Co_keepForUndo 29 = .ok (.if_icmp .ge 16, 3) := by decide +kernel
theorem d_Co_keepForUndo_32 : decode bc_Co_keepForUndo 32 = .ok (.aload_n 0, 1) := by decide +kernel
theorem d_Co_keepForUndo_33 : decode bc_Co_keepForUndo 33 = .ok (.dup, 1) := by decide +kernel
theorem d_Co_keepForUndo_34 : decode bc_Co_keepForUndo 34 = .ok (.getfield 99, 3) := by decide +kernel
theorem d_Co_keepForUndo_37 : decode bc_Co_keepForUndo 37 = .ok (.iconst 1, 1) := by decide +kernel
theorem d_Co_keepForUndo_38 : decode bc_Co_keepForUndo 38 = .ok (.iadd, 1) := by decide +kernel
theorem d_Co_keepForUndo_39 : decode bc_Co_keepForUndo 39 = .ok (.putfield 99, 3) := by decide +kernel
theorem d_Co_keepForUndo_42 : decode bc_Co_keepForUndo 42 = .ok (.goto 16, 3) := by decide +kernel
theorem d_Co_keepForUndo_45 : decode bc_Co_keepForUndo 45 = .ok (.aload_n 0, 1) := by decide +kernel
theorem d_Co_keepForUndo_46 : decode bc_Co_keepForUndo 46 = .ok (.aload_n 0, 1) := by decide +kernel
theorem d_Co_keepForUndo_47 : decode bc_Co_keepForUndo 47 = .ok (.getfield 96, 3) := by decide +kernel
theorem d_Co_keepForUndo_50 : decode bc_Co_keepForUndo 50 = .ok (.iconst 1, 1) := by decide +kernel
theorem d_Co_keepForUndo_51 : decode bc_Co_keepForUndo 51 = .ok (.iadd, 1) := by decide +kernel
theorem d_Co_keepForUndo_52 : decode bc_Co_keepForUndo 52 = .ok (.bipush 40, 2) := by decide +kernel
theorem d_Co_keepForUndo_54 : decode bc_Co_keepForUndo 54 = .ok (.irem, 1) := by decide +kernel
theorem d_Co_keepForUndo_55 : decode bc_Co_keepForUndo 55 = .ok (.putfield 96, 3) := by decide +kernel
theorem d_Co_keepForUndo_58 : decode bc_Co_keepForUndo 58 = .ok (.return_, 1) := by decide +kernel
set_option maxRecDepth 20000 in
theorem w_Co_keepForUndo_b0 {X : CX} {V : WV} (hV : IsC V) {z : Mem} (hC : Ck X V bc_Co_keepForUndo 1 "SecretWells" none 2 49) (S : Mem) (h : f_Co_keepForUndo_b0  S = some z) : G X V 1 (QV X V z) 0 [some (.ref (V.2.2.1 0 0))] [] S := by
  unfold f_Co_keepForUndo_b0 at h
  refine g_aload_n (pc := 0) hC (i := 0) (x := (V.2.2.1 0 0)) rfl rfl d_Co_keepForUndo_0 ?_
  refine g_getC (pc := 1) hC (j := 10) fo_Co_75 (ob_Co hV) rfl d_Co_keepForUndo_1 ?_
  refine g_aload_n (pc := 4) hC (i := 0) (x := (V.2.2.1 0 0)) rfl rfl d_Co_keepForUndo_4 ?_
  refine g_getI (pc := 5) hC fo_Co_96 (ob_Co hV) rfl d_Co_keepForUndo_5 ?_
  refine g_aload_n (pc := 8) hC (i := 0) (x := (V.2.2.1 0 0)) rfl rfl d_Co_keepForUndo_8 ?_
  refine g_getI (pc := 9) hC fo_Co_99 (ob_Co hV) rfl d_Co_keepForUndo_9 ?_
  refine g_iadd (pc := 12) hC d_Co_keepForUndo_12 ?_
  refine g_bipush (pc := 13) hC kb_40 d_Co_keepForUndo_13 ?_
  refine g_irem (pc := 15) hC d_Co_keepForUndo_15 h (fun h => ?_)
  refine g_aload_n (pc := 16) hC (i := 0) (x := (V.2.2.1 0 0)) rfl rfl d_Co_keepForUndo_16 ?_
  refine g_getC (pc := 17) hC (j := 4) fo_Co_35 (ob_Co hV) rfl d_Co_keepForUndo_17 ?_
  obtain ⟨q20, hq20, h⟩ := Option.bind_eq_some_iff.mp h
  refine g_vv (pc := 20) hC (As := [.int (((S.1 0 14) + (S.1 0 15)) - ((S.1 0 14) + (S.1 0 15)) / 40 * 40), .ref (V.2.2.1 4 0)]) (st := []) mt_Rw_save lk_Co_282 rfl (ob_Rw hV is_10) (Nat.le_of_ble_eq_true rfl) ⟨Nat.le_of_ble_eq_true rfl, Nat.le_of_ble_eq_true rfl⟩ rfl d_Co_keepForUndo_20 (c_Rw_save hV is_10 is_4 hq20) ?_
  refine g_aload_n (pc := 23) hC (i := 0) (x := (V.2.2.1 0 0)) rfl rfl d_Co_keepForUndo_23 ?_
  refine g_getI (pc := 24) hC fo_Co_99 (ob_Co hV) rfl d_Co_keepForUndo_24 ?_
  refine g_bipush (pc := 27) hC kb_40 d_Co_keepForUndo_27 ?_
  refine g_icmp_ge (pc := 29) hC (tgt := 45) (by decide) d_Co_keepForUndo_29 h (fun h => ?_) (fun h => ?_)
  · refine g_aload_n (pc := 45) hC (i := 0) (x := (V.2.2.1 0 0)) rfl rfl d_Co_keepForUndo_45 ?_
    refine g_aload_n (pc := 46) hC (i := 0) (x := (V.2.2.1 0 0)) rfl rfl d_Co_keepForUndo_46 ?_
    refine g_getI (pc := 47) hC fo_Co_96 (ob_Co hV) rfl d_Co_keepForUndo_47 ?_
    refine g_iconst (pc := 50) hC kc_1 d_Co_keepForUndo_50 ?_
    refine g_iadd (pc := 51) hC d_Co_keepForUndo_51 ?_
    refine g_bipush (pc := 52) hC kb_40 d_Co_keepForUndo_52 ?_
    refine g_irem (pc := 54) hC d_Co_keepForUndo_54 h (fun h => ?_)
    refine g_putI (pc := 55) hC po_Co_96 (ob_Co hV) rfl rfl rfl d_Co_keepForUndo_55 ?_
    refine g_letS h (fun S55 h => ?_)
    exact g_vW (pc := 58) hC d_Co_keepForUndo_58 h
  · refine g_aload_n (pc := 32) hC (i := 0) (x := (V.2.2.1 0 0)) rfl rfl d_Co_keepForUndo_32 ?_
    refine g_dup (pc := 33) hC rfl d_Co_keepForUndo_33 ?_
    refine g_getI (pc := 34) hC fo_Co_99 (ob_Co hV) rfl d_Co_keepForUndo_34 ?_
    refine g_iconst (pc := 37) hC kc_1 d_Co_keepForUndo_37 ?_
    refine g_iadd (pc := 38) hC d_Co_keepForUndo_38 ?_
    refine g_putI (pc := 39) hC po_Co_99 (ob_Co hV) rfl rfl rfl d_Co_keepForUndo_39 ?_
    refine g_letS h (fun S39 h => ?_)
    refine g_goto (pc := 42) hC (tgt := 58) (by decide) d_Co_keepForUndo_42 ?_
    exact g_vW (pc := 58) hC d_Co_keepForUndo_58 h
theorem c_Co_keepForUndo {V : WV} {l : Launch} (hV : IsC V) {S : Mem} {z : Mem} (h : f_Co_keepForUndo S = some z) : CV V l y_Co_keepForUndo bc_Co_keepForUndo 1 none 2 49 [.ref (V.2.2.1 0 0)] S z :=
  ct_v rfl (IsC.ok hV) (Nat.le_of_ble_eq_true rfl) (fun _ _ hC => w_Co_keepForUndo_b0 hV hC S h)
def f_Co_days_b59 (S : Mem) : Option (Int32 × Mem) :=
  some (S.1 4 0, S)
def f_Co_days_b22 (k22 : Int32 → Int32 → Mem → Option (Int32 × Mem)) (x1 : Int32) (x2 : Int32) (S : Mem) : Option (Int32 × Mem) :=
  if x1 ≤ x2 then
    Option.bind (f_Co_changed S) (fun q56 =>
    f_Co_days_b59 q56)
  else
    gTx (S.1 0 11) (
    gTx (S.1 0 11) (
    Option.bind (f_Dy_pass ((S.1 0 11).toNatClampNeg) 4 (S.1 ((S.1 0 11).toNatClampNeg) 7) S) (fun q46 =>
    k22 x1 (x2 + 1) q46)))
def f_Co_days_l22 : Nat → Int32 → Int32 → Mem → Option (Int32 × Mem)
  | 0 => fun _ _ _ => none
  | n + 1 => f_Co_days_b22  (f_Co_days_l22  n)
def f_Co_days_b0 (x1 : Int32) (S : Mem) : Option (Int32 × Mem) :=
  if x1 < 0 then
    some ((-1), S)
  else
    if x1 ≤ 100 then
      if x1 ≤ 0 then
        f_Co_days_b59 S
      else
        Option.bind (f_Co_keepForUndo S) (fun q17 =>
        f_Co_days_l22 5000 x1 0 q17)
    else
      some ((-1), S)
def f_Co_days (x1 : Int32) (S : Mem) : Option (Int32 × Mem) := f_Co_days_b0  x1 S
theorem d_Co_days_0 : decode bc_Co_days 0 = .ok (.iload_n 1, 1) := by decide +kernel
theorem d_Co_days_1 : decode bc_Co_days 1 = .ok (.ifCond .lt 9, 3) := by decide +kernel
theorem d_Co_days_4 : decode bc_Co_days 4 = .ok (.iload_n 1, 1) := by decide +kernel
theorem d_Co_days_5 : decode bc_Co_days 5 = .ok (.bipush 100, 2) := by decide +kernel
theorem d_Co_days_7 : decode bc_Co_days 7 = .ok (.if_icmp .le 5, 3) := by decide +kernel
theorem d_Co_days_10 : decode bc_Co_days 10 = .ok (.iconst (-1), 1) := by decide +kernel
theorem d_Co_days_11 : decode bc_Co_days 11 = .ok (.ireturn, 1) := by decide +kernel
theorem d_Co_days_12 : decode bc_Co_days 12 = .ok (.iload_n 1, 1) := by decide +kernel
theorem d_Co_days_13 : decode bc_Co_days 13 = .ok (.ifCond .le 46, 3) := by decide +kernel
theorem d_Co_days_16 : decode bc_Co_days 16 = .ok (.aload_n 0, 1) := by decide +kernel
theorem d_Co_days_17 : decode bc_Co_days 17 = .ok (.invokevirtual 248, 3) := by decide +kernel
theorem d_Co_days_20 : decode bc_Co_days 20 = .ok (.iconst 0, 1) := by decide +kernel
theorem d_Co_days_21 : decode bc_Co_days 21 = .ok (.istore_n 2, 1) := by decide +kernel
theorem d_Co_days_22 : decode bc_Co_days 22 = .ok (.iload_n 2, 1) := by decide +kernel
theorem d_Co_days_23 : decode bc_Co_days 23 = .ok (.iload_n 1, 1) := by decide +kernel
theorem d_Co_days_24 : decode bc_Co_days 24 = .ok (.if_icmp .ge 31, 3) := by decide +kernel
theorem d_Co_days_27 : decode bc_Co_days 27 = .ok (.aload_n 0, 1) := by decide +kernel
theorem d_Co_days_28 : decode bc_Co_days 28 = .ok (.getfield 45, 3) := by decide +kernel
theorem d_Co_days_31 : decode bc_Co_days 31 = .ok (.aload_n 0, 1) := by decide +kernel
theorem d_Co_days_32 : decode bc_Co_days 32 = .ok (.getfield 85, 3) := by decide +kernel
theorem d_Co_days_35 : decode bc_Co_days 35 = .ok (.aload_n 0, 1) := by decide +kernel
theorem d_Co_days_36 : decode bc_Co_days 36 = .ok (.getfield 35, 3) := by decide +kernel
theorem d_Co_days_39 : decode bc_Co_days 39 = .ok (.aload_n 0, 1) := by decide +kernel
theorem d_Co_days_40 : decode bc_Co_days 40 = .ok (.getfield 85, 3) := by decide +kernel
theorem d_Co_days_43 : decode bc_Co_days 43 = .ok (.getfield 251, 3) := by decide +kernel
theorem d_Co_days_46 : decode bc_Co_days 46 = .ok (.invokevirtual 254, 3) := by decide +kernel
theorem d_Co_days_49 : decode bc_Co_days 49 = .ok (.iinc 2 1, 3) := by decide +kernel
theorem d_Co_days_52 : decode bc_Co_days 52 = .ok (.goto (-30), 3) := by decide +kernel
theorem d_Co_days_55 : decode bc_Co_days 55 = .ok (.aload_n 0, 1) := by decide +kernel
theorem d_Co_days_56 : decode bc_Co_days 56 = .ok (.invokevirtual 141, 3) := by decide +kernel
theorem d_Co_days_59 : decode bc_Co_days 59 = .ok (.aload_n 0, 1) := by decide +kernel
theorem d_Co_days_60 : decode bc_Co_days 60 = .ok (.getfield 35, 3) := by decide +kernel
theorem d_Co_days_63 : decode bc_Co_days 63 = .ok (.getfield 233, 3) := by decide +kernel
theorem d_Co_days_66 : decode bc_Co_days 66 = .ok (.ireturn, 1) := by decide +kernel
set_option maxRecDepth 20000 in
theorem w_Co_days_b59 {X : CX} {V : WV} (hV : IsC V) {z : Int32 × Mem} (hC : Ck X V bc_Co_days 3 "SecretWells" (some .int) 5 129) (S : Mem) (h : f_Co_days_b59  S = some z) : G X V 3 (QI X V z.1 z.2) 59 [some (.ref (V.2.2.1 0 0)), none, none] [] S := by
  unfold f_Co_days_b59 at h
  refine g_aload_n (pc := 59) hC (i := 0) (x := (V.2.2.1 0 0)) rfl rfl d_Co_days_59 ?_
  refine g_getC (pc := 60) hC (j := 4) fo_Co_35 (ob_Co hV) rfl d_Co_days_60 ?_
  refine g_getI (pc := 63) hC fo_Co_233 (ob_St hV is_4) rfl d_Co_days_63 ?_
  exact g_iW (pc := 66) hC rfl d_Co_days_66 h
set_option maxRecDepth 20000 in
theorem w_Co_days_b22 {X : CX} {V : WV} (hV : IsC V) {z : Int32 × Mem} (hC : Ck X V bc_Co_days 3 "SecretWells" (some .int) 5 129) (k22 : Int32 → Int32 → Mem → Option (Int32 × Mem)) (hk22 : ∀ (x1 : Int32) (x2 : Int32) (S : Mem), k22 x1 x2 S = some z → G X V 3 (QI X V z.1 z.2) 22 [some (.ref (V.2.2.1 0 0)), some (.int x1), some (.int x2)] [] S) (x1 : Int32) (x2 : Int32) (S : Mem) (h : f_Co_days_b22  k22 x1 x2 S = some z) : G X V 3 (QI X V z.1 z.2) 22 [some (.ref (V.2.2.1 0 0)), some (.int x1), some (.int x2)] [] S := by
  unfold f_Co_days_b22 at h
  refine g_iload_n (pc := 22) hC (i := 2) (x := x2) rfl rfl d_Co_days_22 ?_
  refine g_iload_n (pc := 23) hC (i := 1) (x := x1) rfl rfl d_Co_days_23 ?_
  refine g_icmp_ge (pc := 24) hC (tgt := 55) (by decide) d_Co_days_24 h (fun h => ?_) (fun h => ?_)
  · refine g_aload_n (pc := 55) hC (i := 0) (x := (V.2.2.1 0 0)) rfl rfl d_Co_days_55 ?_
    obtain ⟨q56, hq56, h⟩ := Option.bind_eq_some_iff.mp h
    refine g_vv (pc := 56) hC (As := []) (st := []) mt_Co_changed lk_Co_141 rfl (ob_Co hV) (Nat.le_of_ble_eq_true rfl) ⟨Nat.le_of_ble_eq_true rfl, Nat.le_of_ble_eq_true rfl⟩ rfl d_Co_days_56 (c_Co_changed hV hq56) ?_
    refine g_le (lv2 := [some (.ref (V.2.2.1 0 0)), none, none]) (⟨rfl, trivial⟩) ?_
    exact w_Co_days_b59 hV hC q56 h
  · refine g_aload_n (pc := 27) hC (i := 0) (x := (V.2.2.1 0 0)) rfl rfl d_Co_days_27 ?_
    refine g_getC (pc := 28) hC (j := 6) fo_Co_45 (ob_Co hV) rfl d_Co_days_28 ?_
    refine g_aload_n (pc := 31) hC (i := 0) (x := (V.2.2.1 0 0)) rfl rfl d_Co_days_31 ?_
    refine g_getM (pc := 32) hC fo_Co_85 (ob_Co hV) rfl d_Co_days_32 ?_
    obtain ⟨ht32, h⟩ := gTx_some h
    refine g_aload_n (pc := 35) hC (i := 0) (x := (V.2.2.1 0 0)) rfl rfl d_Co_days_35 ?_
    refine g_getC (pc := 36) hC (j := 4) fo_Co_35 (ob_Co hV) rfl d_Co_days_36 ?_
    refine g_aload_n (pc := 39) hC (i := 0) (x := (V.2.2.1 0 0)) rfl rfl d_Co_days_39 ?_
    refine g_getM (pc := 40) hC fo_Co_85 (ob_Co hV) rfl d_Co_days_40 ?_
    obtain ⟨ht40, h⟩ := gTx_some h
    refine g_getI (pc := 43) hC fo_Co_251 (ob_Tx hV ht40) rfl d_Co_days_43 ?_
    obtain ⟨q46, hq46, h⟩ := Option.bind_eq_some_iff.mp h
    refine g_vv (pc := 46) hC (As := [.ref (V.2.2.1 ((S.1 0 11).toNatClampNeg) 0), .ref (V.2.2.1 4 0), .int (S.1 ((S.1 0 11).toNatClampNeg) 7)]) (st := []) mt_Dy_pass lk_Co_254 rfl (ob_Dy hV) (Nat.le_of_ble_eq_true rfl) ⟨Nat.le_of_ble_eq_true rfl, Nat.le_of_ble_eq_true rfl⟩ rfl d_Co_days_46 (c_Dy_pass hV ht32 is_4 hq46) ?_
    refine s_iinc (pc := 49) hC (i := 2) (x := x2) (v := x2 + 1) rfl (by rw [kc_1]) (by decide) d_Co_days_49 (lv2 := [some (.ref (V.2.2.1 0 0)), some (.int x1), some (.int (x2 + 1))]) rfl ?_
    refine g_goto (pc := 52) hC (tgt := 22) (by decide) d_Co_days_52 ?_
    exact hk22 x1 (x2 + 1) q46 h
theorem w_Co_days_l22 {X : CX} {V : WV} (hV : IsC V) {z : Int32 × Mem} (hC : Ck X V bc_Co_days 3 "SecretWells" (some .int) 5 129) : ∀ (n : Nat) (x1 : Int32) (x2 : Int32) (S : Mem), f_Co_days_l22  n x1 x2 S = some z → G X V 3 (QI X V z.1 z.2) 22 [some (.ref (V.2.2.1 0 0)), some (.int x1), some (.int x2)] [] S := by
  intro n
  induction n with
  | zero =>
    intro x1 x2 S h
    have h : (none : Option (Int32 × Mem)) = some z := h
    cases h
  | succ n ih =>
    intro x1 x2 S h
    exact w_Co_days_b22 hV hC (f_Co_days_l22  n) ih x1 x2 S h
set_option maxRecDepth 20000 in
theorem w_Co_days_b0 {X : CX} {V : WV} (hV : IsC V) {z : Int32 × Mem} (hC : Ck X V bc_Co_days 3 "SecretWells" (some .int) 5 129) (x1 : Int32) (S : Mem) (h : f_Co_days_b0  x1 S = some z) : G X V 3 (QI X V z.1 z.2) 0 [some (.ref (V.2.2.1 0 0)), some (.int x1), none] [] S := by
  unfold f_Co_days_b0 at h
  refine g_iload_n (pc := 0) hC (i := 1) (x := x1) rfl rfl d_Co_days_0 ?_
  refine g_if_lt (pc := 1) hC (tgt := 10) (by decide) d_Co_days_1 h (fun h => ?_) (fun h => ?_)
  · refine g_iconst (pc := 10) hC kc_m1 d_Co_days_10 ?_
    exact g_iW (pc := 11) hC rfl d_Co_days_11 h
  · refine g_iload_n (pc := 4) hC (i := 1) (x := x1) rfl rfl d_Co_days_4 ?_
    refine g_bipush (pc := 5) hC kb_100 d_Co_days_5 ?_
    refine g_icmp_le (pc := 7) hC (tgt := 12) (by decide) d_Co_days_7 h (fun h => ?_) (fun h => ?_)
    · refine g_iload_n (pc := 12) hC (i := 1) (x := x1) rfl rfl d_Co_days_12 ?_
      refine g_if_le (pc := 13) hC (tgt := 59) (by decide) d_Co_days_13 h (fun h => ?_) (fun h => ?_)
      · refine g_le (lv2 := [some (.ref (V.2.2.1 0 0)), none, none]) (⟨rfl, trivial⟩) ?_
        exact w_Co_days_b59 hV hC S h
      · refine g_aload_n (pc := 16) hC (i := 0) (x := (V.2.2.1 0 0)) rfl rfl d_Co_days_16 ?_
        obtain ⟨q17, hq17, h⟩ := Option.bind_eq_some_iff.mp h
        refine g_vv (pc := 17) hC (As := []) (st := []) mt_Co_keepForUndo lk_Co_248 rfl (ob_Co hV) (Nat.le_of_ble_eq_true rfl) ⟨Nat.le_of_ble_eq_true rfl, Nat.le_of_ble_eq_true rfl⟩ rfl d_Co_days_17 (c_Co_keepForUndo hV hq17) ?_
        refine g_iconst (pc := 20) hC kc_0 d_Co_days_20 ?_
        refine s_istore_n (pc := 21) hC (i := 2) rfl (by decide) d_Co_days_21 (lv2 := [some (.ref (V.2.2.1 0 0)), some (.int x1), some (.int 0)]) rfl ?_
        exact w_Co_days_l22 hV hC 5000 x1 0 q17 h
    · refine g_iconst (pc := 10) hC kc_m1 d_Co_days_10 ?_
      exact g_iW (pc := 11) hC rfl d_Co_days_11 h
theorem c_Co_days {V : WV} {l : Launch} (hV : IsC V) {x1 : Int32} {S : Mem} {z : Int32 × Mem} (h : f_Co_days x1 S = some z) : CI V l y_Co_days bc_Co_days 3 (some .int) 5 129 [.ref (V.2.2.1 0 0), .int x1] S z.1 z.2 :=
  ct_i rfl (IsC.ok hV) (Nat.le_of_ble_eq_true rfl) (fun _ _ hC => w_Co_days_b0 hV hC x1 S h)
def f_Co_whisperInto_b0 (x1 : Int32) (x2 : Int32) (x3 : Int32) (x4 : Int32) (S : Mem) : Option (Int32 × Mem) :=
  Option.bind (f_Co_isMan x1 S) (fun q2 =>
  if q2 = 0 then
    some ((-1), S)
  else
    Option.bind (f_Co_isSecret x2 S) (fun q10 =>
    if q10 = 0 then
      some ((-1), S)
    else
      Option.bind (f_Co_isWell x3 S) (fun q18 =>
      if q18 = 0 then
        some ((-1), S)
      else
        Option.bind (f_St_isAlive 4 x1 S) (fun q31 =>
        if q31 = 0 then
          some ((-2), S)
        else
          Option.bind (f_St_isKnownTo 4 x1 x2 S) (fun q43 =>
          if q43 = 0 then
            some ((-2), S)
          else
            gIn x2 8 (
            if (S.2.1 4 8 x2.toNatClampNeg) = x3 then
              some ((-2), S)
            else
              Option.bind (f_Co_keepForUndo S) (fun q66 =>
              gIn x2 8 (letS (sA q66 4 8 x2 x3) (fun S78 =>
              letS (pI S78 4 3 ((S78.1 4 3) + 1)) (fun S89 =>
              gIn x3 4 (
              gIn x3 4 (letS (sA S89 4 4 x3 (jMmax 0 ((S89.2.1 4 4 x3.toNatClampNeg) - x4))) (fun S116 =>
              Option.bind (f_Co_changed S116) (fun q118 =>
              gIn x3 4 (
              some (q118.2.1 4 9 x3.toNatClampNeg, q118))))))))))))))))
def f_Co_whisperInto (x1 : Int32) (x2 : Int32) (x3 : Int32) (x4 : Int32) (S : Mem) : Option (Int32 × Mem) := f_Co_whisperInto_b0  x1 x2 x3 x4 S
theorem d_Co_whisperInto_0 : decode bc_Co_whisperInto 0 = .ok (.aload_n 0, 1) := by decide +kernel
theorem d_Co_whisperInto_1 : decode bc_Co_whisperInto 1 = .ok (.iload_n 1, 1) := by decide +kernel
theorem d_Co_whisperInto_2 : decode bc_Co_whisperInto 2 = .ok (.invokevirtual 169, 3) := by decide +kernel
theorem d_Co_whisperInto_5 : decode bc_Co_whisperInto 5 = .ok (.ifCond .eq 19, 3) := by decide +kernel
theorem d_Co_whisperInto_8 : decode bc_Co_whisperInto 8 = .ok (.aload_n 0, 1) := by decide +kernel
theorem d_Co_whisperInto_9 : decode bc_Co_whisperInto 9 = .ok (.iload_n 2, 1) := by decide +kernel
theorem d_Co_whisperInto_10 : decode bc_Co_whisperInto 10 = .ok (.invokevirtual 187, 3) := by decide +kernel
theorem d_Co_whisperInto_13 : decode bc_Co_whisperInto 13 = .ok (.ifCond .eq 11, 3) := by decide +kernel
theorem d_Co_whisperInto_16 : decode bc_Co_whisperInto 16 = .ok (.aload_n 0, 1) := by decide +kernel
theorem d_Co_whisperInto_17 : decode bc_Co_whisperInto 17 = .ok (.iload_n 3, 1) := by decide +kernel
theorem d_Co_whisperInto_18 : decode bc_Co_whisperInto 18 = .ok (.invokevirtual 144, 3) := by decide +kernel
theorem d_Co_whisperInto_21 : decode bc_Co_whisperInto 21 = .ok (.ifCond .ne 5, 3) := by decide +kernel
theorem d_Co_whisperInto_24 : decode bc_Co_whisperInto 24 = .ok (.iconst (-1), 1) := by decide +kernel
theorem d_Co_whisperInto_25 : decode bc_Co_whisperInto 25 = .ok (.ireturn, 1) := by decide +kernel
theorem d_Co_whisperInto_26 : decode bc_Co_whisperInto 26 = .ok (.aload_n 0, 1) := by decide +kernel
theorem d_Co_whisperInto_27 : decode bc_Co_whisperInto 27 = .ok (.getfield 35, 3) := by decide +kernel
theorem d_Co_whisperInto_30 : decode bc_Co_whisperInto 30 = .ok (.iload_n 1, 1) := by decide +kernel
theorem d_Co_whisperInto_31 : decode bc_Co_whisperInto 31 = .ok (.invokevirtual 172, 3) := by decide +kernel
theorem d_Co_whisperInto_34 : decode bc_Co_whisperInto 34 = .ok (.ifCond .eq 28, 3) := by decide +kernel
theorem d_Co_whisperInto_37 : decode bc_Co_whisperInto 37 = .ok (.aload_n 0, 1) := by decide +kernel
theorem d_Co_whisperInto_38 : decode bc_Co_whisperInto 38 = .ok (.getfield 35, 3) := by decide +kernel
theorem d_Co_whisperInto_41 : decode bc_Co_whisperInto 41 = .ok (.iload_n 1, 1) := by decide +kernel
theorem d_Co_whisperInto_42 : decode bc_Co_whisperInto 42 = .ok (.iload_n 2, 1) := by decide +kernel
theorem d_Co_whisperInto_43 : decode bc_Co_whisperInto 43 = .ok (.invokevirtual 265, 3) := by decide +kernel
theorem d_Co_whisperInto_46 : decode bc_Co_whisperInto 46 = .ok (.ifCond .eq 16, 3) := by decide +kernel
theorem d_Co_whisperInto_49 : decode bc_Co_whisperInto 49 = .ok (.aload_n 0, 1) := by decide +kernel
theorem d_Co_whisperInto_50 : decode bc_Co_whisperInto 50 = .ok (.getfield 35, 3) := by decide +kernel
theorem d_Co_whisperInto_53 : decode bc_Co_whisperInto 53 = .ok (.getfield 202, 3) := by decide +kernel
theorem d_Co_whisperInto_56 : decode bc_Co_whisperInto 56 = .ok (.iload_n 2, 1) := by decide +kernel
theorem d_Co_whisperInto_57 : decode bc_Co_whisperInto 57 = .ok (.iaload, 1) := by decide +kernel
theorem d_Co_whisperInto_58 : decode bc_Co_whisperInto 58 = .ok (.iload_n 3, 1) := by decide +kernel
theorem d_Co_whisperInto_59 : decode bc_Co_whisperInto 59 = .ok (.if_icmp .ne 6, 3) := by decide +kernel
theorem d_Co_whisperInto_62 : decode bc_Co_whisperInto 62 = .ok (.bipush (-2), 2) := by decide +kernel
theorem d_Co_whisperInto_64 : decode bc_Co_whisperInto 64 = .ok (.ireturn, 1) := by decide +kernel
theorem d_Co_whisperInto_65 : decode bc_Co_whisperInto 65 = .ok (.aload_n 0, 1) := by decide +kernel
theorem d_Co_whisperInto_66 : decode bc_Co_whisperInto 66 = .ok (.invokevirtual 248, 3) := by decide +kernel
theorem d_Co_whisperInto_69 : decode bc_Co_whisperInto 69 = .ok (.aload_n 0, 1) := by decide +kernel
theorem d_Co_whisperInto_70 : decode bc_Co_whisperInto 70 = .ok (.getfield 35, 3) := by decide +kernel
theorem d_Co_whisperInto_73 : decode bc_Co_whisperInto 73 = .ok (.getfield 202, 3) := by decide +kernel
theorem d_Co_whisperInto_76 : decode bc_Co_whisperInto 76 = .ok (.iload_n 2, 1) := by decide +kernel
theorem d_Co_whisperInto_77 : decode bc_Co_whisperInto 77 = .ok (.iload_n 3, 1) := by decide +kernel
theorem d_Co_whisperInto_78 : decode bc_Co_whisperInto 78 = .ok (.iastore, 1) := by decide +kernel
theorem d_Co_whisperInto_79 : decode bc_Co_whisperInto 79 = .ok (.aload_n 0, 1) := by decide +kernel
theorem d_Co_whisperInto_80 : decode bc_Co_whisperInto 80 = .ok (.getfield 35, 3) := by decide +kernel
theorem d_Co_whisperInto_83 : decode bc_Co_whisperInto 83 = .ok (.dup, 1) := by decide +kernel
theorem d_Co_whisperInto_84 : decode bc_Co_whisperInto 84 = .ok (.getfield 239, 3) := by decide +kernel
theorem d_Co_whisperInto_87 : decode bc_Co_whisperInto 87 = .ok (.iconst 1, 1) := by decide +kernel
theorem d_Co_whisperInto_88 : decode bc_Co_whisperInto 88 = .ok (.iadd, 1) := by decide +kernel
theorem d_Co_whisperInto_89 : decode bc_Co_whisperInto 89 = .ok (.putfield 239, 3) := by decide +kernel
theorem d_Co_whisperInto_92 : decode bc_Co_whisperInto 92 = .ok (.aload_n 0, 1) := by decide +kernel
theorem d_Co_whisperInto_93 : decode bc_Co_whisperInto 93 = .ok (.getfield 35, 3) := by decide +kernel
theorem d_Co_whisperInto_96 : decode bc_Co_whisperInto 96 = .ok (.getfield 152, 3) := by decide +kernel
theorem d_Co_whisperInto_99 : decode bc_Co_whisperInto 99 = .ok (.iload_n 3, 1) := by decide +kernel
theorem d_Co_whisperInto_100 : decode bc_Co_whisperInto 100 = .ok (.iconst 0, 1) := by decide +kernel
theorem d_Co_whisperInto_101 : decode bc_Co_whisperInto 101 = .ok (.aload_n 0, 1) := by decide +kernel
theorem d_Co_whisperInto_102 : decode bc_Co_whisperInto 102 = .ok (.getfield 35, 3) := by decide +kernel
theorem d_Co_whisperInto_105 : decode bc_Co_whisperInto 105 = .ok (.getfield 152, 3) := by decide +kernel
theorem d_Co_whisperInto_108 : decode bc_Co_whisperInto 108 = .ok (.iload_n 3, 1) := by decide +kernel
theorem d_Co_whisperInto_109 : decode bc_Co_whisperInto 109 = .ok (.iaload, 1) := by decide +kernel
theorem d_Co_whisperInto_110 : decode bc_Co_whisperInto 110 = .ok (.iload 4, 2) := by decide +kernel
theorem d_Co_whisperInto_112 : decode bc_Co_whisperInto 112 = .ok (.isub, 1) := by decide +kernel
theorem d_Co_whisperInto_113 : decode bc_Co_whisperInto 113 = .ok (.invokestatic 269, 3) := by decide +kernel
theorem d_Co_whisperInto_116 : decode bc_Co_whisperInto 116 = .ok (.iastore, 1) := by decide +kernel
theorem d_Co_whisperInto_117 : decode bc_Co_whisperInto 117 = .ok (.aload_n 0, 1) := by decide +kernel
theorem d_Co_whisperInto_118 : decode bc_Co_whisperInto 118 = .ok (.invokevirtual 141, 3) := by decide +kernel
theorem d_Co_whisperInto_121 : decode bc_Co_whisperInto 121 = .ok (.aload_n 0, 1) := by decide +kernel
theorem d_Co_whisperInto_122 : decode bc_Co_whisperInto 122 = .ok (.getfield 35, 3) := by decide +kernel
theorem d_Co_whisperInto_125 : decode bc_Co_whisperInto 125 = .ok (.getfield 148, 3) := by decide +kernel
theorem d_Co_whisperInto_128 : decode bc_Co_whisperInto 128 = .ok (.iload_n 3, 1) := by decide +kernel
theorem d_Co_whisperInto_129 : decode bc_Co_whisperInto 129 = .ok (.iaload, 1) := by decide +kernel
theorem d_Co_whisperInto_130 : decode bc_Co_whisperInto 130 = .ok (.ireturn, 1) := by decide +kernel
set_option maxRecDepth 20000 in
theorem w_Co_whisperInto_b0 {X : CX} {V : WV} (hV : IsC V) {z : Int32 × Mem} (hC : Ck X V bc_Co_whisperInto 5 "SecretWells" (some .int) 3 69) (x1 : Int32) (x2 : Int32) (x3 : Int32) (x4 : Int32) (S : Mem) (h : f_Co_whisperInto_b0  x1 x2 x3 x4 S = some z) : G X V 5 (QI X V z.1 z.2) 0 [some (.ref (V.2.2.1 0 0)), some (.int x1), some (.int x2), some (.int x3), some (.int x4)] [] S := by
  unfold f_Co_whisperInto_b0 at h
  refine g_aload_n (pc := 0) hC (i := 0) (x := (V.2.2.1 0 0)) rfl rfl d_Co_whisperInto_0 ?_
  refine g_iload_n (pc := 1) hC (i := 1) (x := x1) rfl rfl d_Co_whisperInto_1 ?_
  obtain ⟨q2, hq2, h⟩ := Option.bind_eq_some_iff.mp h
  refine g_vi (pc := 2) hC (As := [.int x1]) (st := []) mt_Co_isMan lk_Co_169 rfl (ob_Co hV) (Nat.le_of_ble_eq_true rfl) ⟨Nat.le_of_ble_eq_true rfl, Nat.le_of_ble_eq_true rfl⟩ rfl d_Co_whisperInto_2 (c_Co_isMan hV hq2) ?_
  refine g_if_eq (pc := 5) hC (tgt := 24) (by decide) d_Co_whisperInto_5 h (fun h => ?_) (fun h => ?_)
  · refine g_iconst (pc := 24) hC kc_m1 d_Co_whisperInto_24 ?_
    exact g_iW (pc := 25) hC rfl d_Co_whisperInto_25 h
  · refine g_aload_n (pc := 8) hC (i := 0) (x := (V.2.2.1 0 0)) rfl rfl d_Co_whisperInto_8 ?_
    refine g_iload_n (pc := 9) hC (i := 2) (x := x2) rfl rfl d_Co_whisperInto_9 ?_
    obtain ⟨q10, hq10, h⟩ := Option.bind_eq_some_iff.mp h
    refine g_vi (pc := 10) hC (As := [.int x2]) (st := []) mt_Co_isSecret lk_Co_187 rfl (ob_Co hV) (Nat.le_of_ble_eq_true rfl) ⟨Nat.le_of_ble_eq_true rfl, Nat.le_of_ble_eq_true rfl⟩ rfl d_Co_whisperInto_10 (c_Co_isSecret hV hq10) ?_
    refine g_if_eq (pc := 13) hC (tgt := 24) (by decide) d_Co_whisperInto_13 h (fun h => ?_) (fun h => ?_)
    · refine g_iconst (pc := 24) hC kc_m1 d_Co_whisperInto_24 ?_
      exact g_iW (pc := 25) hC rfl d_Co_whisperInto_25 h
    · refine g_aload_n (pc := 16) hC (i := 0) (x := (V.2.2.1 0 0)) rfl rfl d_Co_whisperInto_16 ?_
      refine g_iload_n (pc := 17) hC (i := 3) (x := x3) rfl rfl d_Co_whisperInto_17 ?_
      obtain ⟨q18, hq18, h⟩ := Option.bind_eq_some_iff.mp h
      refine g_vi (pc := 18) hC (As := [.int x3]) (st := []) mt_Co_isWell lk_Co_144 rfl (ob_Co hV) (Nat.le_of_ble_eq_true rfl) ⟨Nat.le_of_ble_eq_true rfl, Nat.le_of_ble_eq_true rfl⟩ rfl d_Co_whisperInto_18 (c_Co_isWell hV hq18) ?_
      refine g_if_ne (pc := 21) hC (tgt := 26) (by decide) d_Co_whisperInto_21 h (fun h => ?_) (fun h => ?_)
      · refine g_aload_n (pc := 26) hC (i := 0) (x := (V.2.2.1 0 0)) rfl rfl d_Co_whisperInto_26 ?_
        refine g_getC (pc := 27) hC (j := 4) fo_Co_35 (ob_Co hV) rfl d_Co_whisperInto_27 ?_
        refine g_iload_n (pc := 30) hC (i := 1) (x := x1) rfl rfl d_Co_whisperInto_30 ?_
        obtain ⟨q31, hq31, h⟩ := Option.bind_eq_some_iff.mp h
        refine g_vi (pc := 31) hC (As := [.int x1]) (st := []) mt_St_isAlive lk_Co_172 rfl (ob_St hV is_4) (Nat.le_of_ble_eq_true rfl) ⟨Nat.le_of_ble_eq_true rfl, Nat.le_of_ble_eq_true rfl⟩ rfl d_Co_whisperInto_31 (c_St_isAlive hV is_4 hq31) ?_
        refine g_if_eq (pc := 34) hC (tgt := 62) (by decide) d_Co_whisperInto_34 h (fun h => ?_) (fun h => ?_)
        · refine g_bipush (pc := 62) hC kb_m2 d_Co_whisperInto_62 ?_
          exact g_iW (pc := 64) hC rfl d_Co_whisperInto_64 h
        · refine g_aload_n (pc := 37) hC (i := 0) (x := (V.2.2.1 0 0)) rfl rfl d_Co_whisperInto_37 ?_
          refine g_getC (pc := 38) hC (j := 4) fo_Co_35 (ob_Co hV) rfl d_Co_whisperInto_38 ?_
          refine g_iload_n (pc := 41) hC (i := 1) (x := x1) rfl rfl d_Co_whisperInto_41 ?_
          refine g_iload_n (pc := 42) hC (i := 2) (x := x2) rfl rfl d_Co_whisperInto_42 ?_
          obtain ⟨q43, hq43, h⟩ := Option.bind_eq_some_iff.mp h
          refine g_vi (pc := 43) hC (As := [.int x1, .int x2]) (st := []) mt_St_isKnownTo lk_Co_265 rfl (ob_St hV is_4) (Nat.le_of_ble_eq_true rfl) ⟨Nat.le_of_ble_eq_true rfl, Nat.le_of_ble_eq_true rfl⟩ rfl d_Co_whisperInto_43 (c_St_isKnownTo hV is_4 hq43) ?_
          refine g_if_eq (pc := 46) hC (tgt := 62) (by decide) d_Co_whisperInto_46 h (fun h => ?_) (fun h => ?_)
          · refine g_bipush (pc := 62) hC kb_m2 d_Co_whisperInto_62 ?_
            exact g_iW (pc := 64) hC rfl d_Co_whisperInto_64 h
          · refine g_aload_n (pc := 49) hC (i := 0) (x := (V.2.2.1 0 0)) rfl rfl d_Co_whisperInto_49 ?_
            refine g_getC (pc := 50) hC (j := 4) fo_Co_35 (ob_Co hV) rfl d_Co_whisperInto_50 ?_
            refine g_getA (pc := 53) hC fo_Co_202 (ob_St hV is_4) rfl d_Co_whisperInto_53 ?_
            refine g_iload_n (pc := 56) hC (i := 2) (x := x2) rfl rfl d_Co_whisperInto_56 ?_
            refine g_iald (pc := 57) hC (ar_St_8 hV is_4) d_Co_whisperInto_57 h (fun h => ?_)
            refine g_iload_n (pc := 58) hC (i := 3) (x := x3) rfl rfl d_Co_whisperInto_58 ?_
            refine g_icmp_ne (pc := 59) hC (tgt := 65) (by decide) d_Co_whisperInto_59 h (fun h => ?_) (fun h => ?_)
            · refine g_aload_n (pc := 65) hC (i := 0) (x := (V.2.2.1 0 0)) rfl rfl d_Co_whisperInto_65 ?_
              obtain ⟨q66, hq66, h⟩ := Option.bind_eq_some_iff.mp h
              refine g_vv (pc := 66) hC (As := []) (st := []) mt_Co_keepForUndo lk_Co_248 rfl (ob_Co hV) (Nat.le_of_ble_eq_true rfl) ⟨Nat.le_of_ble_eq_true rfl, Nat.le_of_ble_eq_true rfl⟩ rfl d_Co_whisperInto_66 (c_Co_keepForUndo hV hq66) ?_
              refine g_aload_n (pc := 69) hC (i := 0) (x := (V.2.2.1 0 0)) rfl rfl d_Co_whisperInto_69 ?_
              refine g_getC (pc := 70) hC (j := 4) fo_Co_35 (ob_Co hV) rfl d_Co_whisperInto_70 ?_
              refine g_getA (pc := 73) hC fo_Co_202 (ob_St hV is_4) rfl d_Co_whisperInto_73 ?_
              refine g_iload_n (pc := 76) hC (i := 2) (x := x2) rfl rfl d_Co_whisperInto_76 ?_
              refine g_iload_n (pc := 77) hC (i := 3) (x := x3) rfl rfl d_Co_whisperInto_77 ?_
              refine g_iast (pc := 78) hC (ar_St_8 hV is_4) d_Co_whisperInto_78 h (fun h => ?_)
              refine g_letS h (fun S78 h => ?_)
              refine g_aload_n (pc := 79) hC (i := 0) (x := (V.2.2.1 0 0)) rfl rfl d_Co_whisperInto_79 ?_
              refine g_getC (pc := 80) hC (j := 4) fo_Co_35 (ob_Co hV) rfl d_Co_whisperInto_80 ?_
              refine g_dup (pc := 83) hC rfl d_Co_whisperInto_83 ?_
              refine g_getI (pc := 84) hC fo_Co_239 (ob_St hV is_4) rfl d_Co_whisperInto_84 ?_
              refine g_iconst (pc := 87) hC kc_1 d_Co_whisperInto_87 ?_
              refine g_iadd (pc := 88) hC d_Co_whisperInto_88 ?_
              refine g_putI (pc := 89) hC po_Co_239 (ob_St hV is_4) rfl rfl rfl d_Co_whisperInto_89 ?_
              refine g_letS h (fun S89 h => ?_)
              refine g_aload_n (pc := 92) hC (i := 0) (x := (V.2.2.1 0 0)) rfl rfl d_Co_whisperInto_92 ?_
              refine g_getC (pc := 93) hC (j := 4) fo_Co_35 (ob_Co hV) rfl d_Co_whisperInto_93 ?_
              refine g_getA (pc := 96) hC fo_Co_152 (ob_St hV is_4) rfl d_Co_whisperInto_96 ?_
              refine g_iload_n (pc := 99) hC (i := 3) (x := x3) rfl rfl d_Co_whisperInto_99 ?_
              refine g_iconst (pc := 100) hC kc_0 d_Co_whisperInto_100 ?_
              refine g_aload_n (pc := 101) hC (i := 0) (x := (V.2.2.1 0 0)) rfl rfl d_Co_whisperInto_101 ?_
              refine g_getC (pc := 102) hC (j := 4) fo_Co_35 (ob_Co hV) rfl d_Co_whisperInto_102 ?_
              refine g_getA (pc := 105) hC fo_Co_152 (ob_St hV is_4) rfl d_Co_whisperInto_105 ?_
              refine g_iload_n (pc := 108) hC (i := 3) (x := x3) rfl rfl d_Co_whisperInto_108 ?_
              refine g_iald (pc := 109) hC (ar_St_4 hV is_4) d_Co_whisperInto_109 h (fun h => ?_)
              refine g_iload (pc := 110) hC (i := 4) (x := x4) rfl d_Co_whisperInto_110 ?_
              refine g_isub (pc := 112) hC d_Co_whisperInto_112 ?_
              refine g_mmax (pc := 113) hC lk_Co_269 (Nat.le_of_ble_eq_true rfl) ⟨Nat.le_of_ble_eq_true rfl, Nat.le_of_ble_eq_true rfl⟩ d_Co_whisperInto_113 ?_
              refine g_iast (pc := 116) hC (ar_St_4 hV is_4) d_Co_whisperInto_116 h (fun h => ?_)
              refine g_letS h (fun S116 h => ?_)
              refine g_aload_n (pc := 117) hC (i := 0) (x := (V.2.2.1 0 0)) rfl rfl d_Co_whisperInto_117 ?_
              obtain ⟨q118, hq118, h⟩ := Option.bind_eq_some_iff.mp h
              refine g_vv (pc := 118) hC (As := []) (st := []) mt_Co_changed lk_Co_141 rfl (ob_Co hV) (Nat.le_of_ble_eq_true rfl) ⟨Nat.le_of_ble_eq_true rfl, Nat.le_of_ble_eq_true rfl⟩ rfl d_Co_whisperInto_118 (c_Co_changed hV hq118) ?_
              refine g_aload_n (pc := 121) hC (i := 0) (x := (V.2.2.1 0 0)) rfl rfl d_Co_whisperInto_121 ?_
              refine g_getC (pc := 122) hC (j := 4) fo_Co_35 (ob_Co hV) rfl d_Co_whisperInto_122 ?_
              refine g_getA (pc := 125) hC fo_Co_148 (ob_St hV is_4) rfl d_Co_whisperInto_125 ?_
              refine g_iload_n (pc := 128) hC (i := 3) (x := x3) rfl rfl d_Co_whisperInto_128 ?_
              refine g_iald (pc := 129) hC (ar_St_9 hV is_4) d_Co_whisperInto_129 h (fun h => ?_)
              exact g_iW (pc := 130) hC rfl d_Co_whisperInto_130 h
            · refine g_bipush (pc := 62) hC kb_m2 d_Co_whisperInto_62 ?_
              exact g_iW (pc := 64) hC rfl d_Co_whisperInto_64 h
      · refine g_iconst (pc := 24) hC kc_m1 d_Co_whisperInto_24 ?_
        exact g_iW (pc := 25) hC rfl d_Co_whisperInto_25 h
theorem c_Co_whisperInto {V : WV} {l : Launch} (hV : IsC V) {x1 : Int32} {x2 : Int32} {x3 : Int32} {x4 : Int32} {S : Mem} {z : Int32 × Mem} (h : f_Co_whisperInto x1 x2 x3 x4 S = some z) : CI V l y_Co_whisperInto bc_Co_whisperInto 5 (some .int) 3 69 [.ref (V.2.2.1 0 0), .int x1, .int x2, .int x3, .int x4] S z.1 z.2 :=
  ct_i rfl (IsC.ok hV) (Nat.le_of_ble_eq_true rfl) (fun _ _ hC => w_Co_whisperInto_b0 hV hC x1 x2 x3 x4 S h)
