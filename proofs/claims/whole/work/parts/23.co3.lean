/-! methods of the bytecode as functions, and the machine's walks of them. By program (wip/whole/gen/make.py): St_allThirst, Rn_isBetter, Rn_attempt, Rn_seek, Rw_save, Rw_load, Sh_failed, Sh_mostOf, Sh_hasRoom, Sh_isTaken, Sh_areTaken, Sh_isRestOfSecret, Sh_isValue, Sh_isSign, Sh_isSum, Sh_isCase, Sh_isLaw, Sh_isTell, Sh_seek, St_begin, St_whisperedInto -/
def f_St_allThirst_b31 (st : Nat) (tx : Nat) (S : Mem) (k4 : Int32 → Int32 → Option (Int32)) (x3 : Int32) (s0 : Int32) (s1 : Int32) : Option (Int32) :=
  letS (s1 + s0) (fun y32 =>
  k4 y32 (x3 + 1))
def f_St_allThirst_b4 (st : Nat) (tx : Nat) (S : Mem) (k4 : Int32 → Int32 → Option (Int32)) (x2 : Int32) (x3 : Int32) : Option (Int32) :=
  if (S.1 tx 1) ≤ x3 then
    some x2
  else
    Option.bind (f_St_isAlive st x3 S) (fun q15 =>
    if q15 = 0 then
      f_St_allThirst_b31 st tx S k4 x3 0 x2
    else
      gIn x3 7 (
      f_St_allThirst_b31 st tx S k4 x3 (S.2.1 st 6 x3.toNatClampNeg) x2))
def f_St_allThirst_l4 (st : Nat) (tx : Nat) (S : Mem) : Nat → Int32 → Int32 → Option (Int32)
  | 0 => fun _ _ => none
  | n + 1 => f_St_allThirst_b4 st tx S (f_St_allThirst_l4 st tx S n)
def f_St_allThirst_b0 (st : Nat) (tx : Nat) (S : Mem) : Option (Int32) :=
  f_St_allThirst_l4 st tx S 5000 0 0
def f_St_allThirst (st : Nat) (tx : Nat) (S : Mem) : Option (Int32) := f_St_allThirst_b0 st tx S
theorem d_St_allThirst_0 : decode bc_St_allThirst 0 = .ok (.iconst 0, 1) := by decide +kernel
theorem d_St_allThirst_1 : decode bc_St_allThirst 1 = .ok (.istore_n 2, 1) := by decide +kernel
theorem d_St_allThirst_2 : decode bc_St_allThirst 2 = .ok (.iconst 0, 1) := by decide +kernel
theorem d_St_allThirst_3 : decode bc_St_allThirst 3 = .ok (.istore_n 3, 1) := by decide +kernel
theorem d_St_allThirst_4 : decode bc_St_allThirst 4 = .ok (.iload_n 3, 1) := by decide +kernel
theorem d_St_allThirst_5 : decode bc_St_allThirst 5 = .ok (.aload_n 1, 1) := by decide +kernel
theorem d_St_allThirst_6 : decode bc_St_allThirst 6 = .ok (.getfield 52, 3) := by decide +kernel
theorem d_St_allThirst_9 : decode bc_St_allThirst 9 = .ok (.if_icmp .ge 30, 3) := by decide +kernel
theorem d_St_allThirst_12 : decode bc_St_allThirst 12 = .ok (.iload_n 2, 1) := by decide +kernel
theorem d_St_allThirst_13 : decode bc_St_allThirst 13 = .ok (.aload_n 0, 1) := by decide +kernel
theorem d_St_allThirst_14 : decode bc_St_allThirst 14 = .ok (.iload_n 3, 1) := by decide +kernel
theorem d_St_allThirst_15 : decode bc_St_allThirst 15 = .ok (.invokevirtual 91, 3) := by decide +kernel
theorem d_St_allThirst_18 : decode bc_St_allThirst 18 = .ok (.ifCond .eq 12, 3) := by decide +kernel
theorem d_St_allThirst_21 : decode bc_St_allThirst 21 = .ok (.aload_n 0, 1) := by decide +kernel
theorem d_St_allThirst_22 : decode bc_St_allThirst 22 = .ok (.getfield 31, 3) := by decide +kernel
theorem d_St_allThirst_25 : decode bc_St_allThirst 25 = .ok (.iload_n 3, 1) := by decide +kernel
theorem d_St_allThirst_26 : decode bc_St_allThirst 26 = .ok (.iaload, 1) := by decide +kernel
theorem d_St_allThirst_27 : decode bc_St_allThirst 27 = .ok (.goto 4, 3) := by decide +kernel
theorem d_St_allThirst_30 : decode bc_St_allThirst 30 = .ok (.iconst 0, 1) := by decide +kernel
theorem d_St_allThirst_31 : decode bc_St_allThirst 31 = .ok (.iadd, 1) := by decide +kernel
theorem d_St_allThirst_32 : decode bc_St_allThirst 32 = .ok (.istore_n 2, 1) := by decide +kernel
theorem d_St_allThirst_33 : decode bc_St_allThirst 33 = .ok (.iinc 3 1, 3) := by decide +kernel
theorem d_St_allThirst_36 : decode bc_St_allThirst 36 = .ok (.goto (-32), 3) := by decide +kernel
theorem d_St_allThirst_39 : decode bc_St_allThirst 39 = .ok (.iload_n 2, 1) := by decide +kernel
theorem d_St_allThirst_40 : decode bc_St_allThirst 40 = .ok (.ireturn, 1) := by decide +kernel
set_option maxRecDepth 20000 in
theorem w_St_allThirst_b31 {X : CX} {V : WV} {st : Nat} {tx : Nat} (hV : IsC V) (hst : isSt st) (htx : isTx tx) {S : Mem} {z : Int32} (hC : Ck X V bc_St_allThirst 4 "SecretWells$State" (some .int) 1 21) (k4 : Int32 → Int32 → Option (Int32)) (hk4 : ∀ (x2 : Int32) (x3 : Int32), k4 x2 x3 = some z → G X V 4 (QI X V z S) 4 [some (.ref (V.2.2.1 st 0)), some (.ref (V.2.2.1 tx 0)), some (.int x2), some (.int x3)] [] S) (x3 : Int32) (s0 : Int32) (s1 : Int32) (h : f_St_allThirst_b31 st tx S k4 x3 s0 s1 = some z) : G X V 4 (QI X V z S) 31 [some (.ref (V.2.2.1 st 0)), some (.ref (V.2.2.1 tx 0)), none, some (.int x3)] [.int s0, .int s1] S := by
  unfold f_St_allThirst_b31 at h
  refine g_iadd (pc := 31) hC d_St_allThirst_31 ?_
  refine g_leti h (fun y32 h => ?_)
  refine s_istore_n (pc := 32) hC (i := 2) rfl (by decide) d_St_allThirst_32 (lv2 := [some (.ref (V.2.2.1 st 0)), some (.ref (V.2.2.1 tx 0)), some (.int y32), some (.int x3)]) rfl ?_
  refine s_iinc (pc := 33) hC (i := 3) (x := x3) (v := x3 + 1) rfl (by rw [kc_1]) (by decide) d_St_allThirst_33 (lv2 := [some (.ref (V.2.2.1 st 0)), some (.ref (V.2.2.1 tx 0)), some (.int y32), some (.int (x3 + 1))]) rfl ?_
  refine g_goto (pc := 36) hC (tgt := 4) (by decide) d_St_allThirst_36 ?_
  exact hk4 y32 (x3 + 1) h
set_option maxRecDepth 20000 in
theorem w_St_allThirst_b4 {X : CX} {V : WV} {st : Nat} {tx : Nat} (hV : IsC V) (hst : isSt st) (htx : isTx tx) {S : Mem} {z : Int32} (hC : Ck X V bc_St_allThirst 4 "SecretWells$State" (some .int) 1 21) (k4 : Int32 → Int32 → Option (Int32)) (hk4 : ∀ (x2 : Int32) (x3 : Int32), k4 x2 x3 = some z → G X V 4 (QI X V z S) 4 [some (.ref (V.2.2.1 st 0)), some (.ref (V.2.2.1 tx 0)), some (.int x2), some (.int x3)] [] S) (x2 : Int32) (x3 : Int32) (h : f_St_allThirst_b4 st tx S k4 x2 x3 = some z) : G X V 4 (QI X V z S) 4 [some (.ref (V.2.2.1 st 0)), some (.ref (V.2.2.1 tx 0)), some (.int x2), some (.int x3)] [] S := by
  unfold f_St_allThirst_b4 at h
  refine g_iload_n (pc := 4) hC (i := 3) (x := x3) rfl rfl d_St_allThirst_4 ?_
  refine g_aload_n (pc := 5) hC (i := 1) (x := (V.2.2.1 tx 0)) rfl rfl d_St_allThirst_5 ?_
  refine g_getI (pc := 6) hC fo_St_52 (ob_Tx hV htx) rfl d_St_allThirst_6 ?_
  refine g_icmp_ge (pc := 9) hC (tgt := 39) (by decide) d_St_allThirst_9 h (fun h => ?_) (fun h => ?_)
  · refine g_iload_n (pc := 39) hC (i := 2) (x := x2) rfl rfl d_St_allThirst_39 ?_
    exact g_iN (pc := 40) hC rfl d_St_allThirst_40 h
  · refine g_iload_n (pc := 12) hC (i := 2) (x := x2) rfl rfl d_St_allThirst_12 ?_
    refine g_aload_n (pc := 13) hC (i := 0) (x := (V.2.2.1 st 0)) rfl rfl d_St_allThirst_13 ?_
    refine g_iload_n (pc := 14) hC (i := 3) (x := x3) rfl rfl d_St_allThirst_14 ?_
    obtain ⟨q15, hq15, h⟩ := Option.bind_eq_some_iff.mp h
    refine g_vi (pc := 15) hC (As := [.int x3]) (st := [.int x2]) mt_St_isAlive lk_St_91 rfl (ob_St hV hst) (Nat.le_of_ble_eq_true rfl) ⟨Nat.le_of_ble_eq_true rfl, Nat.le_of_ble_eq_true rfl⟩ rfl d_St_allThirst_15 (c_St_isAlive hV hst hq15) ?_
    refine g_if_eq (pc := 18) hC (tgt := 30) (by decide) d_St_allThirst_18 h (fun h => ?_) (fun h => ?_)
    · refine g_iconst (pc := 30) hC kc_0 d_St_allThirst_30 ?_
      refine g_le (lv2 := [some (.ref (V.2.2.1 st 0)), some (.ref (V.2.2.1 tx 0)), none, some (.int x3)]) (⟨rfl, ⟨rfl, ⟨rfl, trivial⟩⟩⟩) ?_
      exact w_St_allThirst_b31 hV hst htx hC k4 hk4 x3 0 x2 h
    · refine g_aload_n (pc := 21) hC (i := 0) (x := (V.2.2.1 st 0)) rfl rfl d_St_allThirst_21 ?_
      refine g_getA (pc := 22) hC fo_St_31 (ob_St hV hst) rfl d_St_allThirst_22 ?_
      refine g_iload_n (pc := 25) hC (i := 3) (x := x3) rfl rfl d_St_allThirst_25 ?_
      refine g_iald (pc := 26) hC (ar_St_6 hV hst) d_St_allThirst_26 h (fun h => ?_)
      refine g_goto (pc := 27) hC (tgt := 31) (by decide) d_St_allThirst_27 ?_
      refine g_le (lv2 := [some (.ref (V.2.2.1 st 0)), some (.ref (V.2.2.1 tx 0)), none, some (.int x3)]) (⟨rfl, ⟨rfl, ⟨rfl, trivial⟩⟩⟩) ?_
      exact w_St_allThirst_b31 hV hst htx hC k4 hk4 x3 (S.2.1 st 6 x3.toNatClampNeg) x2 h
theorem w_St_allThirst_l4 {X : CX} {V : WV} {st : Nat} {tx : Nat} (hV : IsC V) (hst : isSt st) (htx : isTx tx) {S : Mem} {z : Int32} (hC : Ck X V bc_St_allThirst 4 "SecretWells$State" (some .int) 1 21) : ∀ (n : Nat) (x2 : Int32) (x3 : Int32), f_St_allThirst_l4 st tx S n x2 x3 = some z → G X V 4 (QI X V z S) 4 [some (.ref (V.2.2.1 st 0)), some (.ref (V.2.2.1 tx 0)), some (.int x2), some (.int x3)] [] S := by
  intro n
  induction n with
  | zero =>
    intro x2 x3 h
    have h : (none : Option (Int32)) = some z := h
    cases h
  | succ n ih =>
    intro x2 x3 h
    exact w_St_allThirst_b4 hV hst htx hC (f_St_allThirst_l4 st tx S n) ih x2 x3 h
set_option maxRecDepth 20000 in
theorem w_St_allThirst_b0 {X : CX} {V : WV} {st : Nat} {tx : Nat} (hV : IsC V) (hst : isSt st) (htx : isTx tx) {S : Mem} {z : Int32} (hC : Ck X V bc_St_allThirst 4 "SecretWells$State" (some .int) 1 21) (h : f_St_allThirst_b0 st tx S = some z) : G X V 4 (QI X V z S) 0 [some (.ref (V.2.2.1 st 0)), some (.ref (V.2.2.1 tx 0)), none, none] [] S := by
  unfold f_St_allThirst_b0 at h
  refine g_iconst (pc := 0) hC kc_0 d_St_allThirst_0 ?_
  refine s_istore_n (pc := 1) hC (i := 2) rfl (by decide) d_St_allThirst_1 (lv2 := [some (.ref (V.2.2.1 st 0)), some (.ref (V.2.2.1 tx 0)), some (.int 0), none]) rfl ?_
  refine g_iconst (pc := 2) hC kc_0 d_St_allThirst_2 ?_
  refine s_istore_n (pc := 3) hC (i := 3) rfl (by decide) d_St_allThirst_3 (lv2 := [some (.ref (V.2.2.1 st 0)), some (.ref (V.2.2.1 tx 0)), some (.int 0), some (.int 0)]) rfl ?_
  exact w_St_allThirst_l4 hV hst htx hC 5000 0 0 h
theorem c_St_allThirst {V : WV} {l : Launch} (hV : IsC V) {st : Nat} {tx : Nat} (hst : isSt st) (htx : isTx tx) {S : Mem} {z : Int32} (h : f_St_allThirst st tx S = some z) : CI V l y_St_allThirst bc_St_allThirst 4 (some .int) 1 21 [.ref (V.2.2.1 st 0), .ref (V.2.2.1 tx 0)] S z S :=
  ct_i rfl (IsC.ok hV) (Nat.le_of_ble_eq_true rfl) (fun _ _ hC => w_St_allThirst_b0 hV hst htx hC h)
def f_Rn_isBetter_b0 (S : Mem) (x1 : Int32) (x2 : Int32) (x3 : Int32) : Option (Int32) :=
  if x1 = (S.1 7 1) then
    if x2 = (S.1 7 2) then
      if (S.1 7 3) ≤ x3 then
        some 0
      else
        some 1
    else
      if (S.1 7 2) ≤ x2 then
        some 0
      else
        some 1
  else
    if (S.1 7 1) ≤ x1 then
      some 0
    else
      some 1
def f_Rn_isBetter (x1 : Int32) (x2 : Int32) (x3 : Int32) (S : Mem) : Option (Int32) := f_Rn_isBetter_b0 S x1 x2 x3
theorem d_Rn_isBetter_0 : decode bc_Rn_isBetter 0 = .ok (.iload_n 1, 1) := by decide +kernel
theorem d_Rn_isBetter_1 : decode bc_Rn_isBetter 1 = .ok (.aload_n 0, 1) := by decide +kernel
theorem d_Rn_isBetter_2 : decode bc_Rn_isBetter 2 = .ok (.getfield 15, 3) := by decide +kernel
theorem d_Rn_isBetter_5 : decode bc_Rn_isBetter 5 = .ok (.if_icmp .eq 17, 3) := by decide +kernel
theorem d_Rn_isBetter_8 : decode bc_Rn_isBetter 8 = .ok (.iload_n 1, 1) := by decide +kernel
theorem d_Rn_isBetter_9 : decode bc_Rn_isBetter 9 = .ok (.aload_n 0, 1) := by decide +kernel
theorem d_Rn_isBetter_10 : decode bc_Rn_isBetter 10 = .ok (.getfield 15, 3) := by decide +kernel
theorem d_Rn_isBetter_13 : decode bc_Rn_isBetter 13 = .ok (.if_icmp .ge 7, 3) := by decide +kernel
theorem d_Rn_isBetter_16 : decode bc_Rn_isBetter 16 = .ok (.iconst 1, 1) := by decide +kernel
theorem d_Rn_isBetter_17 : decode bc_Rn_isBetter 17 = .ok (.goto 4, 3) := by decide +kernel
theorem d_Rn_isBetter_20 : decode bc_Rn_isBetter 20 = .ok (.iconst 0, 1) := by decide +kernel
theorem d_Rn_isBetter_21 : decode bc_Rn_isBetter 21 = .ok (.ireturn, 1) := by decide +kernel
theorem d_Rn_isBetter_22 : decode bc_Rn_isBetter 22 = .ok (.iload_n 2, 1) := by decide +kernel
theorem d_Rn_isBetter_23 : decode bc_Rn_isBetter 23 = .ok (.aload_n 0, 1) := by decide +kernel
theorem d_Rn_isBetter_24 : decode bc_Rn_isBetter 24 = .ok (.getfield 19, 3) := by decide +kernel
theorem d_Rn_isBetter_27 : decode bc_Rn_isBetter 27 = .ok (.if_icmp .eq 17, 3) := by decide +kernel
theorem d_Rn_isBetter_30 : decode bc_Rn_isBetter 30 = .ok (.iload_n 2, 1) := by decide +kernel
theorem d_Rn_isBetter_31 : decode bc_Rn_isBetter 31 = .ok (.aload_n 0, 1) := by decide +kernel
theorem d_Rn_isBetter_32 : decode bc_Rn_isBetter 32 = .ok (.getfield 19, 3) := by decide +kernel
theorem d_Rn_isBetter_35 : decode bc_Rn_isBetter 35 = .ok (.if_icmp .ge 7, 3) := by decide +kernel
theorem d_Rn_isBetter_38 : decode bc_Rn_isBetter 38 = .ok (.iconst 1, 1) := by decide +kernel
theorem d_Rn_isBetter_39 : decode bc_Rn_isBetter 39 = .ok (.goto 4, 3) := by decide +kernel
theorem d_Rn_isBetter_42 : decode bc_Rn_isBetter 42 = .ok (.iconst 0, 1) := by decide +kernel
theorem d_Rn_isBetter_43 : decode bc_Rn_isBetter 43 = .ok (.ireturn, 1) := by decide +kernel
theorem d_Rn_isBetter_44 : decode bc_Rn_isBetter 44 = .ok (.iload_n 3, 1) := by decide +kernel
theorem d_Rn_isBetter_45 : decode bc_Rn_isBetter 45 = .ok (.aload_n 0, 1) := by decide +kernel
theorem d_Rn_isBetter_46 : decode bc_Rn_isBetter 46 = .ok (.getfield 22, 3) := by decide +kernel
theorem d_Rn_isBetter_49 : decode bc_Rn_isBetter 49 = .ok (.if_icmp .ge 7, 3) := by decide +kernel
theorem d_Rn_isBetter_52 : decode bc_Rn_isBetter 52 = .ok (.iconst 1, 1) := by decide +kernel
theorem d_Rn_isBetter_53 : decode bc_Rn_isBetter 53 = .ok (.goto 4, 3) := by decide +kernel
theorem d_Rn_isBetter_56 : decode bc_Rn_isBetter 56 = .ok (.iconst 0, 1) := by decide +kernel
theorem d_Rn_isBetter_57 : decode bc_Rn_isBetter 57 = .ok (.ireturn, 1) := by decide +kernel
set_option maxRecDepth 20000 in
theorem w_Rn_isBetter_b0 {X : CX} {V : WV} (hV : IsC V) {S : Mem} {z : Int32} (hC : Ck X V bc_Rn_isBetter 4 "SecretWells$Rain" (some .boolean) 0 0) (x1 : Int32) (x2 : Int32) (x3 : Int32) (h : f_Rn_isBetter_b0 S x1 x2 x3 = some z) : G X V 4 (QI X V z S) 0 [some (.ref (V.2.2.1 7 0)), some (.int x1), some (.int x2), some (.int x3)] [] S := by
  unfold f_Rn_isBetter_b0 at h
  refine g_iload_n (pc := 0) hC (i := 1) (x := x1) rfl rfl d_Rn_isBetter_0 ?_
  refine g_aload_n (pc := 1) hC (i := 0) (x := (V.2.2.1 7 0)) rfl rfl d_Rn_isBetter_1 ?_
  refine g_getI (pc := 2) hC fo_Rn_15 (ob_Rn hV) rfl d_Rn_isBetter_2 ?_
  refine g_icmp_eq (pc := 5) hC (tgt := 22) (by decide) d_Rn_isBetter_5 h (fun h => ?_) (fun h => ?_)
  · refine g_iload_n (pc := 22) hC (i := 2) (x := x2) rfl rfl d_Rn_isBetter_22 ?_
    refine g_aload_n (pc := 23) hC (i := 0) (x := (V.2.2.1 7 0)) rfl rfl d_Rn_isBetter_23 ?_
    refine g_getI (pc := 24) hC fo_Rn_19 (ob_Rn hV) rfl d_Rn_isBetter_24 ?_
    refine g_icmp_eq (pc := 27) hC (tgt := 44) (by decide) d_Rn_isBetter_27 h (fun h => ?_) (fun h => ?_)
    · refine g_iload_n (pc := 44) hC (i := 3) (x := x3) rfl rfl d_Rn_isBetter_44 ?_
      refine g_aload_n (pc := 45) hC (i := 0) (x := (V.2.2.1 7 0)) rfl rfl d_Rn_isBetter_45 ?_
      refine g_getI (pc := 46) hC fo_Rn_22 (ob_Rn hV) rfl d_Rn_isBetter_46 ?_
      refine g_icmp_ge (pc := 49) hC (tgt := 56) (by decide) d_Rn_isBetter_49 h (fun h => ?_) (fun h => ?_)
      · refine g_iconst (pc := 56) hC kc_0 d_Rn_isBetter_56 ?_
        exact g_iN (pc := 57) hC rfl d_Rn_isBetter_57 h
      · refine g_iconst (pc := 52) hC kc_1 d_Rn_isBetter_52 ?_
        refine g_goto (pc := 53) hC (tgt := 57) (by decide) d_Rn_isBetter_53 ?_
        exact g_iN (pc := 57) hC rfl d_Rn_isBetter_57 h
    · refine g_iload_n (pc := 30) hC (i := 2) (x := x2) rfl rfl d_Rn_isBetter_30 ?_
      refine g_aload_n (pc := 31) hC (i := 0) (x := (V.2.2.1 7 0)) rfl rfl d_Rn_isBetter_31 ?_
      refine g_getI (pc := 32) hC fo_Rn_19 (ob_Rn hV) rfl d_Rn_isBetter_32 ?_
      refine g_icmp_ge (pc := 35) hC (tgt := 42) (by decide) d_Rn_isBetter_35 h (fun h => ?_) (fun h => ?_)
      · refine g_iconst (pc := 42) hC kc_0 d_Rn_isBetter_42 ?_
        exact g_iN (pc := 43) hC rfl d_Rn_isBetter_43 h
      · refine g_iconst (pc := 38) hC kc_1 d_Rn_isBetter_38 ?_
        refine g_goto (pc := 39) hC (tgt := 43) (by decide) d_Rn_isBetter_39 ?_
        exact g_iN (pc := 43) hC rfl d_Rn_isBetter_43 h
  · refine g_iload_n (pc := 8) hC (i := 1) (x := x1) rfl rfl d_Rn_isBetter_8 ?_
    refine g_aload_n (pc := 9) hC (i := 0) (x := (V.2.2.1 7 0)) rfl rfl d_Rn_isBetter_9 ?_
    refine g_getI (pc := 10) hC fo_Rn_15 (ob_Rn hV) rfl d_Rn_isBetter_10 ?_
    refine g_icmp_ge (pc := 13) hC (tgt := 20) (by decide) d_Rn_isBetter_13 h (fun h => ?_) (fun h => ?_)
    · refine g_iconst (pc := 20) hC kc_0 d_Rn_isBetter_20 ?_
      exact g_iN (pc := 21) hC rfl d_Rn_isBetter_21 h
    · refine g_iconst (pc := 16) hC kc_1 d_Rn_isBetter_16 ?_
      refine g_goto (pc := 17) hC (tgt := 21) (by decide) d_Rn_isBetter_17 ?_
      exact g_iN (pc := 21) hC rfl d_Rn_isBetter_21 h
theorem c_Rn_isBetter {V : WV} {l : Launch} (hV : IsC V) {x1 : Int32} {x2 : Int32} {x3 : Int32} {S : Mem} {z : Int32} (h : f_Rn_isBetter x1 x2 x3 S = some z) : CI V l y_Rn_isBetter bc_Rn_isBetter 4 (some .boolean) 0 0 [.ref (V.2.2.1 7 0), .int x1, .int x2, .int x3] S z S :=
  ct_i rfl (IsC.ok hV) (Nat.le_of_ble_eq_true rfl) (fun _ _ hC => w_Rn_isBetter_b0 hV hC x1 x2 x3 h)
def f_Rn_attempt_b131 (tx : Nat) (st : Nat) (st2 : Nat) (x7 : Int32) (S : Mem) : Option (Mem) :=
  Option.bind (f_St_allThirst st2 tx S) (fun q133 =>
  Option.bind (f_Rn_whispers S) (fun q139 =>
  Option.bind (f_Rn_isBetter x7 q133 q139 S) (fun q151 =>
  if q151 = 0 then
    some S
  else
    letS (pI S 7 1 x7) (fun S160 =>
    letS (pI S160 7 2 q133) (fun S166 =>
    letS (pI S166 7 3 q139) (fun S172 =>
    gCp 0 0 4 4 4 (letS (sCp S172 7 6 7 4 0 0 4) (fun S186 =>
    some S186))))))))
def f_Rn_attempt_b79 (tx : Nat) (st : Nat) (st2 : Nat) (k79 : Int32 → Int32 → Int32 → Int32 → Mem → Option (Mem)) (x5 : Int32) (x6 : Int32) (x7 : Int32) (x8 : Int32) (S : Mem) : Option (Mem) :=
  if x5 ≤ x8 then
    f_Rn_attempt_b131 tx st st2 x7 S
  else
    if (S.1 7 1) < x7 then
      f_Rn_attempt_b131 tx st st2 x7 S
    else
      if x6 ≤ x7 then
        f_Rn_attempt_b131 tx st st2 x7 S
      else
        Option.bind (f_Dy_pass tx st2 (S.1 tx 7) S) (fun q110 =>
        Option.bind (f_JInt_bitCount (q110.1 st2 1)) (fun q119 =>
        letS (x6 - q119) (fun y123 =>
        k79 x5 x6 y123 (x8 + 1) q110)))
def f_Rn_attempt_l79 (tx : Nat) (st : Nat) (st2 : Nat) : Nat → Int32 → Int32 → Int32 → Int32 → Mem → Option (Mem)
  | 0 => fun _ _ _ _ _ => none
  | n + 1 => f_Rn_attempt_b79 tx st st2 (f_Rn_attempt_l79 tx st st2 n)
def f_Rn_attempt_b8 (tx : Nat) (st : Nat) (st2 : Nat) (k8 : Int32 → Int32 → Mem → Option (Mem)) (x5 : Int32) (x6 : Int32) (S : Mem) : Option (Mem) :=
  if (S.1 7 7) ≤ x6 then
    Option.bind (f_JInt_bitCount (S.1 st 1)) (fun q68 =>
    f_Rn_attempt_l79 tx st st2 5000 x5 q68 0 0 S)
  else
    gIn x6 4 (
    if (S.2.1 7 6 x6.toNatClampNeg) = (-3) then
      k8 x5 (x6 + 1) S
    else
      gIn x6 4 (
      gIn x6 4 (
      gIn (S.2.1 7 5 x6.toNatClampNeg) 8 (letS (sA S st2 8 (S.2.1 7 5 x6.toNatClampNeg) (S.2.1 7 6 x6.toNatClampNeg)) (fun S47 =>
      Option.bind (f_St_measure st2 tx S47) (fun q50 =>
      Option.bind (f_St_settle st2 tx q50) (fun q55 =>
      k8 x5 (x6 + 1) q55)))))))
def f_Rn_attempt_l8 (tx : Nat) (st : Nat) (st2 : Nat) : Nat → Int32 → Int32 → Mem → Option (Mem)
  | 0 => fun _ _ _ => none
  | n + 1 => f_Rn_attempt_b8 tx st st2 (f_Rn_attempt_l8 tx st st2 n)
def f_Rn_attempt_b0 (tx : Nat) (st : Nat) (st2 : Nat) (x5 : Int32) (S : Mem) : Option (Mem) :=
  Option.bind (f_St_copyOf st2 st S) (fun q2 =>
  f_Rn_attempt_l8 tx st st2 5000 x5 0 q2)
def f_Rn_attempt (tx : Nat) (st : Nat) (st2 : Nat) (x5 : Int32) (S : Mem) : Option (Mem) := f_Rn_attempt_b0 tx st st2 x5 S
theorem d_Rn_attempt_0 : decode bc_Rn_attempt 0 = .ok (.aload_n 3, 1) := by decide +kernel
theorem d_Rn_attempt_1 : decode bc_Rn_attempt 1 = .ok (.aload_n 2, 1) := by decide +kernel
theorem d_Rn_attempt_2 : decode bc_Rn_attempt 2 = .ok (.invokevirtual 92, 3) := by decide +kernel
theorem d_Rn_attempt_5 : decode bc_Rn_attempt 5 = .ok (.iconst 0, 1) := by decide +kernel
theorem d_Rn_attempt_6 : decode bc_Rn_attempt 6 = .ok (.istore 6, 2) := by decide +kernel
theorem d_Rn_attempt_8 : decode bc_Rn_attempt 8 = .ok (.iload 6, 2) := by decide +kernel
theorem d_Rn_attempt_10 : decode bc_Rn_attempt 10 = .ok (.aload_n 0, 1) := by decide +kernel
theorem d_Rn_attempt_11 : decode bc_Rn_attempt 11 = .ok (.getfield 35, 3) := by decide +kernel
theorem d_Rn_attempt_14 : decode bc_Rn_attempt 14 = .ok (.if_icmp .ge 50, 3) := by decide +kernel
theorem d_Rn_attempt_17 : decode bc_Rn_attempt 17 = .ok (.aload_n 0, 1) := by decide +kernel
theorem d_Rn_attempt_18 : decode bc_Rn_attempt 18 = .ok (.getfield 32, 3) := by decide +kernel
theorem d_Rn_attempt_21 : decode bc_Rn_attempt 21 = .ok (.iload 6, 2) := by decide +kernel
theorem d_Rn_attempt_23 : decode bc_Rn_attempt 23 = .ok (.iaload, 1) := by decide +kernel
theorem d_Rn_attempt_24 : decode bc_Rn_attempt 24 = .ok (.bipush (-3), 2) := by decide +kernel
theorem d_Rn_attempt_26 : decode bc_Rn_attempt 26 = .ok (.if_icmp .eq 32, 3) := by decide +kernel
theorem d_Rn_attempt_29 : decode bc_Rn_attempt 29 = .ok (.aload_n 3, 1) := by decide +kernel
theorem d_Rn_attempt_30 : decode bc_Rn_attempt 30 = .ok (.getfield 85, 3) := by decide +kernel
theorem d_Rn_attempt_33 : decode bc_Rn_attempt 33 = .ok (.aload_n 0, 1) := by decide +kernel
theorem d_Rn_attempt_34 : decode bc_Rn_attempt 34 = .ok (.getfield 29, 3) := by decide +kernel
theorem d_Rn_attempt_37 : decode bc_Rn_attempt 37 = .ok (.iload 6, 2) := by decide +kernel
theorem d_Rn_attempt_39 : decode bc_Rn_attempt 39 = .ok (.iaload, 1) := by decide +kernel
theorem d_Rn_attempt_40 : decode bc_Rn_attempt 40 = .ok (.aload_n 0, 1) := by decide +kernel
theorem d_Rn_attempt_41 : decode bc_Rn_attempt 41 = .ok (.getfield 32, 3) := by decide +kernel
theorem d_Rn_attempt_44 : decode bc_Rn_attempt 44 = .ok (.iload 6, 2) := by decide +kernel
theorem d_Rn_attempt_46 : decode bc_Rn_attempt 46 = .ok (.iaload, 1) := by decide +kernel
theorem d_Rn_attempt_47 : decode bc_Rn_attempt 47 = .ok (.iastore, 1) := by decide +kernel
theorem d_Rn_attempt_48 : decode bc_Rn_attempt 48 = .ok (.aload_n 3, 1) := by decide +kernel
theorem d_Rn_attempt_49 : decode bc_Rn_attempt 49 = .ok (.aload_n 1, 1) := by decide +kernel
theorem d_Rn_attempt_50 : decode bc_Rn_attempt 50 = .ok (.invokevirtual 96, 3) := by decide +kernel
theorem d_Rn_attempt_53 : decode bc_Rn_attempt 53 = .ok (.aload_n 3, 1) := by decide +kernel
theorem d_Rn_attempt_54 : decode bc_Rn_attempt 54 = .ok (.aload_n 1, 1) := by decide +kernel
theorem d_Rn_attempt_55 : decode bc_Rn_attempt 55 = .ok (.invokevirtual 100, 3) := by decide +kernel
theorem d_Rn_attempt_58 : decode bc_Rn_attempt 58 = .ok (.iinc 6 1, 3) := by decide +kernel
theorem d_Rn_attempt_61 : decode bc_Rn_attempt 61 = .ok (.goto (-53), 3) := by decide +kernel
theorem d_Rn_attempt_64 : decode bc_Rn_attempt 64 = .ok (.aload_n 2, 1) := by decide +kernel
theorem d_Rn_attempt_65 : decode bc_Rn_attempt 65 = .ok (.getfield 78, 3) := by decide +kernel
theorem d_Rn_attempt_68 : decode bc_Rn_attempt 68 = .ok (.invokestatic 103, 3) := by decide +kernel
theorem d_Rn_attempt_71 : decode bc_Rn_attempt 71 = .ok (.istore 6, 2) := by decide +kernel
theorem d_Rn_attempt_73 : decode bc_Rn_attempt 73 = .ok (.iconst 0, 1) := by decide +kernel
theorem d_Rn_attempt_74 : decode bc_Rn_attempt 74 = .ok (.istore 7, 2) := by decide +kernel
theorem d_Rn_attempt_76 : decode bc_Rn_attempt 76 = .ok (.iconst 0, 1) := by decide +kernel
theorem d_Rn_attempt_77 : decode bc_Rn_attempt 77 = .ok (.istore 8, 2) := by decide +kernel
theorem d_Rn_attempt_79 : decode bc_Rn_attempt 79 = .ok (.iload 8, 2) := by decide +kernel
theorem d_Rn_attempt_81 : decode bc_Rn_attempt 81 = .ok (.iload 5, 2) := by decide +kernel
theorem d_Rn_attempt_83 : decode bc_Rn_attempt 83 = .ok (.if_icmp .ge 48, 3) := by decide +kernel
theorem d_Rn_attempt_86 : decode bc_Rn_attempt 86 = .ok (.iload 7, 2) := by decide +kernel
theorem d_Rn_attempt_88 : decode bc_Rn_attempt 88 = .ok (.aload_n 0, 1) := by decide +kernel
theorem d_Rn_attempt_89 : decode bc_Rn_attempt 89 = .ok (.getfield 15, 3) := by decide +kernel
theorem d_Rn_attempt_92 : decode bc_Rn_attempt 92 = .ok (.if_icmp .gt 39, 3) := by decide +kernel
theorem d_Rn_attempt_95 : decode bc_Rn_attempt 95 = .ok (.iload 7, 2) := by decide +kernel
theorem d_Rn_attempt_97 : decode bc_Rn_attempt 97 = .ok (.iload 6, 2) := by decide +kernel
theorem d_Rn_attempt_99 : decode bc_Rn_attempt 99 = .ok (.if_icmp .ge 32, 3) := by decide +kernel
theorem d_Rn_attempt_102 : decode bc_Rn_attempt 102 = .ok (.aload 4, 2) := by decide +kernel
theorem d_Rn_attempt_104 : decode bc_Rn_attempt 104 = .ok (.aload_n 1, 1) := by decide +kernel
theorem d_Rn_attempt_105 : decode bc_Rn_attempt 105 = .ok (.aload_n 3, 1) := by decide +kernel
theorem d_Rn_attempt_106 : decode bc_Rn_attempt 106 = .ok (.aload_n 1, 1) := by decide +kernel
theorem d_Rn_attempt_107 : decode bc_Rn_attempt 107 = .ok (.getfield 109, 3) := by decide +kernel
theorem d_Rn_attempt_110 : decode bc_Rn_attempt 110 = .ok (.invokevirtual 112, 3) := by decide +kernel
theorem d_Rn_attempt_113 : decode bc_Rn_attempt 113 = .ok (.iload 6, 2) := by decide +kernel
theorem d_Rn_attempt_115 : decode bc_Rn_attempt 115 = .ok (.aload_n 3, 1) := by decide +kernel
theorem d_Rn_attempt_116 : decode bc_Rn_attempt 116 = .ok (.getfield 78, 3) := by decide +kernel
theorem d_Rn_attempt_119 : decode bc_Rn_attempt 119 = .ok (.invokestatic 103, 3) := by decide +kernel
theorem d_Rn_attempt_122 : decode bc_Rn_attempt 122 = .ok (.isub, 1) := by decide +kernel
theorem d_Rn_attempt_123 : decode bc_Rn_attempt 123 = .ok (.istore 7, 2) := by decide +kernel
theorem d_Rn_attempt_125 : decode bc_Rn_attempt 125 = .ok (.iinc 8 1, 3) := by decide +kernel
theorem d_Rn_attempt_128 : decode bc_Rn_attempt 128 = .ok (.goto (-49), 3) := by decide +kernel
theorem d_Rn_attempt_131 : decode bc_Rn_attempt 131 = .ok (.aload_n 3, 1) := by decide +kernel
theorem d_Rn_attempt_132 : decode bc_Rn_attempt 132 = .ok (.aload_n 1, 1) := by decide +kernel
theorem d_Rn_attempt_133 : decode bc_Rn_attempt 133 = .ok (.invokevirtual 118, 3) := by decide +kernel
theorem d_Rn_attempt_136 : decode bc_Rn_attempt 136 = .ok (.istore 8, 2) := by decide +kernel
theorem d_Rn_attempt_138 : decode bc_Rn_attempt 138 = .ok (.aload_n 0, 1) := by decide +kernel
theorem d_Rn_attempt_139 : decode bc_Rn_attempt 139 = .ok (.invokevirtual 88, 3) := by decide +kernel
theorem d_Rn_attempt_142 : decode bc_Rn_attempt 142 = .ok (.istore 9, 2) := by decide +kernel
theorem d_Rn_attempt_144 : decode bc_Rn_attempt 144 = .ok (.aload_n 0, 1) := by decide +kernel
theorem d_Rn_attempt_145 : decode bc_Rn_attempt 145 = .ok (.iload 7, 2) := by decide +kernel
theorem d_Rn_attempt_147 : decode bc_Rn_attempt 147 = .ok (.iload 8, 2) := by decide +kernel
theorem d_Rn_attempt_149 : decode bc_Rn_attempt 149 = .ok (.iload 9, 2) := by decide +kernel
theorem d_Rn_attempt_151 : decode bc_Rn_attempt 151 = .ok (.invokevirtual 122, 3) := by decide +kernel
theorem d_Rn_attempt_154 : decode bc_Rn_attempt 154 = .ok (.ifCond .eq 35, 3) := by decide +kernel
theorem d_Rn_attempt_157 : decode bc_Rn_attempt 157 = .ok (.aload_n 0, 1) := by decide +kernel
theorem d_Rn_attempt_158 : decode bc_Rn_attempt 158 = .ok (.iload 7, 2) := by decide +kernel
theorem d_Rn_attempt_160 : decode bc_Rn_attempt 160 = .ok (.putfield 15, 3) := by decide +kernel
theorem d_Rn_attempt_163 : decode bc_Rn_attempt 163 = .ok (.aload_n 0, 1) := by decide +kernel
theorem d_Rn_attempt_164 : decode bc_Rn_attempt 164 = .ok (.iload 8, 2) := by decide +kernel
theorem d_Rn_attempt_166 : decode bc_Rn_attempt 166 = .ok (.putfield 19, 3) := by decide +kernel
theorem d_Rn_attempt_169 : decode bc_Rn_attempt 169 = .ok (.aload_n 0, 1) := by decide +kernel
theorem d_Rn_attempt_170 : decode bc_Rn_attempt 170 = .ok (.iload 9, 2) := by decide +kernel
theorem d_Rn_attempt_172 : decode bc_Rn_attempt 172 = .ok (.putfield 22, 3) := by decide +kernel
theorem d_Rn_attempt_175 : decode bc_Rn_attempt 175 = .ok (.aload_n 0, 1) := by decide +kernel
theorem d_Rn_attempt_176 : decode bc_Rn_attempt 176 = .ok (.getfield 32, 3) := by decide +kernel
theorem d_Rn_attempt_179 : decode bc_Rn_attempt 179 = .ok (.iconst 0, 1) := by decide +kernel
theorem d_Rn_attempt_180 : decode bc_Rn_attempt 180 = .ok (.aload_n 0, 1) := by decide +kernel
theorem d_Rn_attempt_181 : decode bc_Rn_attempt 181 = .ok (.getfield 25, 3) := by decide +kernel
theorem d_Rn_attempt_184 : decode bc_Rn_attempt 184 = .ok (.iconst 0, 1) := by decide +kernel
theorem d_Rn_attempt_185 : decode bc_Rn_attempt 185 = .ok (.iconst 4, 1) := by decide +kernel
theorem d_Rn_attempt_186 : decode bc_Rn_attempt 186 = .ok (.invokestatic 126, 3) := by decide +kernel
theorem d_Rn_attempt_189 : decode bc_Rn_attempt 189 = .ok (.return_, 1) := by decide +kernel
set_option maxRecDepth 20000 in
theorem w_Rn_attempt_b131 {X : CX} {V : WV} {tx : Nat} {st : Nat} {st2 : Nat} (hV : IsC V) (htx : isTx tx) (hst : isSt st) (hst2 : isSt st2) {z : Mem} (hC : Ck X V bc_Rn_attempt 10 "SecretWells$Rain" none 5 129) (x7 : Int32) (S : Mem) (h : f_Rn_attempt_b131 tx st st2 x7 S = some z) : G X V 10 (QV X V z) 131 [some (.ref (V.2.2.1 7 0)), some (.ref (V.2.2.1 tx 0)), some (.ref (V.2.2.1 st 0)), some (.ref (V.2.2.1 st2 0)), some (.ref (V.2.2.1 6 0)), none, none, some (.int x7), none, none] [] S := by
  unfold f_Rn_attempt_b131 at h
  refine g_aload_n (pc := 131) hC (i := 3) (x := (V.2.2.1 st2 0)) rfl rfl d_Rn_attempt_131 ?_
  refine g_aload_n (pc := 132) hC (i := 1) (x := (V.2.2.1 tx 0)) rfl rfl d_Rn_attempt_132 ?_
  obtain ⟨q133, hq133, h⟩ := Option.bind_eq_some_iff.mp h
  refine g_vi (pc := 133) hC (As := [.ref (V.2.2.1 tx 0)]) (st := []) mt_St_allThirst lk_Rn_118 rfl (ob_St hV hst2) (Nat.le_of_ble_eq_true rfl) ⟨Nat.le_of_ble_eq_true rfl, Nat.le_of_ble_eq_true rfl⟩ rfl d_Rn_attempt_133 (c_St_allThirst hV hst2 htx hq133) ?_
  refine s_istore (pc := 136) hC (i := 8) (by decide) d_Rn_attempt_136 (lv2 := [some (.ref (V.2.2.1 7 0)), some (.ref (V.2.2.1 tx 0)), some (.ref (V.2.2.1 st 0)), some (.ref (V.2.2.1 st2 0)), some (.ref (V.2.2.1 6 0)), none, none, some (.int x7), some (.int q133), none]) rfl ?_
  refine g_aload_n (pc := 138) hC (i := 0) (x := (V.2.2.1 7 0)) rfl rfl d_Rn_attempt_138 ?_
  obtain ⟨q139, hq139, h⟩ := Option.bind_eq_some_iff.mp h
  refine g_vi (pc := 139) hC (As := []) (st := []) mt_Rn_whispers lk_Rn_88 rfl (ob_Rn hV) (Nat.le_of_ble_eq_true rfl) ⟨Nat.le_of_ble_eq_true rfl, Nat.le_of_ble_eq_true rfl⟩ rfl d_Rn_attempt_139 (c_Rn_whispers hV hq139) ?_
  refine s_istore (pc := 142) hC (i := 9) (by decide) d_Rn_attempt_142 (lv2 := [some (.ref (V.2.2.1 7 0)), some (.ref (V.2.2.1 tx 0)), some (.ref (V.2.2.1 st 0)), some (.ref (V.2.2.1 st2 0)), some (.ref (V.2.2.1 6 0)), none, none, some (.int x7), some (.int q133), some (.int q139)]) rfl ?_
  refine g_aload_n (pc := 144) hC (i := 0) (x := (V.2.2.1 7 0)) rfl rfl d_Rn_attempt_144 ?_
  refine g_iload (pc := 145) hC (i := 7) (x := x7) rfl d_Rn_attempt_145 ?_
  refine g_iload (pc := 147) hC (i := 8) (x := q133) rfl d_Rn_attempt_147 ?_
  refine g_iload (pc := 149) hC (i := 9) (x := q139) rfl d_Rn_attempt_149 ?_
  obtain ⟨q151, hq151, h⟩ := Option.bind_eq_some_iff.mp h
  refine g_vi (pc := 151) hC (As := [.int x7, .int q133, .int q139]) (st := []) mt_Rn_isBetter lk_Rn_122 rfl (ob_Rn hV) (Nat.le_of_ble_eq_true rfl) ⟨Nat.le_of_ble_eq_true rfl, Nat.le_of_ble_eq_true rfl⟩ rfl d_Rn_attempt_151 (c_Rn_isBetter hV hq151) ?_
  refine g_if_eq (pc := 154) hC (tgt := 189) (by decide) d_Rn_attempt_154 h (fun h => ?_) (fun h => ?_)
  · exact g_vW (pc := 189) hC d_Rn_attempt_189 h
  · refine g_aload_n (pc := 157) hC (i := 0) (x := (V.2.2.1 7 0)) rfl rfl d_Rn_attempt_157 ?_
    refine g_iload (pc := 158) hC (i := 7) (x := x7) rfl d_Rn_attempt_158 ?_
    refine g_putI (pc := 160) hC po_Rn_15 (ob_Rn hV) rfl rfl rfl d_Rn_attempt_160 ?_
    refine g_letS h (fun S160 h => ?_)
    refine g_aload_n (pc := 163) hC (i := 0) (x := (V.2.2.1 7 0)) rfl rfl d_Rn_attempt_163 ?_
    refine g_iload (pc := 164) hC (i := 8) (x := q133) rfl d_Rn_attempt_164 ?_
    refine g_putI (pc := 166) hC po_Rn_19 (ob_Rn hV) rfl rfl rfl d_Rn_attempt_166 ?_
    refine g_letS h (fun S166 h => ?_)
    refine g_aload_n (pc := 169) hC (i := 0) (x := (V.2.2.1 7 0)) rfl rfl d_Rn_attempt_169 ?_
    refine g_iload (pc := 170) hC (i := 9) (x := q139) rfl d_Rn_attempt_170 ?_
    refine g_putI (pc := 172) hC po_Rn_22 (ob_Rn hV) rfl rfl rfl d_Rn_attempt_172 ?_
    refine g_letS h (fun S172 h => ?_)
    refine g_aload_n (pc := 175) hC (i := 0) (x := (V.2.2.1 7 0)) rfl rfl d_Rn_attempt_175 ?_
    refine g_getA (pc := 176) hC fo_Rn_32 (ob_Rn hV) rfl d_Rn_attempt_176 ?_
    refine g_iconst (pc := 179) hC kc_0 d_Rn_attempt_179 ?_
    refine g_aload_n (pc := 180) hC (i := 0) (x := (V.2.2.1 7 0)) rfl rfl d_Rn_attempt_180 ?_
    refine g_getA (pc := 181) hC fo_Rn_25 (ob_Rn hV) rfl d_Rn_attempt_181 ?_
    refine g_iconst (pc := 184) hC kc_0 d_Rn_attempt_184 ?_
    refine g_iconst (pc := 185) hC kc_4 d_Rn_attempt_185 ?_
    refine g_copy (pc := 186) hC lk_Rn_126 (ar_Rn_6 hV) (ar_Rn_4 hV) (Nat.le_of_ble_eq_true rfl) ⟨Nat.le_of_ble_eq_true rfl, Nat.le_of_ble_eq_true rfl⟩ d_Rn_attempt_186 h (fun h => ?_)
    refine g_letS h (fun S186 h => ?_)
    exact g_vW (pc := 189) hC d_Rn_attempt_189 h
set_option maxRecDepth 20000 in
theorem w_Rn_attempt_b79 {X : CX} {V : WV} {tx : Nat} {st : Nat} {st2 : Nat} (hV : IsC V) (htx : isTx tx) (hst : isSt st) (hst2 : isSt st2) {z : Mem} (hC : Ck X V bc_Rn_attempt 10 "SecretWells$Rain" none 5 129) (k79 : Int32 → Int32 → Int32 → Int32 → Mem → Option (Mem)) (hk79 : ∀ (x5 : Int32) (x6 : Int32) (x7 : Int32) (x8 : Int32) (S : Mem), k79 x5 x6 x7 x8 S = some z → G X V 10 (QV X V z) 79 [some (.ref (V.2.2.1 7 0)), some (.ref (V.2.2.1 tx 0)), some (.ref (V.2.2.1 st 0)), some (.ref (V.2.2.1 st2 0)), some (.ref (V.2.2.1 6 0)), some (.int x5), some (.int x6), some (.int x7), some (.int x8), none] [] S) (x5 : Int32) (x6 : Int32) (x7 : Int32) (x8 : Int32) (S : Mem) (h : f_Rn_attempt_b79 tx st st2 k79 x5 x6 x7 x8 S = some z) : G X V 10 (QV X V z) 79 [some (.ref (V.2.2.1 7 0)), some (.ref (V.2.2.1 tx 0)), some (.ref (V.2.2.1 st 0)), some (.ref (V.2.2.1 st2 0)), some (.ref (V.2.2.1 6 0)), some (.int x5), some (.int x6), some (.int x7), some (.int x8), none] [] S := by
  unfold f_Rn_attempt_b79 at h
  refine g_iload (pc := 79) hC (i := 8) (x := x8) rfl d_Rn_attempt_79 ?_
  refine g_iload (pc := 81) hC (i := 5) (x := x5) rfl d_Rn_attempt_81 ?_
  refine g_icmp_ge (pc := 83) hC (tgt := 131) (by decide) d_Rn_attempt_83 h (fun h => ?_) (fun h => ?_)
  · refine g_le (lv2 := [some (.ref (V.2.2.1 7 0)), some (.ref (V.2.2.1 tx 0)), some (.ref (V.2.2.1 st 0)), some (.ref (V.2.2.1 st2 0)), some (.ref (V.2.2.1 6 0)), none, none, some (.int x7), none, none]) (⟨rfl, ⟨rfl, ⟨rfl, ⟨rfl, ⟨rfl, ⟨rfl, trivial⟩⟩⟩⟩⟩⟩) ?_
    exact w_Rn_attempt_b131 hV htx hst hst2 hC x7 S h
  · refine g_iload (pc := 86) hC (i := 7) (x := x7) rfl d_Rn_attempt_86 ?_
    refine g_aload_n (pc := 88) hC (i := 0) (x := (V.2.2.1 7 0)) rfl rfl d_Rn_attempt_88 ?_
    refine g_getI (pc := 89) hC fo_Rn_15 (ob_Rn hV) rfl d_Rn_attempt_89 ?_
    refine g_icmp_gt (pc := 92) hC (tgt := 131) (by decide) d_Rn_attempt_92 h (fun h => ?_) (fun h => ?_)
    · refine g_le (lv2 := [some (.ref (V.2.2.1 7 0)), some (.ref (V.2.2.1 tx 0)), some (.ref (V.2.2.1 st 0)), some (.ref (V.2.2.1 st2 0)), some (.ref (V.2.2.1 6 0)), none, none, some (.int x7), none, none]) (⟨rfl, ⟨rfl, ⟨rfl, ⟨rfl, ⟨rfl, ⟨rfl, trivial⟩⟩⟩⟩⟩⟩) ?_
      exact w_Rn_attempt_b131 hV htx hst hst2 hC x7 S h
    · refine g_iload (pc := 95) hC (i := 7) (x := x7) rfl d_Rn_attempt_95 ?_
      refine g_iload (pc := 97) hC (i := 6) (x := x6) rfl d_Rn_attempt_97 ?_
      refine g_icmp_ge (pc := 99) hC (tgt := 131) (by decide) d_Rn_attempt_99 h (fun h => ?_) (fun h => ?_)
      · refine g_le (lv2 := [some (.ref (V.2.2.1 7 0)), some (.ref (V.2.2.1 tx 0)), some (.ref (V.2.2.1 st 0)), some (.ref (V.2.2.1 st2 0)), some (.ref (V.2.2.1 6 0)), none, none, some (.int x7), none, none]) (⟨rfl, ⟨rfl, ⟨rfl, ⟨rfl, ⟨rfl, ⟨rfl, trivial⟩⟩⟩⟩⟩⟩) ?_
        exact w_Rn_attempt_b131 hV htx hst hst2 hC x7 S h
      · refine g_aload (pc := 102) hC (i := 4) (x := (V.2.2.1 6 0)) rfl d_Rn_attempt_102 ?_
        refine g_aload_n (pc := 104) hC (i := 1) (x := (V.2.2.1 tx 0)) rfl rfl d_Rn_attempt_104 ?_
        refine g_aload_n (pc := 105) hC (i := 3) (x := (V.2.2.1 st2 0)) rfl rfl d_Rn_attempt_105 ?_
        refine g_aload_n (pc := 106) hC (i := 1) (x := (V.2.2.1 tx 0)) rfl rfl d_Rn_attempt_106 ?_
        refine g_getI (pc := 107) hC fo_Rn_109 (ob_Tx hV htx) rfl d_Rn_attempt_107 ?_
        obtain ⟨q110, hq110, h⟩ := Option.bind_eq_some_iff.mp h
        refine g_vv (pc := 110) hC (As := [.ref (V.2.2.1 tx 0), .ref (V.2.2.1 st2 0), .int (S.1 tx 7)]) (st := []) mt_Dy_pass lk_Rn_112 rfl (ob_Dy hV) (Nat.le_of_ble_eq_true rfl) ⟨Nat.le_of_ble_eq_true rfl, Nat.le_of_ble_eq_true rfl⟩ rfl d_Rn_attempt_110 (c_Dy_pass hV htx hst2 hq110) ?_
        refine g_iload (pc := 113) hC (i := 6) (x := x6) rfl d_Rn_attempt_113 ?_
        refine g_aload_n (pc := 115) hC (i := 3) (x := (V.2.2.1 st2 0)) rfl rfl d_Rn_attempt_115 ?_
        refine g_getI (pc := 116) hC fo_Rn_78 (ob_St hV hst2) rfl d_Rn_attempt_116 ?_
        obtain ⟨q119, hq119, h⟩ := Option.bind_eq_some_iff.mp h
        refine g_si (pc := 119) hC (As := [.int (q110.1 st2 1)]) (st := [.int x6]) mt_JInt_bitCount lk_Rn_103 (Nat.le_of_ble_eq_true rfl) ⟨Nat.le_of_ble_eq_true rfl, Nat.le_of_ble_eq_true rfl⟩ rfl d_Rn_attempt_119 (c_JInt_bitCount (IsC.ok hV) hq119) ?_
        refine g_isub (pc := 122) hC d_Rn_attempt_122 ?_
        refine g_leti h (fun y123 h => ?_)
        refine s_istore (pc := 123) hC (i := 7) (by decide) d_Rn_attempt_123 (lv2 := [some (.ref (V.2.2.1 7 0)), some (.ref (V.2.2.1 tx 0)), some (.ref (V.2.2.1 st 0)), some (.ref (V.2.2.1 st2 0)), some (.ref (V.2.2.1 6 0)), some (.int x5), some (.int x6), some (.int y123), some (.int x8), none]) rfl ?_
        refine s_iinc (pc := 125) hC (i := 8) (x := x8) (v := x8 + 1) rfl (by rw [kc_1]) (by decide) d_Rn_attempt_125 (lv2 := [some (.ref (V.2.2.1 7 0)), some (.ref (V.2.2.1 tx 0)), some (.ref (V.2.2.1 st 0)), some (.ref (V.2.2.1 st2 0)), some (.ref (V.2.2.1 6 0)), some (.int x5), some (.int x6), some (.int y123), some (.int (x8 + 1)), none]) rfl ?_
        refine g_goto (pc := 128) hC (tgt := 79) (by decide) d_Rn_attempt_128 ?_
        exact hk79 x5 x6 y123 (x8 + 1) q110 h
theorem w_Rn_attempt_l79 {X : CX} {V : WV} {tx : Nat} {st : Nat} {st2 : Nat} (hV : IsC V) (htx : isTx tx) (hst : isSt st) (hst2 : isSt st2) {z : Mem} (hC : Ck X V bc_Rn_attempt 10 "SecretWells$Rain" none 5 129) : ∀ (n : Nat) (x5 : Int32) (x6 : Int32) (x7 : Int32) (x8 : Int32) (S : Mem), f_Rn_attempt_l79 tx st st2 n x5 x6 x7 x8 S = some z → G X V 10 (QV X V z) 79 [some (.ref (V.2.2.1 7 0)), some (.ref (V.2.2.1 tx 0)), some (.ref (V.2.2.1 st 0)), some (.ref (V.2.2.1 st2 0)), some (.ref (V.2.2.1 6 0)), some (.int x5), some (.int x6), some (.int x7), some (.int x8), none] [] S := by
  intro n
  induction n with
  | zero =>
    intro x5 x6 x7 x8 S h
    have h : (none : Option (Mem)) = some z := h
    cases h
  | succ n ih =>
    intro x5 x6 x7 x8 S h
    exact w_Rn_attempt_b79 hV htx hst hst2 hC (f_Rn_attempt_l79 tx st st2 n) ih x5 x6 x7 x8 S h
set_option maxRecDepth 20000 in
theorem w_Rn_attempt_b8 {X : CX} {V : WV} {tx : Nat} {st : Nat} {st2 : Nat} (hV : IsC V) (htx : isTx tx) (hst : isSt st) (hst2 : isSt st2) {z : Mem} (hC : Ck X V bc_Rn_attempt 10 "SecretWells$Rain" none 5 129) (k8 : Int32 → Int32 → Mem → Option (Mem)) (hk8 : ∀ (x5 : Int32) (x6 : Int32) (S : Mem), k8 x5 x6 S = some z → G X V 10 (QV X V z) 8 [some (.ref (V.2.2.1 7 0)), some (.ref (V.2.2.1 tx 0)), some (.ref (V.2.2.1 st 0)), some (.ref (V.2.2.1 st2 0)), some (.ref (V.2.2.1 6 0)), some (.int x5), some (.int x6), none, none, none] [] S) (x5 : Int32) (x6 : Int32) (S : Mem) (h : f_Rn_attempt_b8 tx st st2 k8 x5 x6 S = some z) : G X V 10 (QV X V z) 8 [some (.ref (V.2.2.1 7 0)), some (.ref (V.2.2.1 tx 0)), some (.ref (V.2.2.1 st 0)), some (.ref (V.2.2.1 st2 0)), some (.ref (V.2.2.1 6 0)), some (.int x5), some (.int x6), none, none, none] [] S := by
  unfold f_Rn_attempt_b8 at h
  refine g_iload (pc := 8) hC (i := 6) (x := x6) rfl d_Rn_attempt_8 ?_
  refine g_aload_n (pc := 10) hC (i := 0) (x := (V.2.2.1 7 0)) rfl rfl d_Rn_attempt_10 ?_
  refine g_getI (pc := 11) hC fo_Rn_35 (ob_Rn hV) rfl d_Rn_attempt_11 ?_
  refine g_icmp_ge (pc := 14) hC (tgt := 64) (by decide) d_Rn_attempt_14 h (fun h => ?_) (fun h => ?_)
  · refine g_aload_n (pc := 64) hC (i := 2) (x := (V.2.2.1 st 0)) rfl rfl d_Rn_attempt_64 ?_
    refine g_getI (pc := 65) hC fo_Rn_78 (ob_St hV hst) rfl d_Rn_attempt_65 ?_
    obtain ⟨q68, hq68, h⟩ := Option.bind_eq_some_iff.mp h
    refine g_si (pc := 68) hC (As := [.int (S.1 st 1)]) (st := []) mt_JInt_bitCount lk_Rn_103 (Nat.le_of_ble_eq_true rfl) ⟨Nat.le_of_ble_eq_true rfl, Nat.le_of_ble_eq_true rfl⟩ rfl d_Rn_attempt_68 (c_JInt_bitCount (IsC.ok hV) hq68) ?_
    refine s_istore (pc := 71) hC (i := 6) (by decide) d_Rn_attempt_71 (lv2 := [some (.ref (V.2.2.1 7 0)), some (.ref (V.2.2.1 tx 0)), some (.ref (V.2.2.1 st 0)), some (.ref (V.2.2.1 st2 0)), some (.ref (V.2.2.1 6 0)), some (.int x5), some (.int q68), none, none, none]) rfl ?_
    refine g_iconst (pc := 73) hC kc_0 d_Rn_attempt_73 ?_
    refine s_istore (pc := 74) hC (i := 7) (by decide) d_Rn_attempt_74 (lv2 := [some (.ref (V.2.2.1 7 0)), some (.ref (V.2.2.1 tx 0)), some (.ref (V.2.2.1 st 0)), some (.ref (V.2.2.1 st2 0)), some (.ref (V.2.2.1 6 0)), some (.int x5), some (.int q68), some (.int 0), none, none]) rfl ?_
    refine g_iconst (pc := 76) hC kc_0 d_Rn_attempt_76 ?_
    refine s_istore (pc := 77) hC (i := 8) (by decide) d_Rn_attempt_77 (lv2 := [some (.ref (V.2.2.1 7 0)), some (.ref (V.2.2.1 tx 0)), some (.ref (V.2.2.1 st 0)), some (.ref (V.2.2.1 st2 0)), some (.ref (V.2.2.1 6 0)), some (.int x5), some (.int q68), some (.int 0), some (.int 0), none]) rfl ?_
    exact w_Rn_attempt_l79 hV htx hst hst2 hC 5000 x5 q68 0 0 S h
  · refine g_aload_n (pc := 17) hC (i := 0) (x := (V.2.2.1 7 0)) rfl rfl d_Rn_attempt_17 ?_
    refine g_getA (pc := 18) hC fo_Rn_32 (ob_Rn hV) rfl d_Rn_attempt_18 ?_
    refine g_iload (pc := 21) hC (i := 6) (x := x6) rfl d_Rn_attempt_21 ?_
    refine g_iald (pc := 23) hC (ar_Rn_6 hV) d_Rn_attempt_23 h (fun h => ?_)
    refine g_bipush (pc := 24) hC kb_m3 d_Rn_attempt_24 ?_
    refine g_icmp_eq (pc := 26) hC (tgt := 58) (by decide) d_Rn_attempt_26 h (fun h => ?_) (fun h => ?_)
    · refine s_iinc (pc := 58) hC (i := 6) (x := x6) (v := x6 + 1) rfl (by rw [kc_1]) (by decide) d_Rn_attempt_58 (lv2 := [some (.ref (V.2.2.1 7 0)), some (.ref (V.2.2.1 tx 0)), some (.ref (V.2.2.1 st 0)), some (.ref (V.2.2.1 st2 0)), some (.ref (V.2.2.1 6 0)), some (.int x5), some (.int (x6 + 1)), none, none, none]) rfl ?_
      refine g_goto (pc := 61) hC (tgt := 8) (by decide) d_Rn_attempt_61 ?_
      exact hk8 x5 (x6 + 1) S h
    · refine g_aload_n (pc := 29) hC (i := 3) (x := (V.2.2.1 st2 0)) rfl rfl d_Rn_attempt_29 ?_
      refine g_getA (pc := 30) hC fo_Rn_85 (ob_St hV hst2) rfl d_Rn_attempt_30 ?_
      refine g_aload_n (pc := 33) hC (i := 0) (x := (V.2.2.1 7 0)) rfl rfl d_Rn_attempt_33 ?_
      refine g_getA (pc := 34) hC fo_Rn_29 (ob_Rn hV) rfl d_Rn_attempt_34 ?_
      refine g_iload (pc := 37) hC (i := 6) (x := x6) rfl d_Rn_attempt_37 ?_
      refine g_iald (pc := 39) hC (ar_Rn_5 hV) d_Rn_attempt_39 h (fun h => ?_)
      refine g_aload_n (pc := 40) hC (i := 0) (x := (V.2.2.1 7 0)) rfl rfl d_Rn_attempt_40 ?_
      refine g_getA (pc := 41) hC fo_Rn_32 (ob_Rn hV) rfl d_Rn_attempt_41 ?_
      refine g_iload (pc := 44) hC (i := 6) (x := x6) rfl d_Rn_attempt_44 ?_
      refine g_iald (pc := 46) hC (ar_Rn_6 hV) d_Rn_attempt_46 h (fun h => ?_)
      refine g_iast (pc := 47) hC (ar_St_8 hV hst2) d_Rn_attempt_47 h (fun h => ?_)
      refine g_letS h (fun S47 h => ?_)
      refine g_aload_n (pc := 48) hC (i := 3) (x := (V.2.2.1 st2 0)) rfl rfl d_Rn_attempt_48 ?_
      refine g_aload_n (pc := 49) hC (i := 1) (x := (V.2.2.1 tx 0)) rfl rfl d_Rn_attempt_49 ?_
      obtain ⟨q50, hq50, h⟩ := Option.bind_eq_some_iff.mp h
      refine g_vv (pc := 50) hC (As := [.ref (V.2.2.1 tx 0)]) (st := []) mt_St_measure lk_Rn_96 rfl (ob_St hV hst2) (Nat.le_of_ble_eq_true rfl) ⟨Nat.le_of_ble_eq_true rfl, Nat.le_of_ble_eq_true rfl⟩ rfl d_Rn_attempt_50 (c_St_measure hV hst2 htx hq50) ?_
      refine g_aload_n (pc := 53) hC (i := 3) (x := (V.2.2.1 st2 0)) rfl rfl d_Rn_attempt_53 ?_
      refine g_aload_n (pc := 54) hC (i := 1) (x := (V.2.2.1 tx 0)) rfl rfl d_Rn_attempt_54 ?_
      obtain ⟨q55, hq55, h⟩ := Option.bind_eq_some_iff.mp h
      refine g_vv (pc := 55) hC (As := [.ref (V.2.2.1 tx 0)]) (st := []) mt_St_settle lk_Rn_100 rfl (ob_St hV hst2) (Nat.le_of_ble_eq_true rfl) ⟨Nat.le_of_ble_eq_true rfl, Nat.le_of_ble_eq_true rfl⟩ rfl d_Rn_attempt_55 (c_St_settle hV hst2 htx hq55) ?_
      refine s_iinc (pc := 58) hC (i := 6) (x := x6) (v := x6 + 1) rfl (by rw [kc_1]) (by decide) d_Rn_attempt_58 (lv2 := [some (.ref (V.2.2.1 7 0)), some (.ref (V.2.2.1 tx 0)), some (.ref (V.2.2.1 st 0)), some (.ref (V.2.2.1 st2 0)), some (.ref (V.2.2.1 6 0)), some (.int x5), some (.int (x6 + 1)), none, none, none]) rfl ?_
      refine g_goto (pc := 61) hC (tgt := 8) (by decide) d_Rn_attempt_61 ?_
      exact hk8 x5 (x6 + 1) q55 h
theorem w_Rn_attempt_l8 {X : CX} {V : WV} {tx : Nat} {st : Nat} {st2 : Nat} (hV : IsC V) (htx : isTx tx) (hst : isSt st) (hst2 : isSt st2) {z : Mem} (hC : Ck X V bc_Rn_attempt 10 "SecretWells$Rain" none 5 129) : ∀ (n : Nat) (x5 : Int32) (x6 : Int32) (S : Mem), f_Rn_attempt_l8 tx st st2 n x5 x6 S = some z → G X V 10 (QV X V z) 8 [some (.ref (V.2.2.1 7 0)), some (.ref (V.2.2.1 tx 0)), some (.ref (V.2.2.1 st 0)), some (.ref (V.2.2.1 st2 0)), some (.ref (V.2.2.1 6 0)), some (.int x5), some (.int x6), none, none, none] [] S := by
  intro n
  induction n with
  | zero =>
    intro x5 x6 S h
    have h : (none : Option (Mem)) = some z := h
    cases h
  | succ n ih =>
    intro x5 x6 S h
    exact w_Rn_attempt_b8 hV htx hst hst2 hC (f_Rn_attempt_l8 tx st st2 n) ih x5 x6 S h
set_option maxRecDepth 20000 in
theorem w_Rn_attempt_b0 {X : CX} {V : WV} {tx : Nat} {st : Nat} {st2 : Nat} (hV : IsC V) (htx : isTx tx) (hst : isSt st) (hst2 : isSt st2) {z : Mem} (hC : Ck X V bc_Rn_attempt 10 "SecretWells$Rain" none 5 129) (x5 : Int32) (S : Mem) (h : f_Rn_attempt_b0 tx st st2 x5 S = some z) : G X V 10 (QV X V z) 0 [some (.ref (V.2.2.1 7 0)), some (.ref (V.2.2.1 tx 0)), some (.ref (V.2.2.1 st 0)), some (.ref (V.2.2.1 st2 0)), some (.ref (V.2.2.1 6 0)), some (.int x5), none, none, none, none] [] S := by
  unfold f_Rn_attempt_b0 at h
  refine g_aload_n (pc := 0) hC (i := 3) (x := (V.2.2.1 st2 0)) rfl rfl d_Rn_attempt_0 ?_
  refine g_aload_n (pc := 1) hC (i := 2) (x := (V.2.2.1 st 0)) rfl rfl d_Rn_attempt_1 ?_
  obtain ⟨q2, hq2, h⟩ := Option.bind_eq_some_iff.mp h
  refine g_vv (pc := 2) hC (As := [.ref (V.2.2.1 st 0)]) (st := []) mt_St_copyOf lk_Rn_92 rfl (ob_St hV hst2) (Nat.le_of_ble_eq_true rfl) ⟨Nat.le_of_ble_eq_true rfl, Nat.le_of_ble_eq_true rfl⟩ rfl d_Rn_attempt_2 (c_St_copyOf hV hst2 hst hq2) ?_
  refine g_iconst (pc := 5) hC kc_0 d_Rn_attempt_5 ?_
  refine s_istore (pc := 6) hC (i := 6) (by decide) d_Rn_attempt_6 (lv2 := [some (.ref (V.2.2.1 7 0)), some (.ref (V.2.2.1 tx 0)), some (.ref (V.2.2.1 st 0)), some (.ref (V.2.2.1 st2 0)), some (.ref (V.2.2.1 6 0)), some (.int x5), some (.int 0), none, none, none]) rfl ?_
  exact w_Rn_attempt_l8 hV htx hst hst2 hC 5000 x5 0 q2 h
theorem c_Rn_attempt {V : WV} {l : Launch} (hV : IsC V) {tx : Nat} {st : Nat} {st2 : Nat} (htx : isTx tx) (hst : isSt st) (hst2 : isSt st2) {x5 : Int32} {S : Mem} {z : Mem} (h : f_Rn_attempt tx st st2 x5 S = some z) : CV V l y_Rn_attempt bc_Rn_attempt 10 none 5 129 [.ref (V.2.2.1 7 0), .ref (V.2.2.1 tx 0), .ref (V.2.2.1 st 0), .ref (V.2.2.1 st2 0), .ref (V.2.2.1 6 0), .int x5] S z :=
  ct_v rfl (IsC.ok hV) (Nat.le_of_ble_eq_true rfl) (fun _ _ hC => w_Rn_attempt_b0 hV htx hst hst2 hC x5 S h)
def f_Rn_seek_b74 (tx : Nat) (st : Nat) (st2 : Nat) (k74 : Int32 → Int32 → Int32 → Int32 → Mem → Option (Mem)) (x5 : Int32) (x6 : Int32) (x7 : Int32) (x8 : Int32) (S : Mem) : Option (Mem) :=
  if x7 ≤ x8 then
    letS (pI S 7 0 1) (fun S118 =>
    letS (pI S118 7 8 x5) (fun S124 =>
    letS (pI S124 7 9 x6) (fun S130 =>
    some S130)))
  else
    Option.bind (f_Rn_isLaid tx st x8 S) (fun q86 =>
    if q86.1 = 0 then
      k74 x5 x6 x7 (x8 + 1) q86.2
    else
      Option.bind (f_Rn_mayBeBetter q86.2) (fun q93 =>
      if q93 = 0 then
        k74 x5 x6 x7 (x8 + 1) q86.2
      else
        Option.bind (f_Rn_attempt tx st st2 x6 q86.2) (fun q107 =>
        k74 x5 x6 x7 (x8 + 1) q107)))
def f_Rn_seek_l74 (tx : Nat) (st : Nat) (st2 : Nat) : Nat → Int32 → Int32 → Int32 → Int32 → Mem → Option (Mem)
  | 0 => fun _ _ _ _ _ => none
  | n + 1 => f_Rn_seek_b74 tx st st2 (f_Rn_seek_l74 tx st st2 n)
def f_Rn_seek_b45 (tx : Nat) (st : Nat) (st2 : Nat) (k45 : Int32 → Int32 → Int32 → Int32 → Mem → Option (Mem)) (x5 : Int32) (x6 : Int32) (x7 : Int32) (x8 : Int32) (S : Mem) : Option (Mem) :=
  if (S.1 7 7) ≤ x8 then
    f_Rn_seek_l74 tx st st2 5000 x5 x6 x7 0 S
  else
    letS (x7 * ((S.1 tx 0) + 1)) (fun y63 =>
    k45 x5 x6 y63 (x8 + 1) S)
def f_Rn_seek_l45 (tx : Nat) (st : Nat) (st2 : Nat) : Nat → Int32 → Int32 → Int32 → Int32 → Mem → Option (Mem)
  | 0 => fun _ _ _ _ _ => none
  | n + 1 => f_Rn_seek_b45 tx st st2 (f_Rn_seek_l45 tx st st2 n)
def f_Rn_seek_b26 (tx : Nat) (st : Nat) (st2 : Nat) (x5 : Int32) (x6 : Int32) (S : Mem) : Option (Mem) :=
  Option.bind (f_Rn_choose tx x5 S) (fun q30 =>
  letS (pI q30 7 1 8) (fun S36 =>
  f_Rn_seek_l45 tx st st2 5000 x5 x6 1 0 S36))
def f_Rn_seek_b0 (tx : Nat) (st : Nat) (st2 : Nat) (x5 : Int32) (x6 : Int32) (S : Mem) : Option (Mem) :=
  if (S.1 7 0) = 0 then
    f_Rn_seek_b26 tx st st2 x5 x6 S
  else
    if x5 = (S.1 7 8) then
      if x6 = (S.1 7 9) then
        some S
      else
        f_Rn_seek_b26 tx st st2 x5 x6 S
    else
      f_Rn_seek_b26 tx st st2 x5 x6 S
def f_Rn_seek (tx : Nat) (st : Nat) (st2 : Nat) (x5 : Int32) (x6 : Int32) (S : Mem) : Option (Mem) := f_Rn_seek_b0 tx st st2 x5 x6 S
theorem d_Rn_seek_0 : decode bc_Rn_seek 0 = .ok (.aload_n 0, 1) := by decide +kernel
theorem d_Rn_seek_1 : decode bc_Rn_seek 1 = .ok (.getfield 9, 3) := by decide +kernel
theorem d_Rn_seek_4 : decode bc_Rn_seek 4 = .ok (.ifCond .eq 22, 3) := by decide +kernel
theorem d_Rn_seek_7 : decode bc_Rn_seek 7 = .ok (.iload 5, 2) := by decide +kernel
theorem d_Rn_seek_9 : decode bc_Rn_seek 9 = .ok (.aload_n 0, 1) := by decide +kernel
theorem d_Rn_seek_10 : decode bc_Rn_seek 10 = .ok (.getfield 38, 3) := by decide +kernel
theorem d_Rn_seek_13 : decode bc_Rn_seek 13 = .ok (.if_icmp .ne 13, 3) := by decide +kernel
theorem d_Rn_seek_16 : decode bc_Rn_seek 16 = .ok (.iload 6, 2) := by decide +kernel
theorem d_Rn_seek_18 : decode bc_Rn_seek 18 = .ok (.aload_n 0, 1) := by decide +kernel
theorem d_Rn_seek_19 : decode bc_Rn_seek 19 = .ok (.getfield 41, 3) := by decide +kernel
theorem d_Rn_seek_22 : decode bc_Rn_seek 22 = .ok (.if_icmp .ne 4, 3) := by decide +kernel
theorem d_Rn_seek_25 : decode bc_Rn_seek 25 = .ok (.return_, 1) := by decide +kernel
theorem d_Rn_seek_26 : decode bc_Rn_seek 26 = .ok (.aload_n 0, 1) := by decide +kernel
theorem d_Rn_seek_27 : decode bc_Rn_seek 27 = .ok (.aload_n 1, 1) := by decide +kernel
theorem d_Rn_seek_28 : decode bc_Rn_seek 28 = .ok (.iload 5, 2) := by decide +kernel
theorem d_Rn_seek_30 : decode bc_Rn_seek 30 = .ok (.invokevirtual 44, 3) := by decide +kernel
theorem d_Rn_seek_33 : decode bc_Rn_seek 33 = .ok (.aload_n 0, 1) := by decide +kernel
theorem d_Rn_seek_34 : decode bc_Rn_seek 34 = .ok (.bipush 8, 2) := by decide +kernel
theorem d_Rn_seek_36 : decode bc_Rn_seek 36 = .ok (.putfield 15, 3) := by decide +kernel
theorem d_Rn_seek_39 : decode bc_Rn_seek 39 = .ok (.iconst 1, 1) := by decide +kernel
theorem d_Rn_seek_40 : decode bc_Rn_seek 40 = .ok (.istore 7, 2) := by decide +kernel
theorem d_Rn_seek_42 : decode bc_Rn_seek 42 = .ok (.iconst 0, 1) := by decide +kernel
theorem d_Rn_seek_43 : decode bc_Rn_seek 43 = .ok (.istore 8, 2) := by decide +kernel
theorem d_Rn_seek_45 : decode bc_Rn_seek 45 = .ok (.iload 8, 2) := by decide +kernel
theorem d_Rn_seek_47 : decode bc_Rn_seek 47 = .ok (.aload_n 0, 1) := by decide +kernel
theorem d_Rn_seek_48 : decode bc_Rn_seek 48 = .ok (.getfield 35, 3) := by decide +kernel
theorem d_Rn_seek_51 : decode bc_Rn_seek 51 = .ok (.if_icmp .ge 20, 3) := by decide +kernel
theorem d_Rn_seek_54 : decode bc_Rn_seek 54 = .ok (.iload 7, 2) := by decide +kernel
theorem d_Rn_seek_56 : decode bc_Rn_seek 56 = .ok (.aload_n 1, 1) := by decide +kernel
theorem d_Rn_seek_57 : decode bc_Rn_seek 57 = .ok (.getfield 48, 3) := by decide +kernel
theorem d_Rn_seek_60 : decode bc_Rn_seek 60 = .ok (.iconst 1, 1) := by decide +kernel
theorem d_Rn_seek_61 : decode bc_Rn_seek 61 = .ok (.iadd, 1) := by decide +kernel
theorem d_Rn_seek_62 : decode bc_Rn_seek 62 = .ok (.imul, 1) := by decide +kernel
theorem d_Rn_seek_63 : decode bc_Rn_seek 63 = .ok (.istore 7, 2) := by decide +kernel
theorem d_Rn_seek_65 : decode bc_Rn_seek 65 = .ok (.iinc 8 1, 3) := by decide +kernel
theorem d_Rn_seek_68 : decode bc_Rn_seek 68 = .ok (.goto (-23), 3) := by decide +kernel
theorem d_Rn_seek_71 : decode bc_Rn_seek 71 = .ok (.iconst 0, 1) := by decide +kernel
theorem d_Rn_seek_72 : decode bc_Rn_seek 72 = .ok (.istore 8, 2) := by decide +kernel
theorem d_Rn_seek_74 : decode bc_Rn_seek 74 = .ok (.iload 8, 2) := by decide +kernel
theorem d_Rn_seek_76 : decode bc_Rn_seek 76 = .ok (.iload 7, 2) := by decide +kernel
theorem d_Rn_seek_78 : decode bc_Rn_seek 78 = .ok (.if_icmp .ge 38, 3) := by decide +kernel
theorem d_Rn_seek_81 : decode bc_Rn_seek 81 = .ok (.aload_n 0, 1) := by decide +kernel
theorem d_Rn_seek_82 : decode bc_Rn_seek 82 = .ok (.aload_n 1, 1) := by decide +kernel
theorem d_Rn_seek_83 : decode bc_Rn_seek 83 = .ok (.aload_n 2, 1) := by decide +kernel
theorem d_Rn_seek_84 : decode bc_Rn_seek 84 = .ok (.iload 8, 2) := by decide +kernel
theorem d_Rn_seek_86 : decode bc_Rn_seek 86 = .ok (.invokevirtual 53, 3) := by decide +kernel
theorem d_Rn_seek_89 : decode bc_Rn_seek 89 = .ok (.ifCond .eq 21, 3) := by decide +kernel
theorem d_Rn_seek_92 : decode bc_Rn_seek 92 = .ok (.aload_n 0, 1) := by decide +kernel
theorem d_Rn_seek_93 : decode bc_Rn_seek 93 = .ok (.invokevirtual 57, 3) := by decide +kernel
theorem d_Rn_seek_96 : decode bc_Rn_seek 96 = .ok (.ifCond .eq 14, 3) := by decide +kernel
theorem d_Rn_seek_99 : decode bc_Rn_seek 99 = .ok (.aload_n 0, 1) := by decide +kernel
theorem d_Rn_seek_100 : decode bc_Rn_seek 100 = .ok (.aload_n 1, 1) := by decide +kernel
theorem d_Rn_seek_101 : decode bc_Rn_seek 101 = .ok (.aload_n 2, 1) := by decide +kernel
theorem d_Rn_seek_102 : decode bc_Rn_seek 102 = .ok (.aload_n 3, 1) := by decide +kernel
theorem d_Rn_seek_103 : decode bc_Rn_seek 103 = .ok (.aload 4, 2) := by decide +kernel
theorem d_Rn_seek_105 : decode bc_Rn_seek 105 = .ok (.iload 6, 2) := by decide +kernel
theorem d_Rn_seek_107 : decode bc_Rn_seek 107 = .ok (.invokevirtual 61, 3) := by decide +kernel
theorem d_Rn_seek_110 : decode bc_Rn_seek 110 = .ok (.iinc 8 1, 3) := by decide +kernel
theorem d_Rn_seek_113 : decode bc_Rn_seek 113 = .ok (.goto (-39), 3) := by decide +kernel
theorem d_Rn_seek_116 : decode bc_Rn_seek 116 = .ok (.aload_n 0, 1) := by decide +kernel
theorem d_Rn_seek_117 : decode bc_Rn_seek 117 = .ok (.iconst 1, 1) := by decide +kernel
theorem d_Rn_seek_118 : decode bc_Rn_seek 118 = .ok (.putfield 9, 3) := by decide +kernel
theorem d_Rn_seek_121 : decode bc_Rn_seek 121 = .ok (.aload_n 0, 1) := by decide +kernel
theorem d_Rn_seek_122 : decode bc_Rn_seek 122 = .ok (.iload 5, 2) := by decide +kernel
theorem d_Rn_seek_124 : decode bc_Rn_seek 124 = .ok (.putfield 38, 3) := by decide +kernel
theorem d_Rn_seek_127 : decode bc_Rn_seek 127 = .ok (.aload_n 0, 1) := by decide +kernel
theorem d_Rn_seek_128 : decode bc_Rn_seek 128 = .ok (.iload 6, 2) := by decide +kernel
theorem d_Rn_seek_130 : decode bc_Rn_seek 130 = .ok (.putfield 41, 3) := by decide +kernel
theorem d_Rn_seek_133 : decode bc_Rn_seek 133 = .ok (.return_, 1) := by decide +kernel
set_option maxRecDepth 20000 in
theorem w_Rn_seek_b74 {X : CX} {V : WV} {tx : Nat} {st : Nat} {st2 : Nat} (hV : IsC V) (htx : isTx tx) (hst : isSt st) (hst2 : isSt st2) {z : Mem} (hC : Ck X V bc_Rn_seek 9 "SecretWells$Rain" none 6 158) (k74 : Int32 → Int32 → Int32 → Int32 → Mem → Option (Mem)) (hk74 : ∀ (x5 : Int32) (x6 : Int32) (x7 : Int32) (x8 : Int32) (S : Mem), k74 x5 x6 x7 x8 S = some z → G X V 9 (QV X V z) 74 [some (.ref (V.2.2.1 7 0)), some (.ref (V.2.2.1 tx 0)), some (.ref (V.2.2.1 st 0)), some (.ref (V.2.2.1 st2 0)), some (.ref (V.2.2.1 6 0)), some (.int x5), some (.int x6), some (.int x7), some (.int x8)] [] S) (x5 : Int32) (x6 : Int32) (x7 : Int32) (x8 : Int32) (S : Mem) (h : f_Rn_seek_b74 tx st st2 k74 x5 x6 x7 x8 S = some z) : G X V 9 (QV X V z) 74 [some (.ref (V.2.2.1 7 0)), some (.ref (V.2.2.1 tx 0)), some (.ref (V.2.2.1 st 0)), some (.ref (V.2.2.1 st2 0)), some (.ref (V.2.2.1 6 0)), some (.int x5), some (.int x6), some (.int x7), some (.int x8)] [] S := by
  unfold f_Rn_seek_b74 at h
  refine g_iload (pc := 74) hC (i := 8) (x := x8) rfl d_Rn_seek_74 ?_
  refine g_iload (pc := 76) hC (i := 7) (x := x7) rfl d_Rn_seek_76 ?_
  refine g_icmp_ge (pc := 78) hC (tgt := 116) (by decide) d_Rn_seek_78 h (fun h => ?_) (fun h => ?_)
  · refine g_aload_n (pc := 116) hC (i := 0) (x := (V.2.2.1 7 0)) rfl rfl d_Rn_seek_116 ?_
    refine g_iconst (pc := 117) hC kc_1 d_Rn_seek_117 ?_
    refine g_putI (pc := 118) hC po_Rn_9 (ob_Rn hV) rfl rfl rfl d_Rn_seek_118 ?_
    refine g_letS h (fun S118 h => ?_)
    refine g_aload_n (pc := 121) hC (i := 0) (x := (V.2.2.1 7 0)) rfl rfl d_Rn_seek_121 ?_
    refine g_iload (pc := 122) hC (i := 5) (x := x5) rfl d_Rn_seek_122 ?_
    refine g_putI (pc := 124) hC po_Rn_38 (ob_Rn hV) rfl rfl rfl d_Rn_seek_124 ?_
    refine g_letS h (fun S124 h => ?_)
    refine g_aload_n (pc := 127) hC (i := 0) (x := (V.2.2.1 7 0)) rfl rfl d_Rn_seek_127 ?_
    refine g_iload (pc := 128) hC (i := 6) (x := x6) rfl d_Rn_seek_128 ?_
    refine g_putI (pc := 130) hC po_Rn_41 (ob_Rn hV) rfl rfl rfl d_Rn_seek_130 ?_
    refine g_letS h (fun S130 h => ?_)
    exact g_vW (pc := 133) hC d_Rn_seek_133 h
  · refine g_aload_n (pc := 81) hC (i := 0) (x := (V.2.2.1 7 0)) rfl rfl d_Rn_seek_81 ?_
    refine g_aload_n (pc := 82) hC (i := 1) (x := (V.2.2.1 tx 0)) rfl rfl d_Rn_seek_82 ?_
    refine g_aload_n (pc := 83) hC (i := 2) (x := (V.2.2.1 st 0)) rfl rfl d_Rn_seek_83 ?_
    refine g_iload (pc := 84) hC (i := 8) (x := x8) rfl d_Rn_seek_84 ?_
    obtain ⟨q86, hq86, h⟩ := Option.bind_eq_some_iff.mp h
    refine g_vi (pc := 86) hC (As := [.ref (V.2.2.1 tx 0), .ref (V.2.2.1 st 0), .int x8]) (st := []) mt_Rn_isLaid lk_Rn_53 rfl (ob_Rn hV) (Nat.le_of_ble_eq_true rfl) ⟨Nat.le_of_ble_eq_true rfl, Nat.le_of_ble_eq_true rfl⟩ rfl d_Rn_seek_86 (c_Rn_isLaid hV htx hst hq86) ?_
    refine g_if_eq (pc := 89) hC (tgt := 110) (by decide) d_Rn_seek_89 h (fun h => ?_) (fun h => ?_)
    · refine s_iinc (pc := 110) hC (i := 8) (x := x8) (v := x8 + 1) rfl (by rw [kc_1]) (by decide) d_Rn_seek_110 (lv2 := [some (.ref (V.2.2.1 7 0)), some (.ref (V.2.2.1 tx 0)), some (.ref (V.2.2.1 st 0)), some (.ref (V.2.2.1 st2 0)), some (.ref (V.2.2.1 6 0)), some (.int x5), some (.int x6), some (.int x7), some (.int (x8 + 1))]) rfl ?_
      refine g_goto (pc := 113) hC (tgt := 74) (by decide) d_Rn_seek_113 ?_
      exact hk74 x5 x6 x7 (x8 + 1) q86.2 h
    · refine g_aload_n (pc := 92) hC (i := 0) (x := (V.2.2.1 7 0)) rfl rfl d_Rn_seek_92 ?_
      obtain ⟨q93, hq93, h⟩ := Option.bind_eq_some_iff.mp h
      refine g_vi (pc := 93) hC (As := []) (st := []) mt_Rn_mayBeBetter lk_Rn_57 rfl (ob_Rn hV) (Nat.le_of_ble_eq_true rfl) ⟨Nat.le_of_ble_eq_true rfl, Nat.le_of_ble_eq_true rfl⟩ rfl d_Rn_seek_93 (c_Rn_mayBeBetter hV hq93) ?_
      refine g_if_eq (pc := 96) hC (tgt := 110) (by decide) d_Rn_seek_96 h (fun h => ?_) (fun h => ?_)
      · refine s_iinc (pc := 110) hC (i := 8) (x := x8) (v := x8 + 1) rfl (by rw [kc_1]) (by decide) d_Rn_seek_110 (lv2 := [some (.ref (V.2.2.1 7 0)), some (.ref (V.2.2.1 tx 0)), some (.ref (V.2.2.1 st 0)), some (.ref (V.2.2.1 st2 0)), some (.ref (V.2.2.1 6 0)), some (.int x5), some (.int x6), some (.int x7), some (.int (x8 + 1))]) rfl ?_
        refine g_goto (pc := 113) hC (tgt := 74) (by decide) d_Rn_seek_113 ?_
        exact hk74 x5 x6 x7 (x8 + 1) q86.2 h
      · refine g_aload_n (pc := 99) hC (i := 0) (x := (V.2.2.1 7 0)) rfl rfl d_Rn_seek_99 ?_
        refine g_aload_n (pc := 100) hC (i := 1) (x := (V.2.2.1 tx 0)) rfl rfl d_Rn_seek_100 ?_
        refine g_aload_n (pc := 101) hC (i := 2) (x := (V.2.2.1 st 0)) rfl rfl d_Rn_seek_101 ?_
        refine g_aload_n (pc := 102) hC (i := 3) (x := (V.2.2.1 st2 0)) rfl rfl d_Rn_seek_102 ?_
        refine g_aload (pc := 103) hC (i := 4) (x := (V.2.2.1 6 0)) rfl d_Rn_seek_103 ?_
        refine g_iload (pc := 105) hC (i := 6) (x := x6) rfl d_Rn_seek_105 ?_
        obtain ⟨q107, hq107, h⟩ := Option.bind_eq_some_iff.mp h
        refine g_vv (pc := 107) hC (As := [.ref (V.2.2.1 tx 0), .ref (V.2.2.1 st 0), .ref (V.2.2.1 st2 0), .ref (V.2.2.1 6 0), .int x6]) (st := []) mt_Rn_attempt lk_Rn_61 rfl (ob_Rn hV) (Nat.le_of_ble_eq_true rfl) ⟨Nat.le_of_ble_eq_true rfl, Nat.le_of_ble_eq_true rfl⟩ rfl d_Rn_seek_107 (c_Rn_attempt hV htx hst hst2 hq107) ?_
        refine s_iinc (pc := 110) hC (i := 8) (x := x8) (v := x8 + 1) rfl (by rw [kc_1]) (by decide) d_Rn_seek_110 (lv2 := [some (.ref (V.2.2.1 7 0)), some (.ref (V.2.2.1 tx 0)), some (.ref (V.2.2.1 st 0)), some (.ref (V.2.2.1 st2 0)), some (.ref (V.2.2.1 6 0)), some (.int x5), some (.int x6), some (.int x7), some (.int (x8 + 1))]) rfl ?_
        refine g_goto (pc := 113) hC (tgt := 74) (by decide) d_Rn_seek_113 ?_
        exact hk74 x5 x6 x7 (x8 + 1) q107 h
theorem w_Rn_seek_l74 {X : CX} {V : WV} {tx : Nat} {st : Nat} {st2 : Nat} (hV : IsC V) (htx : isTx tx) (hst : isSt st) (hst2 : isSt st2) {z : Mem} (hC : Ck X V bc_Rn_seek 9 "SecretWells$Rain" none 6 158) : ∀ (n : Nat) (x5 : Int32) (x6 : Int32) (x7 : Int32) (x8 : Int32) (S : Mem), f_Rn_seek_l74 tx st st2 n x5 x6 x7 x8 S = some z → G X V 9 (QV X V z) 74 [some (.ref (V.2.2.1 7 0)), some (.ref (V.2.2.1 tx 0)), some (.ref (V.2.2.1 st 0)), some (.ref (V.2.2.1 st2 0)), some (.ref (V.2.2.1 6 0)), some (.int x5), some (.int x6), some (.int x7), some (.int x8)] [] S := by
  intro n
  induction n with
  | zero =>
    intro x5 x6 x7 x8 S h
    have h : (none : Option (Mem)) = some z := h
    cases h
  | succ n ih =>
    intro x5 x6 x7 x8 S h
    exact w_Rn_seek_b74 hV htx hst hst2 hC (f_Rn_seek_l74 tx st st2 n) ih x5 x6 x7 x8 S h
set_option maxRecDepth 20000 in
theorem w_Rn_seek_b45 {X : CX} {V : WV} {tx : Nat} {st : Nat} {st2 : Nat} (hV : IsC V) (htx : isTx tx) (hst : isSt st) (hst2 : isSt st2) {z : Mem} (hC : Ck X V bc_Rn_seek 9 "SecretWells$Rain" none 6 158) (k45 : Int32 → Int32 → Int32 → Int32 → Mem → Option (Mem)) (hk45 : ∀ (x5 : Int32) (x6 : Int32) (x7 : Int32) (x8 : Int32) (S : Mem), k45 x5 x6 x7 x8 S = some z → G X V 9 (QV X V z) 45 [some (.ref (V.2.2.1 7 0)), some (.ref (V.2.2.1 tx 0)), some (.ref (V.2.2.1 st 0)), some (.ref (V.2.2.1 st2 0)), some (.ref (V.2.2.1 6 0)), some (.int x5), some (.int x6), some (.int x7), some (.int x8)] [] S) (x5 : Int32) (x6 : Int32) (x7 : Int32) (x8 : Int32) (S : Mem) (h : f_Rn_seek_b45 tx st st2 k45 x5 x6 x7 x8 S = some z) : G X V 9 (QV X V z) 45 [some (.ref (V.2.2.1 7 0)), some (.ref (V.2.2.1 tx 0)), some (.ref (V.2.2.1 st 0)), some (.ref (V.2.2.1 st2 0)), some (.ref (V.2.2.1 6 0)), some (.int x5), some (.int x6), some (.int x7), some (.int x8)] [] S := by
  unfold f_Rn_seek_b45 at h
  refine g_iload (pc := 45) hC (i := 8) (x := x8) rfl d_Rn_seek_45 ?_
  refine g_aload_n (pc := 47) hC (i := 0) (x := (V.2.2.1 7 0)) rfl rfl d_Rn_seek_47 ?_
  refine g_getI (pc := 48) hC fo_Rn_35 (ob_Rn hV) rfl d_Rn_seek_48 ?_
  refine g_icmp_ge (pc := 51) hC (tgt := 71) (by decide) d_Rn_seek_51 h (fun h => ?_) (fun h => ?_)
  · refine g_iconst (pc := 71) hC kc_0 d_Rn_seek_71 ?_
    refine s_istore (pc := 72) hC (i := 8) (by decide) d_Rn_seek_72 (lv2 := [some (.ref (V.2.2.1 7 0)), some (.ref (V.2.2.1 tx 0)), some (.ref (V.2.2.1 st 0)), some (.ref (V.2.2.1 st2 0)), some (.ref (V.2.2.1 6 0)), some (.int x5), some (.int x6), some (.int x7), some (.int 0)]) rfl ?_
    exact w_Rn_seek_l74 hV htx hst hst2 hC 5000 x5 x6 x7 0 S h
  · refine g_iload (pc := 54) hC (i := 7) (x := x7) rfl d_Rn_seek_54 ?_
    refine g_aload_n (pc := 56) hC (i := 1) (x := (V.2.2.1 tx 0)) rfl rfl d_Rn_seek_56 ?_
    refine g_getI (pc := 57) hC fo_Rn_48 (ob_Tx hV htx) rfl d_Rn_seek_57 ?_
    refine g_iconst (pc := 60) hC kc_1 d_Rn_seek_60 ?_
    refine g_iadd (pc := 61) hC d_Rn_seek_61 ?_
    refine g_imul (pc := 62) hC d_Rn_seek_62 ?_
    refine g_leti h (fun y63 h => ?_)
    refine s_istore (pc := 63) hC (i := 7) (by decide) d_Rn_seek_63 (lv2 := [some (.ref (V.2.2.1 7 0)), some (.ref (V.2.2.1 tx 0)), some (.ref (V.2.2.1 st 0)), some (.ref (V.2.2.1 st2 0)), some (.ref (V.2.2.1 6 0)), some (.int x5), some (.int x6), some (.int y63), some (.int x8)]) rfl ?_
    refine s_iinc (pc := 65) hC (i := 8) (x := x8) (v := x8 + 1) rfl (by rw [kc_1]) (by decide) d_Rn_seek_65 (lv2 := [some (.ref (V.2.2.1 7 0)), some (.ref (V.2.2.1 tx 0)), some (.ref (V.2.2.1 st 0)), some (.ref (V.2.2.1 st2 0)), some (.ref (V.2.2.1 6 0)), some (.int x5), some (.int x6), some (.int y63), some (.int (x8 + 1))]) rfl ?_
    refine g_goto (pc := 68) hC (tgt := 45) (by decide) d_Rn_seek_68 ?_
    exact hk45 x5 x6 y63 (x8 + 1) S h
theorem w_Rn_seek_l45 {X : CX} {V : WV} {tx : Nat} {st : Nat} {st2 : Nat} (hV : IsC V) (htx : isTx tx) (hst : isSt st) (hst2 : isSt st2) {z : Mem} (hC : Ck X V bc_Rn_seek 9 "SecretWells$Rain" none 6 158) : ∀ (n : Nat) (x5 : Int32) (x6 : Int32) (x7 : Int32) (x8 : Int32) (S : Mem), f_Rn_seek_l45 tx st st2 n x5 x6 x7 x8 S = some z → G X V 9 (QV X V z) 45 [some (.ref (V.2.2.1 7 0)), some (.ref (V.2.2.1 tx 0)), some (.ref (V.2.2.1 st 0)), some (.ref (V.2.2.1 st2 0)), some (.ref (V.2.2.1 6 0)), some (.int x5), some (.int x6), some (.int x7), some (.int x8)] [] S := by
  intro n
  induction n with
  | zero =>
    intro x5 x6 x7 x8 S h
    have h : (none : Option (Mem)) = some z := h
    cases h
  | succ n ih =>
    intro x5 x6 x7 x8 S h
    exact w_Rn_seek_b45 hV htx hst hst2 hC (f_Rn_seek_l45 tx st st2 n) ih x5 x6 x7 x8 S h
set_option maxRecDepth 20000 in
theorem w_Rn_seek_b26 {X : CX} {V : WV} {tx : Nat} {st : Nat} {st2 : Nat} (hV : IsC V) (htx : isTx tx) (hst : isSt st) (hst2 : isSt st2) {z : Mem} (hC : Ck X V bc_Rn_seek 9 "SecretWells$Rain" none 6 158) (x5 : Int32) (x6 : Int32) (S : Mem) (h : f_Rn_seek_b26 tx st st2 x5 x6 S = some z) : G X V 9 (QV X V z) 26 [some (.ref (V.2.2.1 7 0)), some (.ref (V.2.2.1 tx 0)), some (.ref (V.2.2.1 st 0)), some (.ref (V.2.2.1 st2 0)), some (.ref (V.2.2.1 6 0)), some (.int x5), some (.int x6), none, none] [] S := by
  unfold f_Rn_seek_b26 at h
  refine g_aload_n (pc := 26) hC (i := 0) (x := (V.2.2.1 7 0)) rfl rfl d_Rn_seek_26 ?_
  refine g_aload_n (pc := 27) hC (i := 1) (x := (V.2.2.1 tx 0)) rfl rfl d_Rn_seek_27 ?_
  refine g_iload (pc := 28) hC (i := 5) (x := x5) rfl d_Rn_seek_28 ?_
  obtain ⟨q30, hq30, h⟩ := Option.bind_eq_some_iff.mp h
  refine g_vv (pc := 30) hC (As := [.ref (V.2.2.1 tx 0), .int x5]) (st := []) mt_Rn_choose lk_Rn_44 rfl (ob_Rn hV) (Nat.le_of_ble_eq_true rfl) ⟨Nat.le_of_ble_eq_true rfl, Nat.le_of_ble_eq_true rfl⟩ rfl d_Rn_seek_30 (c_Rn_choose hV htx hq30) ?_
  refine g_aload_n (pc := 33) hC (i := 0) (x := (V.2.2.1 7 0)) rfl rfl d_Rn_seek_33 ?_
  refine g_bipush (pc := 34) hC kb_8 d_Rn_seek_34 ?_
  refine g_putI (pc := 36) hC po_Rn_15 (ob_Rn hV) rfl rfl rfl d_Rn_seek_36 ?_
  refine g_letS h (fun S36 h => ?_)
  refine g_iconst (pc := 39) hC kc_1 d_Rn_seek_39 ?_
  refine s_istore (pc := 40) hC (i := 7) (by decide) d_Rn_seek_40 (lv2 := [some (.ref (V.2.2.1 7 0)), some (.ref (V.2.2.1 tx 0)), some (.ref (V.2.2.1 st 0)), some (.ref (V.2.2.1 st2 0)), some (.ref (V.2.2.1 6 0)), some (.int x5), some (.int x6), some (.int 1), none]) rfl ?_
  refine g_iconst (pc := 42) hC kc_0 d_Rn_seek_42 ?_
  refine s_istore (pc := 43) hC (i := 8) (by decide) d_Rn_seek_43 (lv2 := [some (.ref (V.2.2.1 7 0)), some (.ref (V.2.2.1 tx 0)), some (.ref (V.2.2.1 st 0)), some (.ref (V.2.2.1 st2 0)), some (.ref (V.2.2.1 6 0)), some (.int x5), some (.int x6), some (.int 1), some (.int 0)]) rfl ?_
  exact w_Rn_seek_l45 hV htx hst hst2 hC 5000 x5 x6 1 0 S36 h
set_option maxRecDepth 20000 in
theorem w_Rn_seek_b0 {X : CX} {V : WV} {tx : Nat} {st : Nat} {st2 : Nat} (hV : IsC V) (htx : isTx tx) (hst : isSt st) (hst2 : isSt st2) {z : Mem} (hC : Ck X V bc_Rn_seek 9 "SecretWells$Rain" none 6 158) (x5 : Int32) (x6 : Int32) (S : Mem) (h : f_Rn_seek_b0 tx st st2 x5 x6 S = some z) : G X V 9 (QV X V z) 0 [some (.ref (V.2.2.1 7 0)), some (.ref (V.2.2.1 tx 0)), some (.ref (V.2.2.1 st 0)), some (.ref (V.2.2.1 st2 0)), some (.ref (V.2.2.1 6 0)), some (.int x5), some (.int x6), none, none] [] S := by
  unfold f_Rn_seek_b0 at h
  refine g_aload_n (pc := 0) hC (i := 0) (x := (V.2.2.1 7 0)) rfl rfl d_Rn_seek_0 ?_
  refine g_getI (pc := 1) hC fo_Rn_9 (ob_Rn hV) rfl d_Rn_seek_1 ?_
  refine g_if_eq (pc := 4) hC (tgt := 26) (by decide) d_Rn_seek_4 h (fun h => ?_) (fun h => ?_)
  · exact w_Rn_seek_b26 hV htx hst hst2 hC x5 x6 S h
  · refine g_iload (pc := 7) hC (i := 5) (x := x5) rfl d_Rn_seek_7 ?_
    refine g_aload_n (pc := 9) hC (i := 0) (x := (V.2.2.1 7 0)) rfl rfl d_Rn_seek_9 ?_
    refine g_getI (pc := 10) hC fo_Rn_38 (ob_Rn hV) rfl d_Rn_seek_10 ?_
    refine g_icmp_ne (pc := 13) hC (tgt := 26) (by decide) d_Rn_seek_13 h (fun h => ?_) (fun h => ?_)
    · exact w_Rn_seek_b26 hV htx hst hst2 hC x5 x6 S h
    · refine g_iload (pc := 16) hC (i := 6) (x := x6) rfl d_Rn_seek_16 ?_
      refine g_aload_n (pc := 18) hC (i := 0) (x := (V.2.2.1 7 0)) rfl rfl d_Rn_seek_18 ?_
      refine g_getI (pc := 19) hC fo_Rn_41 (ob_Rn hV) rfl d_Rn_seek_19 ?_
      refine g_icmp_ne (pc := 22) hC (tgt := 26) (by decide) d_Rn_seek_22 h (fun h => ?_) (fun h => ?_)
      · exact w_Rn_seek_b26 hV htx hst hst2 hC x5 x6 S h
      · exact g_vW (pc := 25) hC d_Rn_seek_25 h
theorem c_Rn_seek {V : WV} {l : Launch} (hV : IsC V) {tx : Nat} {st : Nat} {st2 : Nat} (htx : isTx tx) (hst : isSt st) (hst2 : isSt st2) {x5 : Int32} {x6 : Int32} {S : Mem} {z : Mem} (h : f_Rn_seek tx st st2 x5 x6 S = some z) : CV V l y_Rn_seek bc_Rn_seek 9 none 6 158 [.ref (V.2.2.1 7 0), .ref (V.2.2.1 tx 0), .ref (V.2.2.1 st 0), .ref (V.2.2.1 st2 0), .ref (V.2.2.1 6 0), .int x5, .int x6] S z :=
  ct_v rfl (IsC.ok hV) (Nat.le_of_ble_eq_true rfl) (fun _ _ hC => w_Rn_seek_b0 hV htx hst hst2 hC x5 x6 S h)
def f_Rw_save_b0 (rw : Nat) (st : Nat) (x1 : Int32) (S : Mem) : Option (Mem) :=
  letS (x1 * 37) (fun y4 =>
  if x1 < 0 then
    some S
  else
    if (y4 + 37) ≤ (Int32.ofNat (rwLen rw)) then
      gIn y4 (rwLen rw) (letS (sA S rw 0 y4 (S.1 st 0)) (fun S31 =>
      gIn (y4 + 1) (rwLen rw) (letS (sA S31 rw 0 (y4 + 1) (S31.1 st 1)) (fun S43 =>
      gIn (y4 + 2) (rwLen rw) (letS (sA S43 rw 0 (y4 + 2) (S43.1 st 2)) (fun S55 =>
      gIn (y4 + 3) (rwLen rw) (letS (sA S55 rw 0 (y4 + 3) (S55.1 st 3)) (fun S67 =>
      gCp 0 (y4 + 4) 4 4 (rwLen rw) (letS (sCp S67 st 4 rw 0 0 (y4 + 4) 4) (fun S82 =>
      gCp 0 ((y4 + 4) + 4) 7 7 (rwLen rw) (letS (sCp S82 st 5 rw 0 0 ((y4 + 4) + 4) 7) (fun S100 =>
      gCp 0 (((y4 + 4) + 4) + 7) 7 7 (rwLen rw) (letS (sCp S100 st 6 rw 0 0 (((y4 + 4) + 4) + 7) 7) (fun S118 =>
      gCp 0 ((((y4 + 4) + 4) + 7) + 7) 7 7 (rwLen rw) (letS (sCp S118 st 7 rw 0 0 ((((y4 + 4) + 4) + 7) + 7) 7) (fun S136 =>
      gCp 0 (((((y4 + 4) + 4) + 7) + 7) + 7) 8 8 (rwLen rw) (letS (sCp S136 st 8 rw 0 0 (((((y4 + 4) + 4) + 7) + 7) + 7) 8) (fun S154 =>
      some S154))))))))))))))))))
    else
      some S)
def f_Rw_save (rw : Nat) (st : Nat) (x1 : Int32) (S : Mem) : Option (Mem) := f_Rw_save_b0 rw st x1 S
theorem d_Rw_save_0 : decode bc_Rw_save 0 = .ok (.iload_n 1, 1) := by decide +kernel
theorem d_Rw_save_1 : decode bc_Rw_save 1 = .ok (.bipush 37, 2) := by decide +kernel
theorem d_Rw_save_3 : decode bc_Rw_save 3 = .ok (.imul, 1) := by decide +kernel
theorem d_Rw_save_4 : decode bc_Rw_save 4 = .ok (.istore_n 3, 1) := by decide +kernel
theorem d_Rw_save_5 : decode bc_Rw_save 5 = .ok (.iload_n 1, 1) := by decide +kernel
theorem d_Rw_save_6 : decode bc_Rw_save 6 = .ok (.ifCond .lt 15, 3) := by decide +kernel
theorem d_Rw_save_9 : decode bc_Rw_save 9 = .ok (.iload_n 3, 1) := by decide +kernel
theorem d_Rw_save_10 : decode bc_Rw_save 10 = .ok (.bipush 37, 2) := by decide +kernel
theorem d_Rw_save_12 : decode bc_Rw_save 12 = .ok (.iadd, 1) := by decide +kernel
theorem d_Rw_save_13 : decode bc_Rw_save 13 = .ok (.aload_n 0, 1) := by decide +kernel
theorem d_Rw_save_14 : decode bc_Rw_save 14 = .ok (.getfield 17, 3) := by decide +kernel
theorem d_Rw_save_17 : decode bc_Rw_save 17 = .ok (.arraylength, 1) := by decide +kernel
theorem d_Rw_save_18 : decode bc_Rw_save 18 = .ok (.if_icmp .le 4, 3) := by decide +kernel
theorem d_Rw_save_21 : decode bc_Rw_save 21 = .ok (.return_, 1) := by decide +kernel
theorem d_Rw_save_22 : decode bc_Rw_save 22 = .ok (.aload_n 0, 1) := by decide +kernel
theorem d_Rw_save_23 : decode bc_Rw_save 23 = .ok (.getfield 17, 3) := by decide +kernel
theorem d_Rw_save_26 : decode bc_Rw_save 26 = .ok (.iload_n 3, 1) := by decide +kernel
theorem d_Rw_save_27 : decode bc_Rw_save 27 = .ok (.aload_n 2, 1) := by decide +kernel
theorem d_Rw_save_28 : decode bc_Rw_save 28 = .ok (.getfield 23, 3) := by decide +kernel
theorem d_Rw_save_31 : decode bc_Rw_save 31 = .ok (.iastore, 1) := by decide +kernel
theorem d_Rw_save_32 : decode bc_Rw_save 32 = .ok (.aload_n 0, 1) := by decide +kernel
theorem d_Rw_save_33 : decode bc_Rw_save 33 = .ok (.getfield 17, 3) := by decide +kernel
theorem d_Rw_save_36 : decode bc_Rw_save 36 = .ok (.iload_n 3, 1) := by decide +kernel
theorem d_Rw_save_37 : decode bc_Rw_save 37 = .ok (.iconst 1, 1) := by decide +kernel
theorem d_Rw_save_38 : decode bc_Rw_save 38 = .ok (.iadd, 1) := by decide +kernel
theorem d_Rw_save_39 : decode bc_Rw_save 39 = .ok (.aload_n 2, 1) := by decide +kernel
theorem d_Rw_save_40 : decode bc_Rw_save 40 = .ok (.getfield 27, 3) := by decide +kernel
theorem d_Rw_save_43 : decode bc_Rw_save 43 = .ok (.iastore, 1) := by decide +kernel
theorem d_Rw_save_44 : decode bc_Rw_save 44 = .ok (.aload_n 0, 1) := by decide +kernel
theorem d_Rw_save_45 : decode bc_Rw_save 45 = .ok (.getfield 17, 3) := by decide +kernel
theorem d_Rw_save_48 : decode bc_Rw_save 48 = .ok (.iload_n 3, 1) := by decide +kernel
theorem d_Rw_save_49 : decode bc_Rw_save 49 = .ok (.iconst 2, 1) := by decide +kernel
theorem d_Rw_save_50 : decode bc_Rw_save 50 = .ok (.iadd, 1) := by decide +kernel
theorem d_Rw_save_51 : decode bc_Rw_save 51 = .ok (.aload_n 2, 1) := by decide +kernel
theorem d_Rw_save_52 : decode bc_Rw_save 52 = .ok (.getfield 30, 3) := by decide +kernel
theorem d_Rw_save_55 : decode bc_Rw_save 55 = .ok (.iastore, 1) := by decide +kernel
theorem d_Rw_save_56 : decode bc_Rw_save 56 = .ok (.aload_n 0, 1) := by decide +kernel
theorem d_Rw_save_57 : decode bc_Rw_save 57 = .ok (.getfield 17, 3) := by decide +kernel
theorem d_Rw_save_60 : decode bc_Rw_save 60 = .ok (.iload_n 3, 1) := by decide +kernel
theorem d_Rw_save_61 : decode bc_Rw_save 61 = .ok (.iconst 3, 1) := by decide +kernel
theorem d_Rw_save_62 : decode bc_Rw_save 62 = .ok (.iadd, 1) := by decide +kernel
theorem d_Rw_save_63 : decode bc_Rw_save 63 = .ok (.aload_n 2, 1) := by decide +kernel
theorem d_Rw_save_64 : decode bc_Rw_save 64 = .ok (.getfield 33, 3) := by decide +kernel
theorem d_Rw_save_67 : decode bc_Rw_save 67 = .ok (.iastore, 1) := by decide +kernel
theorem d_Rw_save_68 : decode bc_Rw_save 68 = .ok (.iinc 3 4, 3) := by decide +kernel
theorem d_Rw_save_71 : decode bc_Rw_save 71 = .ok (.aload_n 2, 1) := by decide +kernel
theorem d_Rw_save_72 : decode bc_Rw_save 72 = .ok (.getfield 36, 3) := by decide +kernel
theorem d_Rw_save_75 : decode bc_Rw_save 75 = .ok (.iconst 0, 1) := by decide +kernel
theorem d_Rw_save_76 : decode bc_Rw_save 76 = .ok (.aload_n 0, 1) := by decide +kernel
theorem d_Rw_save_77 : decode bc_Rw_save 77 = .ok (.getfield 17, 3) := by decide +kernel
theorem d_Rw_save_80 : decode bc_Rw_save 80 = .ok (.iload_n 3, 1) := by decide +kernel
theorem d_Rw_save_81 : decode bc_Rw_save 81 = .ok (.iconst 4, 1) := by decide +kernel
theorem d_Rw_save_82 : decode bc_Rw_save 82 = .ok (.invokestatic 39, 3) := by decide +kernel
theorem d_Rw_save_85 : decode bc_Rw_save 85 = .ok (.iinc 3 4, 3) := by decide +kernel
theorem d_Rw_save_88 : decode bc_Rw_save 88 = .ok (.aload_n 2, 1) := by decide +kernel
theorem d_Rw_save_89 : decode bc_Rw_save 89 = .ok (.getfield 45, 3) := by decide +kernel
theorem d_Rw_save_92 : decode bc_Rw_save 92 = .ok (.iconst 0, 1) := by decide +kernel
theorem d_Rw_save_93 : decode bc_Rw_save 93 = .ok (.aload_n 0, 1) := by decide +kernel
theorem d_Rw_save_94 : decode bc_Rw_save 94 = .ok (.getfield 17, 3) := by decide +kernel
theorem d_Rw_save_97 : decode bc_Rw_save 97 = .ok (.iload_n 3, 1) := by decide +kernel
theorem d_Rw_save_98 : decode bc_Rw_save 98 = .ok (.bipush 7, 2) := by decide +kernel
theorem d_Rw_save_100 : decode bc_Rw_save 100 = .ok (.invokestatic 39, 3) := by decide +kernel
theorem d_Rw_save_103 : decode bc_Rw_save 103 = .ok (.iinc 3 7, 3) := by decide +kernel
theorem d_Rw_save_106 : decode bc_Rw_save 106 = .ok (.aload_n 2, 1) := by decide +kernel
theorem d_Rw_save_107 : decode bc_Rw_save 107 = .ok (.getfield 48, 3) := by decide +kernel
theorem d_Rw_save_110 : decode bc_Rw_save 110 = .ok (.iconst 0, 1) := by decide +kernel
theorem d_Rw_save_111 : decode bc_Rw_save 111 = .ok (.aload_n 0, 1) := by decide +kernel
theorem d_Rw_save_112 : decode bc_Rw_save 112 = .ok (.getfield 17, 3) := by decide +kernel
theorem d_Rw_save_115 : decode bc_Rw_save 115 = .ok (.iload_n 3, 1) := by decide +kernel
theorem d_Rw_save_116 : decode bc_Rw_save 116 = .ok (.bipush 7, 2) := by decide +kernel
theorem d_Rw_save_118 : decode bc_Rw_save 118 = .ok (.invokestatic 39, 3) := by decide +kernel
theorem d_Rw_save_121 : decode bc_Rw_save 121 = .ok (.iinc 3 7, 3) := by decide +kernel
theorem d_Rw_save_124 : decode bc_Rw_save 124 = .ok (.aload_n 2, 1) := by decide +kernel
theorem d_Rw_save_125 : decode bc_Rw_save 125 = .ok (.getfield 51, 3) := by decide +kernel
theorem d_Rw_save_128 : decode bc_Rw_save 128 = .ok (.iconst 0, 1) := by decide +kernel
theorem d_Rw_save_129 : decode bc_Rw_save 129 = .ok (.aload_n 0, 1) := by decide +kernel
theorem d_Rw_save_130 : decode bc_Rw_save 130 = .ok (.getfield 17, 3) := by decide +kernel
theorem d_Rw_save_133 : decode bc_Rw_save 133 = .ok (.iload_n 3, 1) := by decide +kernel
theorem d_Rw_save_134 : decode bc_Rw_save 134 = .ok (.bipush 7, 2) := by decide +kernel
theorem d_Rw_save_136 : decode bc_Rw_save 136 = .ok (.invokestatic 39, 3) := by decide +kernel
theorem d_Rw_save_139 : decode bc_Rw_save 139 = .ok (.iinc 3 7, 3) := by decide +kernel
theorem d_Rw_save_142 : decode bc_Rw_save 142 = .ok (.aload_n 2, 1) := by decide +kernel
theorem d_Rw_save_143 : decode bc_Rw_save 143 = .ok (.getfield 54, 3) := by decide +kernel
theorem d_Rw_save_146 : decode bc_Rw_save 146 = .ok (.iconst 0, 1) := by decide +kernel
theorem d_Rw_save_147 : decode bc_Rw_save 147 = .ok (.aload_n 0, 1) := by decide +kernel
theorem d_Rw_save_148 : decode bc_Rw_save 148 = .ok (.getfield 17, 3) := by decide +kernel
theorem d_Rw_save_151 : decode bc_Rw_save 151 = .ok (.iload_n 3, 1) := by decide +kernel
theorem d_Rw_save_152 : decode bc_Rw_save 152 = .ok (.bipush 8, 2) := by decide +kernel
theorem d_Rw_save_154 : decode bc_Rw_save 154 = .ok (.invokestatic 39, 3) := by decide +kernel
theorem d_Rw_save_157 : decode bc_Rw_save 157 = .ok (.return_, 1) := by decide +kernel
set_option maxRecDepth 20000 in
theorem w_Rw_save_b0 {X : CX} {V : WV} {rw : Nat} {st : Nat} (hV : IsC V) (hrw : isRw rw) (hst : isSt st) {z : Mem} (hC : Ck X V bc_Rw_save 4 "SecretWells$Rows" none 1 26) (x1 : Int32) (S : Mem) (h : f_Rw_save_b0 rw st x1 S = some z) : G X V 4 (QV X V z) 0 [some (.ref (V.2.2.1 rw 0)), some (.int x1), some (.ref (V.2.2.1 st 0)), none] [] S := by
  unfold f_Rw_save_b0 at h
  refine g_iload_n (pc := 0) hC (i := 1) (x := x1) rfl rfl d_Rw_save_0 ?_
  refine g_bipush (pc := 1) hC kb_37 d_Rw_save_1 ?_
  refine g_imul (pc := 3) hC d_Rw_save_3 ?_
  refine g_leti h (fun y4 h => ?_)
  refine s_istore_n (pc := 4) hC (i := 3) rfl (by decide) d_Rw_save_4 (lv2 := [some (.ref (V.2.2.1 rw 0)), some (.int x1), some (.ref (V.2.2.1 st 0)), some (.int y4)]) rfl ?_
  refine g_iload_n (pc := 5) hC (i := 1) (x := x1) rfl rfl d_Rw_save_5 ?_
  refine g_if_lt (pc := 6) hC (tgt := 21) (by decide) d_Rw_save_6 h (fun h => ?_) (fun h => ?_)
  · exact g_vW (pc := 21) hC d_Rw_save_21 h
  · refine g_iload_n (pc := 9) hC (i := 3) (x := y4) rfl rfl d_Rw_save_9 ?_
    refine g_bipush (pc := 10) hC kb_37 d_Rw_save_10 ?_
    refine g_iadd (pc := 12) hC d_Rw_save_12 ?_
    refine g_aload_n (pc := 13) hC (i := 0) (x := (V.2.2.1 rw 0)) rfl rfl d_Rw_save_13 ?_
    refine g_getA (pc := 14) hC fo_Rw_17 (ob_Rw hV hrw) rfl d_Rw_save_14 ?_
    refine g_alen (pc := 17) hC (by decide) (ar_Rw_0 hV hrw) rfl d_Rw_save_17 ?_
    refine g_icmp_le (pc := 18) hC (tgt := 22) (by decide) d_Rw_save_18 h (fun h => ?_) (fun h => ?_)
    · refine g_aload_n (pc := 22) hC (i := 0) (x := (V.2.2.1 rw 0)) rfl rfl d_Rw_save_22 ?_
      refine g_getA (pc := 23) hC fo_Rw_17 (ob_Rw hV hrw) rfl d_Rw_save_23 ?_
      refine g_iload_n (pc := 26) hC (i := 3) (x := y4) rfl rfl d_Rw_save_26 ?_
      refine g_aload_n (pc := 27) hC (i := 2) (x := (V.2.2.1 st 0)) rfl rfl d_Rw_save_27 ?_
      refine g_getI (pc := 28) hC fo_Rw_23 (ob_St hV hst) rfl d_Rw_save_28 ?_
      refine g_iast (pc := 31) hC (ar_Rw_0 hV hrw) d_Rw_save_31 h (fun h => ?_)
      refine g_letS h (fun S31 h => ?_)
      refine g_aload_n (pc := 32) hC (i := 0) (x := (V.2.2.1 rw 0)) rfl rfl d_Rw_save_32 ?_
      refine g_getA (pc := 33) hC fo_Rw_17 (ob_Rw hV hrw) rfl d_Rw_save_33 ?_
      refine g_iload_n (pc := 36) hC (i := 3) (x := y4) rfl rfl d_Rw_save_36 ?_
      refine g_iconst (pc := 37) hC kc_1 d_Rw_save_37 ?_
      refine g_iadd (pc := 38) hC d_Rw_save_38 ?_
      refine g_aload_n (pc := 39) hC (i := 2) (x := (V.2.2.1 st 0)) rfl rfl d_Rw_save_39 ?_
      refine g_getI (pc := 40) hC fo_Rw_27 (ob_St hV hst) rfl d_Rw_save_40 ?_
      refine g_iast (pc := 43) hC (ar_Rw_0 hV hrw) d_Rw_save_43 h (fun h => ?_)
      refine g_letS h (fun S43 h => ?_)
      refine g_aload_n (pc := 44) hC (i := 0) (x := (V.2.2.1 rw 0)) rfl rfl d_Rw_save_44 ?_
      refine g_getA (pc := 45) hC fo_Rw_17 (ob_Rw hV hrw) rfl d_Rw_save_45 ?_
      refine g_iload_n (pc := 48) hC (i := 3) (x := y4) rfl rfl d_Rw_save_48 ?_
      refine g_iconst (pc := 49) hC kc_2 d_Rw_save_49 ?_
      refine g_iadd (pc := 50) hC d_Rw_save_50 ?_
      refine g_aload_n (pc := 51) hC (i := 2) (x := (V.2.2.1 st 0)) rfl rfl d_Rw_save_51 ?_
      refine g_getI (pc := 52) hC fo_Rw_30 (ob_St hV hst) rfl d_Rw_save_52 ?_
      refine g_iast (pc := 55) hC (ar_Rw_0 hV hrw) d_Rw_save_55 h (fun h => ?_)
      refine g_letS h (fun S55 h => ?_)
      refine g_aload_n (pc := 56) hC (i := 0) (x := (V.2.2.1 rw 0)) rfl rfl d_Rw_save_56 ?_
      refine g_getA (pc := 57) hC fo_Rw_17 (ob_Rw hV hrw) rfl d_Rw_save_57 ?_
      refine g_iload_n (pc := 60) hC (i := 3) (x := y4) rfl rfl d_Rw_save_60 ?_
      refine g_iconst (pc := 61) hC kc_3 d_Rw_save_61 ?_
      refine g_iadd (pc := 62) hC d_Rw_save_62 ?_
      refine g_aload_n (pc := 63) hC (i := 2) (x := (V.2.2.1 st 0)) rfl rfl d_Rw_save_63 ?_
      refine g_getI (pc := 64) hC fo_Rw_33 (ob_St hV hst) rfl d_Rw_save_64 ?_
      refine g_iast (pc := 67) hC (ar_Rw_0 hV hrw) d_Rw_save_67 h (fun h => ?_)
      refine g_letS h (fun S67 h => ?_)
      refine s_iinc (pc := 68) hC (i := 3) (x := y4) (v := y4 + 4) rfl (by rw [kc_4]) (by decide) d_Rw_save_68 (lv2 := [some (.ref (V.2.2.1 rw 0)), some (.int x1), some (.ref (V.2.2.1 st 0)), some (.int (y4 + 4))]) rfl ?_
      refine g_aload_n (pc := 71) hC (i := 2) (x := (V.2.2.1 st 0)) rfl rfl d_Rw_save_71 ?_
      refine g_getA (pc := 72) hC fo_Rw_36 (ob_St hV hst) rfl d_Rw_save_72 ?_
      refine g_iconst (pc := 75) hC kc_0 d_Rw_save_75 ?_
      refine g_aload_n (pc := 76) hC (i := 0) (x := (V.2.2.1 rw 0)) rfl rfl d_Rw_save_76 ?_
      refine g_getA (pc := 77) hC fo_Rw_17 (ob_Rw hV hrw) rfl d_Rw_save_77 ?_
      refine g_iload_n (pc := 80) hC (i := 3) (x := (y4 + 4)) rfl rfl d_Rw_save_80 ?_
      refine g_iconst (pc := 81) hC kc_4 d_Rw_save_81 ?_
      refine g_copy (pc := 82) hC lk_Rw_39 (ar_St_4 hV hst) (ar_Rw_0 hV hrw) (Nat.le_of_ble_eq_true rfl) ⟨Nat.le_of_ble_eq_true rfl, Nat.le_of_ble_eq_true rfl⟩ d_Rw_save_82 h (fun h => ?_)
      refine g_letS h (fun S82 h => ?_)
      refine s_iinc (pc := 85) hC (i := 3) (x := (y4 + 4)) (v := (y4 + 4) + 4) rfl (by rw [kc_4]) (by decide) d_Rw_save_85 (lv2 := [some (.ref (V.2.2.1 rw 0)), some (.int x1), some (.ref (V.2.2.1 st 0)), some (.int ((y4 + 4) + 4))]) rfl ?_
      refine g_aload_n (pc := 88) hC (i := 2) (x := (V.2.2.1 st 0)) rfl rfl d_Rw_save_88 ?_
      refine g_getA (pc := 89) hC fo_Rw_45 (ob_St hV hst) rfl d_Rw_save_89 ?_
      refine g_iconst (pc := 92) hC kc_0 d_Rw_save_92 ?_
      refine g_aload_n (pc := 93) hC (i := 0) (x := (V.2.2.1 rw 0)) rfl rfl d_Rw_save_93 ?_
      refine g_getA (pc := 94) hC fo_Rw_17 (ob_Rw hV hrw) rfl d_Rw_save_94 ?_
      refine g_iload_n (pc := 97) hC (i := 3) (x := ((y4 + 4) + 4)) rfl rfl d_Rw_save_97 ?_
      refine g_bipush (pc := 98) hC kb_7 d_Rw_save_98 ?_
      refine g_copy (pc := 100) hC lk_Rw_39 (ar_St_5 hV hst) (ar_Rw_0 hV hrw) (Nat.le_of_ble_eq_true rfl) ⟨Nat.le_of_ble_eq_true rfl, Nat.le_of_ble_eq_true rfl⟩ d_Rw_save_100 h (fun h => ?_)
      refine g_letS h (fun S100 h => ?_)
      refine s_iinc (pc := 103) hC (i := 3) (x := ((y4 + 4) + 4)) (v := ((y4 + 4) + 4) + 7) rfl (by rw [kc_7]) (by decide) d_Rw_save_103 (lv2 := [some (.ref (V.2.2.1 rw 0)), some (.int x1), some (.ref (V.2.2.1 st 0)), some (.int (((y4 + 4) + 4) + 7))]) rfl ?_
      refine g_aload_n (pc := 106) hC (i := 2) (x := (V.2.2.1 st 0)) rfl rfl d_Rw_save_106 ?_
      refine g_getA (pc := 107) hC fo_Rw_48 (ob_St hV hst) rfl d_Rw_save_107 ?_
      refine g_iconst (pc := 110) hC kc_0 d_Rw_save_110 ?_
      refine g_aload_n (pc := 111) hC (i := 0) (x := (V.2.2.1 rw 0)) rfl rfl d_Rw_save_111 ?_
      refine g_getA (pc := 112) hC fo_Rw_17 (ob_Rw hV hrw) rfl d_Rw_save_112 ?_
      refine g_iload_n (pc := 115) hC (i := 3) (x := (((y4 + 4) + 4) + 7)) rfl rfl d_Rw_save_115 ?_
      refine g_bipush (pc := 116) hC kb_7 d_Rw_save_116 ?_
      refine g_copy (pc := 118) hC lk_Rw_39 (ar_St_6 hV hst) (ar_Rw_0 hV hrw) (Nat.le_of_ble_eq_true rfl) ⟨Nat.le_of_ble_eq_true rfl, Nat.le_of_ble_eq_true rfl⟩ d_Rw_save_118 h (fun h => ?_)
      refine g_letS h (fun S118 h => ?_)
      refine s_iinc (pc := 121) hC (i := 3) (x := (((y4 + 4) + 4) + 7)) (v := (((y4 + 4) + 4) + 7) + 7) rfl (by rw [kc_7]) (by decide) d_Rw_save_121 (lv2 := [some (.ref (V.2.2.1 rw 0)), some (.int x1), some (.ref (V.2.2.1 st 0)), some (.int ((((y4 + 4) + 4) + 7) + 7))]) rfl ?_
      refine g_aload_n (pc := 124) hC (i := 2) (x := (V.2.2.1 st 0)) rfl rfl d_Rw_save_124 ?_
      refine g_getA (pc := 125) hC fo_Rw_51 (ob_St hV hst) rfl d_Rw_save_125 ?_
      refine g_iconst (pc := 128) hC kc_0 d_Rw_save_128 ?_
      refine g_aload_n (pc := 129) hC (i := 0) (x := (V.2.2.1 rw 0)) rfl rfl d_Rw_save_129 ?_
      refine g_getA (pc := 130) hC fo_Rw_17 (ob_Rw hV hrw) rfl d_Rw_save_130 ?_
      refine g_iload_n (pc := 133) hC (i := 3) (x := ((((y4 + 4) + 4) + 7) + 7)) rfl rfl d_Rw_save_133 ?_
      refine g_bipush (pc := 134) hC kb_7 d_Rw_save_134 ?_
      refine g_copy (pc := 136) hC lk_Rw_39 (ar_St_7 hV hst) (ar_Rw_0 hV hrw) (Nat.le_of_ble_eq_true rfl) ⟨Nat.le_of_ble_eq_true rfl, Nat.le_of_ble_eq_true rfl⟩ d_Rw_save_136 h (fun h => ?_)
      refine g_letS h (fun S136 h => ?_)
      refine s_iinc (pc := 139) hC (i := 3) (x := ((((y4 + 4) + 4) + 7) + 7)) (v := ((((y4 + 4) + 4) + 7) + 7) + 7) rfl (by rw [kc_7]) (by decide) d_Rw_save_139 (lv2 := [some (.ref (V.2.2.1 rw 0)), some (.int x1), some (.ref (V.2.2.1 st 0)), some (.int (((((y4 + 4) + 4) + 7) + 7) + 7))]) rfl ?_
      refine g_aload_n (pc := 142) hC (i := 2) (x := (V.2.2.1 st 0)) rfl rfl d_Rw_save_142 ?_
      refine g_getA (pc := 143) hC fo_Rw_54 (ob_St hV hst) rfl d_Rw_save_143 ?_
      refine g_iconst (pc := 146) hC kc_0 d_Rw_save_146 ?_
      refine g_aload_n (pc := 147) hC (i := 0) (x := (V.2.2.1 rw 0)) rfl rfl d_Rw_save_147 ?_
      refine g_getA (pc := 148) hC fo_Rw_17 (ob_Rw hV hrw) rfl d_Rw_save_148 ?_
      refine g_iload_n (pc := 151) hC (i := 3) (x := (((((y4 + 4) + 4) + 7) + 7) + 7)) rfl rfl d_Rw_save_151 ?_
      refine g_bipush (pc := 152) hC kb_8 d_Rw_save_152 ?_
      refine g_copy (pc := 154) hC lk_Rw_39 (ar_St_8 hV hst) (ar_Rw_0 hV hrw) (Nat.le_of_ble_eq_true rfl) ⟨Nat.le_of_ble_eq_true rfl, Nat.le_of_ble_eq_true rfl⟩ d_Rw_save_154 h (fun h => ?_)
      refine g_letS h (fun S154 h => ?_)
      exact g_vW (pc := 157) hC d_Rw_save_157 h
    · exact g_vW (pc := 21) hC d_Rw_save_21 h
theorem c_Rw_save {V : WV} {l : Launch} (hV : IsC V) {rw : Nat} {st : Nat} (hrw : isRw rw) (hst : isSt st) {x1 : Int32} {S : Mem} {z : Mem} (h : f_Rw_save rw st x1 S = some z) : CV V l y_Rw_save bc_Rw_save 4 none 1 26 [.ref (V.2.2.1 rw 0), .int x1, .ref (V.2.2.1 st 0)] S z :=
  ct_v rfl (IsC.ok hV) (Nat.le_of_ble_eq_true rfl) (fun _ _ hC => w_Rw_save_b0 hV hrw hst hC x1 S h)
def f_Rw_load_b0 (rw : Nat) (st : Nat) (x1 : Int32) (S : Mem) : Option (Mem) :=
  letS (x1 * 37) (fun y4 =>
  if x1 < 0 then
    some S
  else
    if (y4 + 37) ≤ (Int32.ofNat (rwLen rw)) then
      gIn y4 (rwLen rw) (
      letS (pI S st 0 (S.2.1 rw 0 y4.toNatClampNeg)) (fun S29 =>
      gIn (y4 + 1) (rwLen rw) (
      letS (pI S29 st 1 (S29.2.1 rw 0 (y4 + 1).toNatClampNeg)) (fun S41 =>
      gIn (y4 + 2) (rwLen rw) (
      letS (pI S41 st 2 (S41.2.1 rw 0 (y4 + 2).toNatClampNeg)) (fun S53 =>
      gIn (y4 + 3) (rwLen rw) (
      letS (pI S53 st 3 (S53.2.1 rw 0 (y4 + 3).toNatClampNeg)) (fun S65 =>
      gCp (y4 + 4) 0 4 (rwLen rw) 4 (letS (sCp S65 rw 0 st 4 (y4 + 4) 0 4) (fun S82 =>
      gCp ((y4 + 4) + 4) 0 7 (rwLen rw) 7 (letS (sCp S82 rw 0 st 5 ((y4 + 4) + 4) 0 7) (fun S100 =>
      gCp (((y4 + 4) + 4) + 7) 0 7 (rwLen rw) 7 (letS (sCp S100 rw 0 st 6 (((y4 + 4) + 4) + 7) 0 7) (fun S118 =>
      gCp ((((y4 + 4) + 4) + 7) + 7) 0 7 (rwLen rw) 7 (letS (sCp S118 rw 0 st 7 ((((y4 + 4) + 4) + 7) + 7) 0 7) (fun S136 =>
      gCp (((((y4 + 4) + 4) + 7) + 7) + 7) 0 8 (rwLen rw) 8 (letS (sCp S136 rw 0 st 8 (((((y4 + 4) + 4) + 7) + 7) + 7) 0 8) (fun S154 =>
      some S154))))))))))))))))))
    else
      some S)
def f_Rw_load (rw : Nat) (st : Nat) (x1 : Int32) (S : Mem) : Option (Mem) := f_Rw_load_b0 rw st x1 S
theorem d_Rw_load_0 : decode bc_Rw_load 0 = .ok (.iload_n 1, 1) := by decide +kernel
theorem d_Rw_load_1 : decode bc_Rw_load 1 = .ok (.bipush 37, 2) := by decide +kernel
theorem d_Rw_load_3 : decode bc_Rw_load 3 = .ok (.imul, 1) := by decide +kernel
theorem d_Rw_load_4 : decode bc_Rw_load 4 = .ok (.istore_n 3, 1) := by decide +kernel
theorem d_Rw_load_5 : decode bc_Rw_load 5 = .ok (.iload_n 1, 1) := by decide +kernel
theorem d_Rw_load_6 : decode bc_Rw_load 6 = .ok (.ifCond .lt 15, 3) := by decide +kernel
theorem d_Rw_load_9 : decode bc_Rw_load 9 = .ok (.iload_n 3, 1) := by decide +kernel
theorem d_Rw_load_10 : decode bc_Rw_load 10 = .ok (.bipush 37, 2) := by decide +kernel
theorem d_Rw_load_12 : decode bc_Rw_load 12 = .ok (.iadd, 1) := by decide +kernel
theorem d_Rw_load_13 : decode bc_Rw_load 13 = .ok (.aload_n 0, 1) := by decide +kernel
theorem d_Rw_load_14 : decode bc_Rw_load 14 = .ok (.getfield 17, 3) := by decide +kernel
theorem d_Rw_load_17 : decode bc_Rw_load 17 = .ok (.arraylength, 1) := by decide +kernel
theorem d_Rw_load_18 : decode bc_Rw_load 18 = .ok (.if_icmp .le 4, 3) := by decide +kernel
theorem d_Rw_load_21 : decode bc_Rw_load 21 = .ok (.return_, 1) := by decide +kernel
theorem d_Rw_load_22 : decode bc_Rw_load 22 = .ok (.aload_n 2, 1) := by decide +kernel
theorem d_Rw_load_23 : decode bc_Rw_load 23 = .ok (.aload_n 0, 1) := by decide +kernel
theorem d_Rw_load_24 : decode bc_Rw_load 24 = .ok (.getfield 17, 3) := by decide +kernel
theorem d_Rw_load_27 : decode bc_Rw_load 27 = .ok (.iload_n 3, 1) := by decide +kernel
theorem d_Rw_load_28 : decode bc_Rw_load 28 = .ok (.iaload, 1) := by decide +kernel
theorem d_Rw_load_29 : decode bc_Rw_load 29 = .ok (.putfield 23, 3) := by decide +kernel
theorem d_Rw_load_32 : decode bc_Rw_load 32 = .ok (.aload_n 2, 1) := by decide +kernel
theorem d_Rw_load_33 : decode bc_Rw_load 33 = .ok (.aload_n 0, 1) := by decide +kernel
theorem d_Rw_load_34 : decode bc_Rw_load 34 = .ok (.getfield 17, 3) := by decide +kernel
theorem d_Rw_load_37 : decode bc_Rw_load 37 = .ok (.iload_n 3, 1) := by decide +kernel
theorem d_Rw_load_38 : decode bc_Rw_load 38 = .ok (.iconst 1, 1) := by decide +kernel
theorem d_Rw_load_39 : decode bc_Rw_load 39 = .ok (.iadd, 1) := by decide +kernel
theorem d_Rw_load_40 : decode bc_Rw_load 40 = .ok (.iaload, 1) := by decide +kernel
theorem d_Rw_load_41 : decode bc_Rw_load 41 = .ok (.putfield 27, 3) := by decide +kernel
theorem d_Rw_load_44 : decode bc_Rw_load 44 = .ok (.aload_n 2, 1) := by decide +kernel
theorem d_Rw_load_45 : decode bc_Rw_load 45 = .ok (.aload_n 0, 1) := by decide +kernel
theorem d_Rw_load_46 : decode bc_Rw_load 46 = .ok (.getfield 17, 3) := by decide +kernel
theorem d_Rw_load_49 : decode bc_Rw_load 49 = .ok (.iload_n 3, 1) := by decide +kernel
theorem d_Rw_load_50 : decode bc_Rw_load 50 = .ok (.iconst 2, 1) := by decide +kernel
theorem d_Rw_load_51 : decode bc_Rw_load 51 = .ok (.iadd, 1) := by decide +kernel
theorem d_Rw_load_52 : decode bc_Rw_load 52 = .ok (.iaload, 1) := by decide +kernel
theorem d_Rw_load_53 : decode bc_Rw_load 53 = .ok (.putfield 30, 3) := by decide +kernel
theorem d_Rw_load_56 : decode bc_Rw_load 56 = .ok (.aload_n 2, 1) := by decide +kernel
theorem d_Rw_load_57 : decode bc_Rw_load 57 = .ok (.aload_n 0, 1) := by decide +kernel
theorem d_Rw_load_58 : decode bc_Rw_load 58 = .ok (.getfield 17, 3) := by decide +kernel
theorem d_Rw_load_61 : decode bc_Rw_load 61 = .ok (.iload_n 3, 1) := by decide +kernel
theorem d_Rw_load_62 : decode bc_Rw_load 62 = .ok (.iconst 3, 1) := by decide +kernel
theorem d_Rw_load_63 : decode bc_Rw_load 63 = .ok (.iadd, 1) := by decide +kernel
theorem d_Rw_load_64 : decode bc_Rw_load 64 = .ok (.iaload, 1) := by decide +kernel
theorem d_Rw_load_65 : decode bc_Rw_load 65 = .ok (.putfield 33, 3) := by decide +kernel
theorem d_Rw_load_68 : decode bc_Rw_load 68 = .ok (.iinc 3 4, 3) := by decide +kernel
theorem d_Rw_load_71 : decode bc_Rw_load 71 = .ok (.aload_n 0, 1) := by decide +kernel
theorem d_Rw_load_72 : decode bc_Rw_load 72 = .ok (.getfield 17, 3) := by decide +kernel
theorem d_Rw_load_75 : decode bc_Rw_load 75 = .ok (.iload_n 3, 1) := by decide +kernel
theorem d_Rw_load_76 : decode bc_Rw_load 76 = .ok (.aload_n 2, 1) := by decide +kernel
theorem d_Rw_load_77 : decode bc_Rw_load 77 = .ok (.getfield 36, 3) := by decide +kernel
theorem d_Rw_load_80 : decode bc_Rw_load 80 = .ok (.iconst 0, 1) := by decide +kernel
theorem d_Rw_load_81 : decode bc_Rw_load 81 = .ok (.iconst 4, 1) := by decide +kernel
theorem d_Rw_load_82 : decode bc_Rw_load 82 = .ok (.invokestatic 39, 3) := by decide +kernel
theorem d_Rw_load_85 : decode bc_Rw_load 85 = .ok (.iinc 3 4, 3) := by decide +kernel
theorem d_Rw_load_88 : decode bc_Rw_load 88 = .ok (.aload_n 0, 1) := by decide +kernel
theorem d_Rw_load_89 : decode bc_Rw_load 89 = .ok (.getfield 17, 3) := by decide +kernel
theorem d_Rw_load_92 : decode bc_Rw_load 92 = .ok (.iload_n 3, 1) := by decide +kernel
theorem d_Rw_load_93 : decode bc_Rw_load 93 = .ok (.aload_n 2, 1) := by decide +kernel
theorem d_Rw_load_94 : decode bc_Rw_load 94 = .ok (.getfield 45, 3) := by decide +kernel
theorem d_Rw_load_97 : decode bc_Rw_load 97 = .ok (.iconst 0, 1) := by decide +kernel
theorem d_Rw_load_98 : decode bc_Rw_load 98 = .ok (.bipush 7, 2) := by decide +kernel
theorem d_Rw_load_100 : decode bc_Rw_load 100 = .ok (.invokestatic 39, 3) := by decide +kernel
theorem d_Rw_load_103 : decode bc_Rw_load 103 = .ok (.iinc 3 7, 3) := by decide +kernel
theorem d_Rw_load_106 : decode bc_Rw_load 106 = .ok (.aload_n 0, 1) := by decide +kernel
theorem d_Rw_load_107 : decode bc_Rw_load 107 = .ok (.getfield 17, 3) := by decide +kernel
theorem d_Rw_load_110 : decode bc_Rw_load 110 = .ok (.iload_n 3, 1) := by decide +kernel
theorem d_Rw_load_111 : decode bc_Rw_load 111 = .ok (.aload_n 2, 1) := by decide +kernel
theorem d_Rw_load_112 : decode bc_Rw_load 112 = .ok (.getfield 48, 3) := by decide +kernel
theorem d_Rw_load_115 : decode bc_Rw_load 115 = .ok (.iconst 0, 1) := by decide +kernel
theorem d_Rw_load_116 : decode bc_Rw_load 116 = .ok (.bipush 7, 2) := by decide +kernel
theorem d_Rw_load_118 : decode bc_Rw_load 118 = .ok (.invokestatic 39, 3) := by decide +kernel
theorem d_Rw_load_121 : decode bc_Rw_load 121 = .ok (.iinc 3 7, 3) := by decide +kernel
theorem d_Rw_load_124 : decode bc_Rw_load 124 = .ok (.aload_n 0, 1) := by decide +kernel
theorem d_Rw_load_125 : decode bc_Rw_load 125 = .ok (.getfield 17, 3) := by decide +kernel
theorem d_Rw_load_128 : decode bc_Rw_load 128 = .ok (.iload_n 3, 1) := by decide +kernel
theorem d_Rw_load_129 : decode bc_Rw_load 129 = .ok (.aload_n 2, 1) := by decide +kernel
theorem d_Rw_load_130 : decode bc_Rw_load 130 = .ok (.getfield 51, 3) := by decide +kernel
theorem d_Rw_load_133 : decode bc_Rw_load 133 = .ok (.iconst 0, 1) := by decide +kernel
theorem d_Rw_load_134 : decode bc_Rw_load 134 = .ok (.bipush 7, 2) := by decide +kernel
theorem d_Rw_load_136 : decode bc_Rw_load 136 = .ok (.invokestatic 39, 3) := by decide +kernel
theorem d_Rw_load_139 : decode bc_Rw_load 139 = .ok (.iinc 3 7, 3) := by decide +kernel
theorem d_Rw_load_142 : decode bc_Rw_load 142 = .ok (.aload_n 0, 1) := by decide +kernel
theorem d_Rw_load_143 : decode bc_Rw_load 143 = .ok (.getfield 17, 3) := by decide +kernel
theorem d_Rw_load_146 : decode bc_Rw_load 146 = .ok (.iload_n 3, 1) := by decide +kernel
theorem d_Rw_load_147 : decode bc_Rw_load 147 = .ok (.aload_n 2, 1) := by decide +kernel
theorem d_Rw_load_148 : decode bc_Rw_load 148 = .ok (.getfield 54, 3) := by decide +kernel
theorem d_Rw_load_151 : decode bc_Rw_load 151 = .ok (.iconst 0, 1) := by decide +kernel
theorem d_Rw_load_152 : decode bc_Rw_load 152 = .ok (.bipush 8, 2) := by decide +kernel
theorem d_Rw_load_154 : decode bc_Rw_load 154 = .ok (.invokestatic 39, 3) := by decide +kernel
theorem d_Rw_load_157 : decode bc_Rw_load 157 = .ok (.return_, 1) := by decide +kernel
set_option maxRecDepth 20000 in
theorem w_Rw_load_b0 {X : CX} {V : WV} {rw : Nat} {st : Nat} (hV : IsC V) (hrw : isRw rw) (hst : isSt st) {z : Mem} (hC : Ck X V bc_Rw_load 4 "SecretWells$Rows" none 1 26) (x1 : Int32) (S : Mem) (h : f_Rw_load_b0 rw st x1 S = some z) : G X V 4 (QV X V z) 0 [some (.ref (V.2.2.1 rw 0)), some (.int x1), some (.ref (V.2.2.1 st 0)), none] [] S := by
  unfold f_Rw_load_b0 at h
  refine g_iload_n (pc := 0) hC (i := 1) (x := x1) rfl rfl d_Rw_load_0 ?_
  refine g_bipush (pc := 1) hC kb_37 d_Rw_load_1 ?_
  refine g_imul (pc := 3) hC d_Rw_load_3 ?_
  refine g_leti h (fun y4 h => ?_)
  refine s_istore_n (pc := 4) hC (i := 3) rfl (by decide) d_Rw_load_4 (lv2 := [some (.ref (V.2.2.1 rw 0)), some (.int x1), some (.ref (V.2.2.1 st 0)), some (.int y4)]) rfl ?_
  refine g_iload_n (pc := 5) hC (i := 1) (x := x1) rfl rfl d_Rw_load_5 ?_
  refine g_if_lt (pc := 6) hC (tgt := 21) (by decide) d_Rw_load_6 h (fun h => ?_) (fun h => ?_)
  · exact g_vW (pc := 21) hC d_Rw_load_21 h
  · refine g_iload_n (pc := 9) hC (i := 3) (x := y4) rfl rfl d_Rw_load_9 ?_
    refine g_bipush (pc := 10) hC kb_37 d_Rw_load_10 ?_
    refine g_iadd (pc := 12) hC d_Rw_load_12 ?_
    refine g_aload_n (pc := 13) hC (i := 0) (x := (V.2.2.1 rw 0)) rfl rfl d_Rw_load_13 ?_
    refine g_getA (pc := 14) hC fo_Rw_17 (ob_Rw hV hrw) rfl d_Rw_load_14 ?_
    refine g_alen (pc := 17) hC (by decide) (ar_Rw_0 hV hrw) rfl d_Rw_load_17 ?_
    refine g_icmp_le (pc := 18) hC (tgt := 22) (by decide) d_Rw_load_18 h (fun h => ?_) (fun h => ?_)
    · refine g_aload_n (pc := 22) hC (i := 2) (x := (V.2.2.1 st 0)) rfl rfl d_Rw_load_22 ?_
      refine g_aload_n (pc := 23) hC (i := 0) (x := (V.2.2.1 rw 0)) rfl rfl d_Rw_load_23 ?_
      refine g_getA (pc := 24) hC fo_Rw_17 (ob_Rw hV hrw) rfl d_Rw_load_24 ?_
      refine g_iload_n (pc := 27) hC (i := 3) (x := y4) rfl rfl d_Rw_load_27 ?_
      refine g_iald (pc := 28) hC (ar_Rw_0 hV hrw) d_Rw_load_28 h (fun h => ?_)
      refine g_putI (pc := 29) hC po_Rw_23 (ob_St hV hst) rfl rfl rfl d_Rw_load_29 ?_
      refine g_letS h (fun S29 h => ?_)
      refine g_aload_n (pc := 32) hC (i := 2) (x := (V.2.2.1 st 0)) rfl rfl d_Rw_load_32 ?_
      refine g_aload_n (pc := 33) hC (i := 0) (x := (V.2.2.1 rw 0)) rfl rfl d_Rw_load_33 ?_
      refine g_getA (pc := 34) hC fo_Rw_17 (ob_Rw hV hrw) rfl d_Rw_load_34 ?_
      refine g_iload_n (pc := 37) hC (i := 3) (x := y4) rfl rfl d_Rw_load_37 ?_
      refine g_iconst (pc := 38) hC kc_1 d_Rw_load_38 ?_
      refine g_iadd (pc := 39) hC d_Rw_load_39 ?_
      refine g_iald (pc := 40) hC (ar_Rw_0 hV hrw) d_Rw_load_40 h (fun h => ?_)
      refine g_putI (pc := 41) hC po_Rw_27 (ob_St hV hst) rfl rfl rfl d_Rw_load_41 ?_
      refine g_letS h (fun S41 h => ?_)
      refine g_aload_n (pc := 44) hC (i := 2) (x := (V.2.2.1 st 0)) rfl rfl d_Rw_load_44 ?_
      refine g_aload_n (pc := 45) hC (i := 0) (x := (V.2.2.1 rw 0)) rfl rfl d_Rw_load_45 ?_
      refine g_getA (pc := 46) hC fo_Rw_17 (ob_Rw hV hrw) rfl d_Rw_load_46 ?_
      refine g_iload_n (pc := 49) hC (i := 3) (x := y4) rfl rfl d_Rw_load_49 ?_
      refine g_iconst (pc := 50) hC kc_2 d_Rw_load_50 ?_
      refine g_iadd (pc := 51) hC d_Rw_load_51 ?_
      refine g_iald (pc := 52) hC (ar_Rw_0 hV hrw) d_Rw_load_52 h (fun h => ?_)
      refine g_putI (pc := 53) hC po_Rw_30 (ob_St hV hst) rfl rfl rfl d_Rw_load_53 ?_
      refine g_letS h (fun S53 h => ?_)
      refine g_aload_n (pc := 56) hC (i := 2) (x := (V.2.2.1 st 0)) rfl rfl d_Rw_load_56 ?_
      refine g_aload_n (pc := 57) hC (i := 0) (x := (V.2.2.1 rw 0)) rfl rfl d_Rw_load_57 ?_
      refine g_getA (pc := 58) hC fo_Rw_17 (ob_Rw hV hrw) rfl d_Rw_load_58 ?_
      refine g_iload_n (pc := 61) hC (i := 3) (x := y4) rfl rfl d_Rw_load_61 ?_
      refine g_iconst (pc := 62) hC kc_3 d_Rw_load_62 ?_
      refine g_iadd (pc := 63) hC d_Rw_load_63 ?_
      refine g_iald (pc := 64) hC (ar_Rw_0 hV hrw) d_Rw_load_64 h (fun h => ?_)
      refine g_putI (pc := 65) hC po_Rw_33 (ob_St hV hst) rfl rfl rfl d_Rw_load_65 ?_
      refine g_letS h (fun S65 h => ?_)
      refine s_iinc (pc := 68) hC (i := 3) (x := y4) (v := y4 + 4) rfl (by rw [kc_4]) (by decide) d_Rw_load_68 (lv2 := [some (.ref (V.2.2.1 rw 0)), some (.int x1), some (.ref (V.2.2.1 st 0)), some (.int (y4 + 4))]) rfl ?_
      refine g_aload_n (pc := 71) hC (i := 0) (x := (V.2.2.1 rw 0)) rfl rfl d_Rw_load_71 ?_
      refine g_getA (pc := 72) hC fo_Rw_17 (ob_Rw hV hrw) rfl d_Rw_load_72 ?_
      refine g_iload_n (pc := 75) hC (i := 3) (x := (y4 + 4)) rfl rfl d_Rw_load_75 ?_
      refine g_aload_n (pc := 76) hC (i := 2) (x := (V.2.2.1 st 0)) rfl rfl d_Rw_load_76 ?_
      refine g_getA (pc := 77) hC fo_Rw_36 (ob_St hV hst) rfl d_Rw_load_77 ?_
      refine g_iconst (pc := 80) hC kc_0 d_Rw_load_80 ?_
      refine g_iconst (pc := 81) hC kc_4 d_Rw_load_81 ?_
      refine g_copy (pc := 82) hC lk_Rw_39 (ar_Rw_0 hV hrw) (ar_St_4 hV hst) (Nat.le_of_ble_eq_true rfl) ⟨Nat.le_of_ble_eq_true rfl, Nat.le_of_ble_eq_true rfl⟩ d_Rw_load_82 h (fun h => ?_)
      refine g_letS h (fun S82 h => ?_)
      refine s_iinc (pc := 85) hC (i := 3) (x := (y4 + 4)) (v := (y4 + 4) + 4) rfl (by rw [kc_4]) (by decide) d_Rw_load_85 (lv2 := [some (.ref (V.2.2.1 rw 0)), some (.int x1), some (.ref (V.2.2.1 st 0)), some (.int ((y4 + 4) + 4))]) rfl ?_
      refine g_aload_n (pc := 88) hC (i := 0) (x := (V.2.2.1 rw 0)) rfl rfl d_Rw_load_88 ?_
      refine g_getA (pc := 89) hC fo_Rw_17 (ob_Rw hV hrw) rfl d_Rw_load_89 ?_
      refine g_iload_n (pc := 92) hC (i := 3) (x := ((y4 + 4) + 4)) rfl rfl d_Rw_load_92 ?_
      refine g_aload_n (pc := 93) hC (i := 2) (x := (V.2.2.1 st 0)) rfl rfl d_Rw_load_93 ?_
      refine g_getA (pc := 94) hC fo_Rw_45 (ob_St hV hst) rfl d_Rw_load_94 ?_
      refine g_iconst (pc := 97) hC kc_0 d_Rw_load_97 ?_
      refine g_bipush (pc := 98) hC kb_7 d_Rw_load_98 ?_
      refine g_copy (pc := 100) hC lk_Rw_39 (ar_Rw_0 hV hrw) (ar_St_5 hV hst) (Nat.le_of_ble_eq_true rfl) ⟨Nat.le_of_ble_eq_true rfl, Nat.le_of_ble_eq_true rfl⟩ d_Rw_load_100 h (fun h => ?_)
      refine g_letS h (fun S100 h => ?_)
      refine s_iinc (pc := 103) hC (i := 3) (x := ((y4 + 4) + 4)) (v := ((y4 + 4) + 4) + 7) rfl (by rw [kc_7]) (by decide) d_Rw_load_103 (lv2 := [some (.ref (V.2.2.1 rw 0)), some (.int x1), some (.ref (V.2.2.1 st 0)), some (.int (((y4 + 4) + 4) + 7))]) rfl ?_
      refine g_aload_n (pc := 106) hC (i := 0) (x := (V.2.2.1 rw 0)) rfl rfl d_Rw_load_106 ?_
      refine g_getA (pc := 107) hC fo_Rw_17 (ob_Rw hV hrw) rfl d_Rw_load_107 ?_
      refine g_iload_n (pc := 110) hC (i := 3) (x := (((y4 + 4) + 4) + 7)) rfl rfl d_Rw_load_110 ?_
      refine g_aload_n (pc := 111) hC (i := 2) (x := (V.2.2.1 st 0)) rfl rfl d_Rw_load_111 ?_
      refine g_getA (pc := 112) hC fo_Rw_48 (ob_St hV hst) rfl d_Rw_load_112 ?_
      refine g_iconst (pc := 115) hC kc_0 d_Rw_load_115 ?_
      refine g_bipush (pc := 116) hC kb_7 d_Rw_load_116 ?_
      refine g_copy (pc := 118) hC lk_Rw_39 (ar_Rw_0 hV hrw) (ar_St_6 hV hst) (Nat.le_of_ble_eq_true rfl) ⟨Nat.le_of_ble_eq_true rfl, Nat.le_of_ble_eq_true rfl⟩ d_Rw_load_118 h (fun h => ?_)
      refine g_letS h (fun S118 h => ?_)
      refine s_iinc (pc := 121) hC (i := 3) (x := (((y4 + 4) + 4) + 7)) (v := (((y4 + 4) + 4) + 7) + 7) rfl (by rw [kc_7]) (by decide) d_Rw_load_121 (lv2 := [some (.ref (V.2.2.1 rw 0)), some (.int x1), some (.ref (V.2.2.1 st 0)), some (.int ((((y4 + 4) + 4) + 7) + 7))]) rfl ?_
      refine g_aload_n (pc := 124) hC (i := 0) (x := (V.2.2.1 rw 0)) rfl rfl d_Rw_load_124 ?_
      refine g_getA (pc := 125) hC fo_Rw_17 (ob_Rw hV hrw) rfl d_Rw_load_125 ?_
      refine g_iload_n (pc := 128) hC (i := 3) (x := ((((y4 + 4) + 4) + 7) + 7)) rfl rfl d_Rw_load_128 ?_
      refine g_aload_n (pc := 129) hC (i := 2) (x := (V.2.2.1 st 0)) rfl rfl d_Rw_load_129 ?_
      refine g_getA (pc := 130) hC fo_Rw_51 (ob_St hV hst) rfl d_Rw_load_130 ?_
      refine g_iconst (pc := 133) hC kc_0 d_Rw_load_133 ?_
      refine g_bipush (pc := 134) hC kb_7 d_Rw_load_134 ?_
      refine g_copy (pc := 136) hC lk_Rw_39 (ar_Rw_0 hV hrw) (ar_St_7 hV hst) (Nat.le_of_ble_eq_true rfl) ⟨Nat.le_of_ble_eq_true rfl, Nat.le_of_ble_eq_true rfl⟩ d_Rw_load_136 h (fun h => ?_)
      refine g_letS h (fun S136 h => ?_)
      refine s_iinc (pc := 139) hC (i := 3) (x := ((((y4 + 4) + 4) + 7) + 7)) (v := ((((y4 + 4) + 4) + 7) + 7) + 7) rfl (by rw [kc_7]) (by decide) d_Rw_load_139 (lv2 := [some (.ref (V.2.2.1 rw 0)), some (.int x1), some (.ref (V.2.2.1 st 0)), some (.int (((((y4 + 4) + 4) + 7) + 7) + 7))]) rfl ?_
      refine g_aload_n (pc := 142) hC (i := 0) (x := (V.2.2.1 rw 0)) rfl rfl d_Rw_load_142 ?_
      refine g_getA (pc := 143) hC fo_Rw_17 (ob_Rw hV hrw) rfl d_Rw_load_143 ?_
      refine g_iload_n (pc := 146) hC (i := 3) (x := (((((y4 + 4) + 4) + 7) + 7) + 7)) rfl rfl d_Rw_load_146 ?_
      refine g_aload_n (pc := 147) hC (i := 2) (x := (V.2.2.1 st 0)) rfl rfl d_Rw_load_147 ?_
      refine g_getA (pc := 148) hC fo_Rw_54 (ob_St hV hst) rfl d_Rw_load_148 ?_
      refine g_iconst (pc := 151) hC kc_0 d_Rw_load_151 ?_
      refine g_bipush (pc := 152) hC kb_8 d_Rw_load_152 ?_
      refine g_copy (pc := 154) hC lk_Rw_39 (ar_Rw_0 hV hrw) (ar_St_8 hV hst) (Nat.le_of_ble_eq_true rfl) ⟨Nat.le_of_ble_eq_true rfl, Nat.le_of_ble_eq_true rfl⟩ d_Rw_load_154 h (fun h => ?_)
      refine g_letS h (fun S154 h => ?_)
      exact g_vW (pc := 157) hC d_Rw_load_157 h
    · exact g_vW (pc := 21) hC d_Rw_load_21 h
theorem c_Rw_load {V : WV} {l : Launch} (hV : IsC V) {rw : Nat} {st : Nat} (hrw : isRw rw) (hst : isSt st) {x1 : Int32} {S : Mem} {z : Mem} (h : f_Rw_load rw st x1 S = some z) : CV V l y_Rw_load bc_Rw_load 4 none 1 26 [.ref (V.2.2.1 rw 0), .int x1, .ref (V.2.2.1 st 0)] S z :=
  ct_v rfl (IsC.ok hV) (Nat.le_of_ble_eq_true rfl) (fun _ _ hC => w_Rw_load_b0 hV hrw hst hC x1 S h)
def f_Sh_failed_b0 (x1 : Int32) (S : Mem) : Option (Int32 × Mem) :=
  letS (pI S 2 2 x1) (fun S2 =>
  some (0, S2))
def f_Sh_failed (x1 : Int32) (S : Mem) : Option (Int32 × Mem) := f_Sh_failed_b0  x1 S
theorem d_Sh_failed_0 : decode bc_Sh_failed 0 = .ok (.aload_n 0, 1) := by decide +kernel
theorem d_Sh_failed_1 : decode bc_Sh_failed 1 = .ok (.iload_n 1, 1) := by decide +kernel
theorem d_Sh_failed_2 : decode bc_Sh_failed 2 = .ok (.putfield 15, 3) := by decide +kernel
theorem d_Sh_failed_5 : decode bc_Sh_failed 5 = .ok (.iconst 0, 1) := by decide +kernel
theorem d_Sh_failed_6 : decode bc_Sh_failed 6 = .ok (.ireturn, 1) := by decide +kernel
set_option maxRecDepth 20000 in
theorem w_Sh_failed_b0 {X : CX} {V : WV} (hV : IsC V) {z : Int32 × Mem} (hC : Ck X V bc_Sh_failed 2 "SecretWells$Shape" (some .boolean) 0 0) (x1 : Int32) (S : Mem) (h : f_Sh_failed_b0  x1 S = some z) : G X V 2 (QI X V z.1 z.2) 0 [some (.ref (V.2.2.1 2 0)), some (.int x1)] [] S := by
  unfold f_Sh_failed_b0 at h
  refine g_aload_n (pc := 0) hC (i := 0) (x := (V.2.2.1 2 0)) rfl rfl d_Sh_failed_0 ?_
  refine g_iload_n (pc := 1) hC (i := 1) (x := x1) rfl rfl d_Sh_failed_1 ?_
  refine g_putI (pc := 2) hC po_Sh_15 (ob_Sh hV) rfl rfl rfl d_Sh_failed_2 ?_
  refine g_letS h (fun S2 h => ?_)
  refine g_iconst (pc := 5) hC kc_0 d_Sh_failed_5 ?_
  exact g_iW (pc := 6) hC rfl d_Sh_failed_6 h
theorem c_Sh_failed {V : WV} {l : Launch} (hV : IsC V) {x1 : Int32} {S : Mem} {z : Int32 × Mem} (h : f_Sh_failed x1 S = some z) : CI V l y_Sh_failed bc_Sh_failed 2 (some .boolean) 0 0 [.ref (V.2.2.1 2 0), .int x1] S z.1 z.2 :=
  ct_i rfl (IsC.ok hV) (Nat.le_of_ble_eq_true rfl) (fun _ _ hC => w_Sh_failed_b0 hV hC x1 S h)
def f_Sh_mostOf_b0 (x0 : Int32) : Option (Int32) :=
  if x0 = 128 then
    some 4
  else if x0 = 129 then
    some 7
  else if x0 = 130 then
    some 8
  else 
    some 12
def f_Sh_mostOf (x0 : Int32) : Option (Int32) := f_Sh_mostOf_b0  x0
theorem d_Sh_mostOf_0 : decode bc_Sh_mostOf 0 = .ok (.iload_n 0, 1) := by decide +kernel
theorem d_Sh_mostOf_1 : decode bc_Sh_mostOf 1 = .ok (.tableswitch 35 128 130 #[27, 29, 32], 27) := by decide +kernel
theorem d_Sh_mostOf_28 : decode bc_Sh_mostOf 28 = .ok (.iconst 4, 1) := by decide +kernel
theorem d_Sh_mostOf_29 : decode bc_Sh_mostOf 29 = .ok (.ireturn, 1) := by decide +kernel
theorem d_Sh_mostOf_30 : decode bc_Sh_mostOf 30 = .ok (.bipush 7, 2) := by decide +kernel
theorem d_Sh_mostOf_32 : decode bc_Sh_mostOf 32 = .ok (.ireturn, 1) := by decide +kernel
theorem d_Sh_mostOf_33 : decode bc_Sh_mostOf 33 = .ok (.bipush 8, 2) := by decide +kernel
theorem d_Sh_mostOf_35 : decode bc_Sh_mostOf 35 = .ok (.ireturn, 1) := by decide +kernel
theorem d_Sh_mostOf_36 : decode bc_Sh_mostOf 36 = .ok (.bipush 12, 2) := by decide +kernel
theorem d_Sh_mostOf_38 : decode bc_Sh_mostOf 38 = .ok (.ireturn, 1) := by decide +kernel
set_option maxRecDepth 20000 in
theorem w_Sh_mostOf_b0 {X : CX} {V : WV} (hVO : VOk V) {S : Mem} {z : Int32} (hC : Ck X V bc_Sh_mostOf 1 "SecretWells$Shape" (some .int) 0 0) (x0 : Int32) (h : f_Sh_mostOf_b0  x0 = some z) : G X V 1 (QI X V z S) 0 [some (.int x0)] [] S := by
  unfold f_Sh_mostOf_b0 at h
  refine g_iload_n (pc := 0) hC (i := 0) (x := x0) rfl rfl d_Sh_mostOf_0 ?_
  by_cases hs1_128 : x0 = 128
  · rw [if_pos hs1_128] at h
    refine g_table (pc := 1) hC (tgt := 28) d_Sh_mostOf_1 rfl (by rw [hs1_128]; decide) ?_
    refine g_iconst (pc := 28) hC kc_4 d_Sh_mostOf_28 ?_
    exact g_iN (pc := 29) hC rfl d_Sh_mostOf_29 h
  rw [if_neg hs1_128] at h
  by_cases hs1_129 : x0 = 129
  · rw [if_pos hs1_129] at h
    refine g_table (pc := 1) hC (tgt := 30) d_Sh_mostOf_1 rfl (by rw [hs1_129]; decide) ?_
    refine g_bipush (pc := 30) hC kb_7 d_Sh_mostOf_30 ?_
    exact g_iN (pc := 32) hC rfl d_Sh_mostOf_32 h
  rw [if_neg hs1_129] at h
  by_cases hs1_130 : x0 = 130
  · rw [if_pos hs1_130] at h
    refine g_table (pc := 1) hC (tgt := 33) d_Sh_mostOf_1 rfl (by rw [hs1_130]; decide) ?_
    refine g_bipush (pc := 33) hC kb_8 d_Sh_mostOf_33 ?_
    exact g_iN (pc := 35) hC rfl d_Sh_mostOf_35 h
  rw [if_neg hs1_130] at h
  refine g_table (pc := 1) hC (tgt := 36) d_Sh_mostOf_1 rfl ((sw_else [(128 : Int32), (129 : Int32), (130 : Int32)] (by intro v hv; simp only [List.mem_cons, List.not_mem_nil, or_false] at hv; rcases hv with rfl | rfl | rfl <;> assumption) (by decide)).trans (by decide)) ?_
  refine g_bipush (pc := 36) hC kb_12 d_Sh_mostOf_36 ?_
  exact g_iN (pc := 38) hC rfl d_Sh_mostOf_38 h
theorem c_Sh_mostOf {V : WV} {l : Launch} (hVO : VOk V) {x0 : Int32} {S : Mem} {z : Int32} (h : f_Sh_mostOf x0 = some z) : CI V l y_Sh_mostOf bc_Sh_mostOf 1 (some .int) 0 0 [.int x0] S z S :=
  ct_i rfl hVO (Nat.le_of_ble_eq_true rfl) (fun _ _ hC => w_Sh_mostOf_b0 hVO hC x0 h)
def f_Sh_hasRoom_b0 (x1 : Int32) (S : Mem) : Option (Int32 × Mem) :=
  letS (x1 - 128) (fun y5 =>
  if y5 < 0 then
    some (1, S)
  else
    if y5 < (Int32.ofNat 4) then
      gIn y5 4 (
      gIn y5 4 (letS (sA S 2 4 y5 ((S.2.1 2 4 y5.toNatClampNeg) + 1)) (fun S30 =>
      gIn y5 4 (
      Option.bind (f_Sh_mostOf x1) (fun q38 =>
      if (S30.2.1 2 4 y5.toNatClampNeg) ≤ q38 then
        some (1, S30)
      else
        Option.bind (f_Sh_failed 2 S30) (fun q46 =>
        if q46.1 = 0 then
          some (0, q46.2)
        else
          some (1, q46.2)))))))
    else
      some (1, S))
def f_Sh_hasRoom (x1 : Int32) (S : Mem) : Option (Int32 × Mem) := f_Sh_hasRoom_b0  x1 S
theorem d_Sh_hasRoom_0 : decode bc_Sh_hasRoom 0 = .ok (.iload_n 1, 1) := by decide +kernel
theorem d_Sh_hasRoom_1 : decode bc_Sh_hasRoom 1 = .ok (.sipush 128, 3) := by decide +kernel
theorem d_Sh_hasRoom_4 : decode bc_Sh_hasRoom 4 = .ok (.isub, 1) := by decide +kernel
theorem d_Sh_hasRoom_5 : decode bc_Sh_hasRoom 5 = .ok (.istore_n 2, 1) := by decide +kernel
theorem d_Sh_hasRoom_6 : decode bc_Sh_hasRoom 6 = .ok (.iload_n 2, 1) := by decide +kernel
theorem d_Sh_hasRoom_7 : decode bc_Sh_hasRoom 7 = .ok (.ifCond .lt 12, 3) := by decide +kernel
theorem d_Sh_hasRoom_10 : decode bc_Sh_hasRoom 10 = .ok (.iload_n 2, 1) := by decide +kernel
theorem d_Sh_hasRoom_11 : decode bc_Sh_hasRoom 11 = .ok (.aload_n 0, 1) := by decide +kernel
theorem d_Sh_hasRoom_12 : decode bc_Sh_hasRoom 12 = .ok (.getfield 21, 3) := by decide +kernel
theorem d_Sh_hasRoom_15 : decode bc_Sh_hasRoom 15 = .ok (.arraylength, 1) := by decide +kernel
theorem d_Sh_hasRoom_16 : decode bc_Sh_hasRoom 16 = .ok (.if_icmp .lt 5, 3) := by decide +kernel
theorem d_Sh_hasRoom_19 : decode bc_Sh_hasRoom 19 = .ok (.iconst 1, 1) := by decide +kernel
theorem d_Sh_hasRoom_20 : decode bc_Sh_hasRoom 20 = .ok (.ireturn, 1) := by decide +kernel
theorem d_Sh_hasRoom_21 : decode bc_Sh_hasRoom 21 = .ok (.aload_n 0, 1) := by decide +kernel
theorem d_Sh_hasRoom_22 : decode bc_Sh_hasRoom 22 = .ok (.getfield 21, 3) := by decide +kernel
theorem d_Sh_hasRoom_25 : decode bc_Sh_hasRoom 25 = .ok (.iload_n 2, 1) := by decide +kernel
theorem d_Sh_hasRoom_26 : decode bc_Sh_hasRoom 26 = .ok (.dup2, 1) := by decide +kernel
theorem d_Sh_hasRoom_27 : decode bc_Sh_hasRoom 27 = .ok (.iaload, 1) := by decide +kernel
theorem d_Sh_hasRoom_28 : decode bc_Sh_hasRoom 28 = .ok (.iconst 1, 1) := by decide +kernel
theorem d_Sh_hasRoom_29 : decode bc_Sh_hasRoom 29 = .ok (.iadd, 1) := by decide +kernel
theorem d_Sh_hasRoom_30 : decode bc_Sh_hasRoom 30 = .ok (.iastore, 1) := by decide +kernel
theorem d_Sh_hasRoom_31 : decode bc_Sh_hasRoom 31 = .ok (.aload_n 0, 1) := by decide +kernel
theorem d_Sh_hasRoom_32 : decode bc_Sh_hasRoom 32 = .ok (.getfield 21, 3) := by decide +kernel
theorem d_Sh_hasRoom_35 : decode bc_Sh_hasRoom 35 = .ok (.iload_n 2, 1) := by decide +kernel
theorem d_Sh_hasRoom_36 : decode bc_Sh_hasRoom 36 = .ok (.iaload, 1) := by decide +kernel
theorem d_Sh_hasRoom_37 : decode bc_Sh_hasRoom 37 = .ok (.iload_n 1, 1) := by decide +kernel
theorem d_Sh_hasRoom_38 : decode bc_Sh_hasRoom 38 = .ok (.invokestatic 86, 3) := by decide +kernel
theorem d_Sh_hasRoom_41 : decode bc_Sh_hasRoom 41 = .ok (.if_icmp .le 11, 3) := by decide +kernel
theorem d_Sh_hasRoom_44 : decode bc_Sh_hasRoom 44 = .ok (.aload_n 0, 1) := by decide +kernel
theorem d_Sh_hasRoom_45 : decode bc_Sh_hasRoom 45 = .ok (.iconst 2, 1) := by decide +kernel
theorem d_Sh_hasRoom_46 : decode bc_Sh_hasRoom 46 = .ok (.invokevirtual 48, 3) := by decide +kernel
theorem d_Sh_hasRoom_49 : decode bc_Sh_hasRoom 49 = .ok (.ifCond .eq 7, 3) := by decide +kernel
theorem d_Sh_hasRoom_52 : decode bc_Sh_hasRoom 52 = .ok (.iconst 1, 1) := by decide +kernel
theorem d_Sh_hasRoom_53 : decode bc_Sh_hasRoom 53 = .ok (.goto 4, 3) := by decide +kernel
theorem d_Sh_hasRoom_56 : decode bc_Sh_hasRoom 56 = .ok (.iconst 0, 1) := by decide +kernel
theorem d_Sh_hasRoom_57 : decode bc_Sh_hasRoom 57 = .ok (.ireturn, 1) := by decide +kernel
set_option maxRecDepth 20000 in
theorem w_Sh_hasRoom_b0 {X : CX} {V : WV} (hV : IsC V) {z : Int32 × Mem} (hC : Ck X V bc_Sh_hasRoom 3 "SecretWells$Shape" (some .boolean) 1 21) (x1 : Int32) (S : Mem) (h : f_Sh_hasRoom_b0  x1 S = some z) : G X V 3 (QI X V z.1 z.2) 0 [some (.ref (V.2.2.1 2 0)), some (.int x1), none] [] S := by
  unfold f_Sh_hasRoom_b0 at h
  refine g_iload_n (pc := 0) hC (i := 1) (x := x1) rfl rfl d_Sh_hasRoom_0 ?_
  refine g_sipush (pc := 1) hC ks_128 d_Sh_hasRoom_1 ?_
  refine g_isub (pc := 4) hC d_Sh_hasRoom_4 ?_
  refine g_leti h (fun y5 h => ?_)
  refine s_istore_n (pc := 5) hC (i := 2) rfl (by decide) d_Sh_hasRoom_5 (lv2 := [some (.ref (V.2.2.1 2 0)), some (.int x1), some (.int y5)]) rfl ?_
  refine g_iload_n (pc := 6) hC (i := 2) (x := y5) rfl rfl d_Sh_hasRoom_6 ?_
  refine g_if_lt (pc := 7) hC (tgt := 19) (by decide) d_Sh_hasRoom_7 h (fun h => ?_) (fun h => ?_)
  · refine g_iconst (pc := 19) hC kc_1 d_Sh_hasRoom_19 ?_
    exact g_iW (pc := 20) hC rfl d_Sh_hasRoom_20 h
  · refine g_iload_n (pc := 10) hC (i := 2) (x := y5) rfl rfl d_Sh_hasRoom_10 ?_
    refine g_aload_n (pc := 11) hC (i := 0) (x := (V.2.2.1 2 0)) rfl rfl d_Sh_hasRoom_11 ?_
    refine g_getA (pc := 12) hC fo_Sh_21 (ob_Sh hV) rfl d_Sh_hasRoom_12 ?_
    refine g_alen (pc := 15) hC (by decide) (ar_Sh_4 hV) rfl d_Sh_hasRoom_15 ?_
    refine g_icmp_lt (pc := 16) hC (tgt := 21) (by decide) d_Sh_hasRoom_16 h (fun h => ?_) (fun h => ?_)
    · refine g_aload_n (pc := 21) hC (i := 0) (x := (V.2.2.1 2 0)) rfl rfl d_Sh_hasRoom_21 ?_
      refine g_getA (pc := 22) hC fo_Sh_21 (ob_Sh hV) rfl d_Sh_hasRoom_22 ?_
      refine g_iload_n (pc := 25) hC (i := 2) (x := y5) rfl rfl d_Sh_hasRoom_25 ?_
      refine g_dup2 (pc := 26) hC rfl rfl d_Sh_hasRoom_26 ?_
      refine g_iald (pc := 27) hC (ar_Sh_4 hV) d_Sh_hasRoom_27 h (fun h => ?_)
      refine g_iconst (pc := 28) hC kc_1 d_Sh_hasRoom_28 ?_
      refine g_iadd (pc := 29) hC d_Sh_hasRoom_29 ?_
      refine g_iast (pc := 30) hC (ar_Sh_4 hV) d_Sh_hasRoom_30 h (fun h => ?_)
      refine g_letS h (fun S30 h => ?_)
      refine g_aload_n (pc := 31) hC (i := 0) (x := (V.2.2.1 2 0)) rfl rfl d_Sh_hasRoom_31 ?_
      refine g_getA (pc := 32) hC fo_Sh_21 (ob_Sh hV) rfl d_Sh_hasRoom_32 ?_
      refine g_iload_n (pc := 35) hC (i := 2) (x := y5) rfl rfl d_Sh_hasRoom_35 ?_
      refine g_iald (pc := 36) hC (ar_Sh_4 hV) d_Sh_hasRoom_36 h (fun h => ?_)
      refine g_iload_n (pc := 37) hC (i := 1) (x := x1) rfl rfl d_Sh_hasRoom_37 ?_
      obtain ⟨q38, hq38, h⟩ := Option.bind_eq_some_iff.mp h
      refine g_si (pc := 38) hC (As := [.int x1]) (st := [.int (S30.2.1 2 4 y5.toNatClampNeg)]) mt_Sh_mostOf lk_Sh_86 (Nat.le_of_ble_eq_true rfl) ⟨Nat.le_of_ble_eq_true rfl, Nat.le_of_ble_eq_true rfl⟩ rfl d_Sh_hasRoom_38 (c_Sh_mostOf (IsC.ok hV) hq38) ?_
      refine g_icmp_le (pc := 41) hC (tgt := 52) (by decide) d_Sh_hasRoom_41 h (fun h => ?_) (fun h => ?_)
      · refine g_iconst (pc := 52) hC kc_1 d_Sh_hasRoom_52 ?_
        refine g_goto (pc := 53) hC (tgt := 57) (by decide) d_Sh_hasRoom_53 ?_
        exact g_iW (pc := 57) hC rfl d_Sh_hasRoom_57 h
      · refine g_aload_n (pc := 44) hC (i := 0) (x := (V.2.2.1 2 0)) rfl rfl d_Sh_hasRoom_44 ?_
        refine g_iconst (pc := 45) hC kc_2 d_Sh_hasRoom_45 ?_
        obtain ⟨q46, hq46, h⟩ := Option.bind_eq_some_iff.mp h
        refine g_vi (pc := 46) hC (As := [.int 2]) (st := []) mt_Sh_failed lk_Sh_48 rfl (ob_Sh hV) (Nat.le_of_ble_eq_true rfl) ⟨Nat.le_of_ble_eq_true rfl, Nat.le_of_ble_eq_true rfl⟩ rfl d_Sh_hasRoom_46 (c_Sh_failed hV hq46) ?_
        refine g_if_eq (pc := 49) hC (tgt := 56) (by decide) d_Sh_hasRoom_49 h (fun h => ?_) (fun h => ?_)
        · refine g_iconst (pc := 56) hC kc_0 d_Sh_hasRoom_56 ?_
          exact g_iW (pc := 57) hC rfl d_Sh_hasRoom_57 h
        · refine g_iconst (pc := 52) hC kc_1 d_Sh_hasRoom_52 ?_
          refine g_goto (pc := 53) hC (tgt := 57) (by decide) d_Sh_hasRoom_53 ?_
          exact g_iW (pc := 57) hC rfl d_Sh_hasRoom_57 h
    · refine g_iconst (pc := 19) hC kc_1 d_Sh_hasRoom_19 ?_
      exact g_iW (pc := 20) hC rfl d_Sh_hasRoom_20 h
theorem c_Sh_hasRoom {V : WV} {l : Launch} (hV : IsC V) {x1 : Int32} {S : Mem} {z : Int32 × Mem} (h : f_Sh_hasRoom x1 S = some z) : CI V l y_Sh_hasRoom bc_Sh_hasRoom 3 (some .boolean) 1 21 [.ref (V.2.2.1 2 0), .int x1] S z.1 z.2 :=
  ct_i rfl (IsC.ok hV) (Nat.le_of_ble_eq_true rfl) (fun _ _ hC => w_Sh_hasRoom_b0 hV hC x1 S h)
def f_Sh_isTaken_b0 (x1 : Int32) (S : Mem) : Option (Int32 × Mem) :=
  Option.bind (f_Tp_kindAt (S.1 2 3) S) (fun q8 =>
  if q8 = x1 then
    if (S.1 2 3) < 400 then
      letS (pI S 2 3 ((S.1 2 3) + 1)) (fun S44 =>
      some (1, S44))
    else
      Option.bind (f_Sh_failed 2 S) (fun q33 =>
      gZ q33.1 (some (q33.1, q33.2)))
  else
    Option.bind (f_Sh_failed 1 S) (fun q17 =>
    gZ q17.1 (some (q17.1, q17.2))))
def f_Sh_isTaken (x1 : Int32) (S : Mem) : Option (Int32 × Mem) := f_Sh_isTaken_b0  x1 S
theorem d_Sh_isTaken_0 : decode bc_Sh_isTaken 0 = .ok (.aload_n 0, 1) := by decide +kernel
theorem d_Sh_isTaken_1 : decode bc_Sh_isTaken 1 = .ok (.getfield 25, 3) := by decide +kernel
theorem d_Sh_isTaken_4 : decode bc_Sh_isTaken 4 = .ok (.aload_n 0, 1) := by decide +kernel
theorem d_Sh_isTaken_5 : decode bc_Sh_isTaken 5 = .ok (.getfield 18, 3) := by decide +kernel
theorem d_Sh_isTaken_8 : decode bc_Sh_isTaken 8 = .ok (.invokevirtual 35, 3) := by decide +kernel
theorem d_Sh_isTaken_11 : decode bc_Sh_isTaken 11 = .ok (.iload_n 1, 1) := by decide +kernel
theorem d_Sh_isTaken_12 : decode bc_Sh_isTaken 12 = .ok (.if_icmp .eq 9, 3) := by decide +kernel
theorem d_Sh_isTaken_15 : decode bc_Sh_isTaken 15 = .ok (.aload_n 0, 1) := by decide +kernel
theorem d_Sh_isTaken_16 : decode bc_Sh_isTaken 16 = .ok (.iconst 1, 1) := by decide +kernel
theorem d_Sh_isTaken_17 : decode bc_Sh_isTaken 17 = .ok (.invokevirtual 48, 3) := by decide +kernel
theorem d_Sh_isTaken_20 : decode bc_Sh_isTaken 20 = .ok (.ireturn, 1) := by decide +kernel
theorem d_Sh_isTaken_21 : decode bc_Sh_isTaken 21 = .ok (.aload_n 0, 1) := by decide +kernel
theorem d_Sh_isTaken_22 : decode bc_Sh_isTaken 22 = .ok (.getfield 18, 3) := by decide +kernel
theorem d_Sh_isTaken_25 : decode bc_Sh_isTaken 25 = .ok (.sipush 400, 3) := by decide +kernel
theorem d_Sh_isTaken_28 : decode bc_Sh_isTaken 28 = .ok (.if_icmp .lt 9, 3) := by decide +kernel
theorem d_Sh_isTaken_31 : decode bc_Sh_isTaken 31 = .ok (.aload_n 0, 1) := by decide +kernel
theorem d_Sh_isTaken_32 : decode bc_Sh_isTaken 32 = .ok (.iconst 2, 1) := by decide +kernel
theorem d_Sh_isTaken_33 : decode bc_Sh_isTaken 33 = .ok (.invokevirtual 48, 3) := by decide +kernel
theorem d_Sh_isTaken_36 : decode bc_Sh_isTaken 36 = .ok (.ireturn, 1) := by decide +kernel
theorem d_Sh_isTaken_37 : decode bc_Sh_isTaken 37 = .ok (.aload_n 0, 1) := by decide +kernel
theorem d_Sh_isTaken_38 : decode bc_Sh_isTaken 38 = .ok (.dup, 1) := by decide +kernel
theorem d_Sh_isTaken_39 : decode bc_Sh_isTaken 39 = .ok (.getfield 18, 3) := by decide +kernel
theorem d_Sh_isTaken_42 : decode bc_Sh_isTaken 42 = .ok (.iconst 1, 1) := by decide +kernel
theorem d_Sh_isTaken_43 : decode bc_Sh_isTaken 43 = .ok (.iadd, 1) := by decide +kernel
theorem d_Sh_isTaken_44 : decode bc_Sh_isTaken 44 = .ok (.putfield 18, 3) := by decide +kernel
theorem d_Sh_isTaken_47 : decode bc_Sh_isTaken 47 = .ok (.iconst 1, 1) := by decide +kernel
theorem d_Sh_isTaken_48 : decode bc_Sh_isTaken 48 = .ok (.ireturn, 1) := by decide +kernel
set_option maxRecDepth 20000 in
theorem w_Sh_isTaken_b0 {X : CX} {V : WV} (hV : IsC V) {z : Int32 × Mem} (hC : Ck X V bc_Sh_isTaken 2 "SecretWells$Shape" (some .boolean) 1 21) (x1 : Int32) (S : Mem) (h : f_Sh_isTaken_b0  x1 S = some z) : G X V 2 (QI X V z.1 z.2) 0 [some (.ref (V.2.2.1 2 0)), some (.int x1)] [] S := by
  unfold f_Sh_isTaken_b0 at h
  refine g_aload_n (pc := 0) hC (i := 0) (x := (V.2.2.1 2 0)) rfl rfl d_Sh_isTaken_0 ?_
  refine g_getC (pc := 1) hC (j := 1) fo_Sh_25 (ob_Sh hV) rfl d_Sh_isTaken_1 ?_
  refine g_aload_n (pc := 4) hC (i := 0) (x := (V.2.2.1 2 0)) rfl rfl d_Sh_isTaken_4 ?_
  refine g_getI (pc := 5) hC fo_Sh_18 (ob_Sh hV) rfl d_Sh_isTaken_5 ?_
  obtain ⟨q8, hq8, h⟩ := Option.bind_eq_some_iff.mp h
  refine g_vi (pc := 8) hC (As := [.int (S.1 2 3)]) (st := []) mt_Tp_kindAt lk_Sh_35 rfl (ob_Tp hV) (Nat.le_of_ble_eq_true rfl) ⟨Nat.le_of_ble_eq_true rfl, Nat.le_of_ble_eq_true rfl⟩ rfl d_Sh_isTaken_8 (c_Tp_kindAt hV hq8) ?_
  refine g_iload_n (pc := 11) hC (i := 1) (x := x1) rfl rfl d_Sh_isTaken_11 ?_
  refine g_icmp_eq (pc := 12) hC (tgt := 21) (by decide) d_Sh_isTaken_12 h (fun h => ?_) (fun h => ?_)
  · refine g_aload_n (pc := 21) hC (i := 0) (x := (V.2.2.1 2 0)) rfl rfl d_Sh_isTaken_21 ?_
    refine g_getI (pc := 22) hC fo_Sh_18 (ob_Sh hV) rfl d_Sh_isTaken_22 ?_
    refine g_sipush (pc := 25) hC ks_400 d_Sh_isTaken_25 ?_
    refine g_icmp_lt (pc := 28) hC (tgt := 37) (by decide) d_Sh_isTaken_28 h (fun h => ?_) (fun h => ?_)
    · refine g_aload_n (pc := 37) hC (i := 0) (x := (V.2.2.1 2 0)) rfl rfl d_Sh_isTaken_37 ?_
      refine g_dup (pc := 38) hC rfl d_Sh_isTaken_38 ?_
      refine g_getI (pc := 39) hC fo_Sh_18 (ob_Sh hV) rfl d_Sh_isTaken_39 ?_
      refine g_iconst (pc := 42) hC kc_1 d_Sh_isTaken_42 ?_
      refine g_iadd (pc := 43) hC d_Sh_isTaken_43 ?_
      refine g_putI (pc := 44) hC po_Sh_18 (ob_Sh hV) rfl rfl rfl d_Sh_isTaken_44 ?_
      refine g_letS h (fun S44 h => ?_)
      refine g_iconst (pc := 47) hC kc_1 d_Sh_isTaken_47 ?_
      exact g_iW (pc := 48) hC rfl d_Sh_isTaken_48 h
    · refine g_aload_n (pc := 31) hC (i := 0) (x := (V.2.2.1 2 0)) rfl rfl d_Sh_isTaken_31 ?_
      refine g_iconst (pc := 32) hC kc_2 d_Sh_isTaken_32 ?_
      obtain ⟨q33, hq33, h⟩ := Option.bind_eq_some_iff.mp h
      refine g_vi (pc := 33) hC (As := [.int 2]) (st := []) mt_Sh_failed lk_Sh_48 rfl (ob_Sh hV) (Nat.le_of_ble_eq_true rfl) ⟨Nat.le_of_ble_eq_true rfl, Nat.le_of_ble_eq_true rfl⟩ rfl d_Sh_isTaken_33 (c_Sh_failed hV hq33) ?_
      exact g_zW (pc := 36) hC d_Sh_isTaken_36 h
  · refine g_aload_n (pc := 15) hC (i := 0) (x := (V.2.2.1 2 0)) rfl rfl d_Sh_isTaken_15 ?_
    refine g_iconst (pc := 16) hC kc_1 d_Sh_isTaken_16 ?_
    obtain ⟨q17, hq17, h⟩ := Option.bind_eq_some_iff.mp h
    refine g_vi (pc := 17) hC (As := [.int 1]) (st := []) mt_Sh_failed lk_Sh_48 rfl (ob_Sh hV) (Nat.le_of_ble_eq_true rfl) ⟨Nat.le_of_ble_eq_true rfl, Nat.le_of_ble_eq_true rfl⟩ rfl d_Sh_isTaken_17 (c_Sh_failed hV hq17) ?_
    exact g_zW (pc := 20) hC d_Sh_isTaken_20 h
theorem c_Sh_isTaken {V : WV} {l : Launch} (hV : IsC V) {x1 : Int32} {S : Mem} {z : Int32 × Mem} (h : f_Sh_isTaken x1 S = some z) : CI V l y_Sh_isTaken bc_Sh_isTaken 2 (some .boolean) 1 21 [.ref (V.2.2.1 2 0), .int x1] S z.1 z.2 :=
  ct_i rfl (IsC.ok hV) (Nat.le_of_ble_eq_true rfl) (fun _ _ hC => w_Sh_isTaken_b0 hV hC x1 S h)
def f_Sh_areTaken_b2 (si : Nat) (k2 : Int32 → Mem → Option (Int32 × Mem)) (x2 : Int32) (S : Mem) : Option (Int32 × Mem) :=
  Option.bind (f_JStr_length si) (fun q4 =>
  if q4 ≤ x2 then
    some (1, S)
  else
    Option.bind (f_JStr_charAt si x2 S) (fun q13 =>
    Option.bind (f_Sh_isTaken q13.1 q13.2) (fun q16 =>
    if q16.1 = 0 then
      some (0, q16.2)
    else
      k2 (x2 + 1) q16.2)))
def f_Sh_areTaken_l2 (si : Nat) : Nat → Int32 → Mem → Option (Int32 × Mem)
  | 0 => fun _ _ => none
  | n + 1 => f_Sh_areTaken_b2 si (f_Sh_areTaken_l2 si n)
def f_Sh_areTaken_b0 (si : Nat) (S : Mem) : Option (Int32 × Mem) :=
  f_Sh_areTaken_l2 si 5000 0 S
def f_Sh_areTaken (si : Nat) (S : Mem) : Option (Int32 × Mem) := f_Sh_areTaken_b0 si S
theorem d_Sh_areTaken_0 : decode bc_Sh_areTaken 0 = .ok (.iconst 0, 1) := by decide +kernel
theorem d_Sh_areTaken_1 : decode bc_Sh_areTaken 1 = .ok (.istore_n 2, 1) := by decide +kernel
theorem d_Sh_areTaken_2 : decode bc_Sh_areTaken 2 = .ok (.iload_n 2, 1) := by decide +kernel
theorem d_Sh_areTaken_3 : decode bc_Sh_areTaken 3 = .ok (.aload_n 1, 1) := by decide +kernel
theorem d_Sh_areTaken_4 : decode bc_Sh_areTaken 4 = .ok (.invokevirtual 52, 3) := by decide +kernel
theorem d_Sh_areTaken_7 : decode bc_Sh_areTaken 7 = .ok (.if_icmp .ge 23, 3) := by decide +kernel
theorem d_Sh_areTaken_10 : decode bc_Sh_areTaken 10 = .ok (.aload_n 0, 1) := by decide +kernel
theorem d_Sh_areTaken_11 : decode bc_Sh_areTaken 11 = .ok (.aload_n 1, 1) := by decide +kernel
theorem d_Sh_areTaken_12 : decode bc_Sh_areTaken 12 = .ok (.iload_n 2, 1) := by decide +kernel
theorem d_Sh_areTaken_13 : decode bc_Sh_areTaken 13 = .ok (.invokevirtual 58, 3) := by decide +kernel
theorem d_Sh_areTaken_16 : decode bc_Sh_areTaken 16 = .ok (.invokevirtual 62, 3) := by decide +kernel
theorem d_Sh_areTaken_19 : decode bc_Sh_areTaken 19 = .ok (.ifCond .ne 5, 3) := by decide +kernel
theorem d_Sh_areTaken_22 : decode bc_Sh_areTaken 22 = .ok (.iconst 0, 1) := by decide +kernel
theorem d_Sh_areTaken_23 : decode bc_Sh_areTaken 23 = .ok (.ireturn, 1) := by decide +kernel
theorem d_Sh_areTaken_24 : decode bc_Sh_areTaken 24 = .ok (.iinc 2 1, 3) := by decide +kernel
theorem d_Sh_areTaken_27 : decode bc_Sh_areTaken 27 = .ok (.goto (-25), 3) := by decide +kernel
theorem d_Sh_areTaken_30 : decode bc_Sh_areTaken 30 = .ok (.iconst 1, 1) := by decide +kernel
theorem d_Sh_areTaken_31 : decode bc_Sh_areTaken 31 = .ok (.ireturn, 1) := by decide +kernel
set_option maxRecDepth 20000 in
theorem w_Sh_areTaken_b2 {X : CX} {V : WV} {si : Nat} (hV : IsC V) (hsi : si < 7) {z : Int32 × Mem} (hC : Ck X V bc_Sh_areTaken 3 "SecretWells$Shape" (some .boolean) 4 85) (k2 : Int32 → Mem → Option (Int32 × Mem)) (hk2 : ∀ (x2 : Int32) (S : Mem), k2 x2 S = some z → G X V 3 (QI X V z.1 z.2) 2 [some (.ref (V.2.2.1 2 0)), some (.ref (V.2.1.2.2.1 si)), some (.int x2)] [] S) (x2 : Int32) (S : Mem) (h : f_Sh_areTaken_b2 si k2 x2 S = some z) : G X V 3 (QI X V z.1 z.2) 2 [some (.ref (V.2.2.1 2 0)), some (.ref (V.2.1.2.2.1 si)), some (.int x2)] [] S := by
  unfold f_Sh_areTaken_b2 at h
  refine g_iload_n (pc := 2) hC (i := 2) (x := x2) rfl rfl d_Sh_areTaken_2 ?_
  refine g_aload_n (pc := 3) hC (i := 1) (x := (V.2.1.2.2.1 si)) rfl rfl d_Sh_areTaken_3 ?_
  obtain ⟨q4, hq4, h⟩ := Option.bind_eq_some_iff.mp h
  refine g_ki (pc := 4) hV.2.2 hC (As := []) (st := [.int x2]) mt_JStr_length lk_Sh_52 rfl hsi (Nat.le_of_ble_eq_true rfl) ⟨Nat.le_of_ble_eq_true rfl, Nat.le_of_ble_eq_true rfl⟩ rfl d_Sh_areTaken_4 (c_JStr_length (IsC.k hV) hsi hq4) ?_
  refine g_icmp_ge (pc := 7) hC (tgt := 30) (by decide) d_Sh_areTaken_7 h (fun h => ?_) (fun h => ?_)
  · refine g_iconst (pc := 30) hC kc_1 d_Sh_areTaken_30 ?_
    exact g_iW (pc := 31) hC rfl d_Sh_areTaken_31 h
  · refine g_aload_n (pc := 10) hC (i := 0) (x := (V.2.2.1 2 0)) rfl rfl d_Sh_areTaken_10 ?_
    refine g_aload_n (pc := 11) hC (i := 1) (x := (V.2.1.2.2.1 si)) rfl rfl d_Sh_areTaken_11 ?_
    refine g_iload_n (pc := 12) hC (i := 2) (x := x2) rfl rfl d_Sh_areTaken_12 ?_
    obtain ⟨q13, hq13, h⟩ := Option.bind_eq_some_iff.mp h
    refine g_ki (pc := 13) hV.2.2 hC (As := [.int x2]) (st := [.ref (V.2.2.1 2 0)]) mt_JStr_charAt lk_Sh_58 rfl hsi (Nat.le_of_ble_eq_true rfl) ⟨Nat.le_of_ble_eq_true rfl, Nat.le_of_ble_eq_true rfl⟩ rfl d_Sh_areTaken_13 (c_JStr_charAt (IsC.k hV) hsi hq13) ?_
    obtain ⟨q16, hq16, h⟩ := Option.bind_eq_some_iff.mp h
    refine g_vi (pc := 16) hC (As := [.int q13.1]) (st := []) mt_Sh_isTaken lk_Sh_62 rfl (ob_Sh hV) (Nat.le_of_ble_eq_true rfl) ⟨Nat.le_of_ble_eq_true rfl, Nat.le_of_ble_eq_true rfl⟩ rfl d_Sh_areTaken_16 (c_Sh_isTaken hV hq16) ?_
    refine g_if_ne (pc := 19) hC (tgt := 24) (by decide) d_Sh_areTaken_19 h (fun h => ?_) (fun h => ?_)
    · refine s_iinc (pc := 24) hC (i := 2) (x := x2) (v := x2 + 1) rfl (by rw [kc_1]) (by decide) d_Sh_areTaken_24 (lv2 := [some (.ref (V.2.2.1 2 0)), some (.ref (V.2.1.2.2.1 si)), some (.int (x2 + 1))]) rfl ?_
      refine g_goto (pc := 27) hC (tgt := 2) (by decide) d_Sh_areTaken_27 ?_
      exact hk2 (x2 + 1) q16.2 h
    · refine g_iconst (pc := 22) hC kc_0 d_Sh_areTaken_22 ?_
      exact g_iW (pc := 23) hC rfl d_Sh_areTaken_23 h
theorem w_Sh_areTaken_l2 {X : CX} {V : WV} {si : Nat} (hV : IsC V) (hsi : si < 7) {z : Int32 × Mem} (hC : Ck X V bc_Sh_areTaken 3 "SecretWells$Shape" (some .boolean) 4 85) : ∀ (n : Nat) (x2 : Int32) (S : Mem), f_Sh_areTaken_l2 si n x2 S = some z → G X V 3 (QI X V z.1 z.2) 2 [some (.ref (V.2.2.1 2 0)), some (.ref (V.2.1.2.2.1 si)), some (.int x2)] [] S := by
  intro n
  induction n with
  | zero =>
    intro x2 S h
    have h : (none : Option (Int32 × Mem)) = some z := h
    cases h
  | succ n ih =>
    intro x2 S h
    exact w_Sh_areTaken_b2 hV hsi hC (f_Sh_areTaken_l2 si n) ih x2 S h
set_option maxRecDepth 20000 in
theorem w_Sh_areTaken_b0 {X : CX} {V : WV} {si : Nat} (hV : IsC V) (hsi : si < 7) {z : Int32 × Mem} (hC : Ck X V bc_Sh_areTaken 3 "SecretWells$Shape" (some .boolean) 4 85) (S : Mem) (h : f_Sh_areTaken_b0 si S = some z) : G X V 3 (QI X V z.1 z.2) 0 [some (.ref (V.2.2.1 2 0)), some (.ref (V.2.1.2.2.1 si)), none] [] S := by
  unfold f_Sh_areTaken_b0 at h
  refine g_iconst (pc := 0) hC kc_0 d_Sh_areTaken_0 ?_
  refine s_istore_n (pc := 1) hC (i := 2) rfl (by decide) d_Sh_areTaken_1 (lv2 := [some (.ref (V.2.2.1 2 0)), some (.ref (V.2.1.2.2.1 si)), some (.int 0)]) rfl ?_
  exact w_Sh_areTaken_l2 hV hsi hC 5000 0 S h
theorem c_Sh_areTaken {V : WV} {l : Launch} (hV : IsC V) {si : Nat} (hsi : si < 7) {S : Mem} {z : Int32 × Mem} (h : f_Sh_areTaken si S = some z) : CI V l y_Sh_areTaken bc_Sh_areTaken 3 (some .boolean) 4 85 [.ref (V.2.2.1 2 0), .ref (V.2.1.2.2.1 si)] S z.1 z.2 :=
  ct_i rfl (IsC.ok hV) (Nat.le_of_ble_eq_true rfl) (fun _ _ hC => w_Sh_areTaken_b0 hV hsi hC S h)
def f_Sh_isRestOfSecret_b82 (S : Mem) : Option (Int32 × Mem) :=
  Option.bind (f_Sh_isTaken 59 S) (fun q85 =>
  gZ q85.1 (some (q85.1, q85.2)))
def f_Sh_isRestOfSecret_b42 (k42 : Int32 → Mem → Option (Int32 × Mem)) (x1 : Int32) (S : Mem) : Option (Int32 × Mem) :=
  if 400 < x1 then
    f_Sh_isRestOfSecret_b82 S
  else
    Option.bind (f_Tp_kindAt (S.1 2 3) S) (fun q57 =>
    if q57 = 97 then
      Option.bind (f_Sh_isTaken 97 S) (fun q68 =>
      if q68.1 = 0 then
        some (0, q68.2)
      else
        k42 (x1 + 1) q68.2)
    else
      f_Sh_isRestOfSecret_b82 S)
def f_Sh_isRestOfSecret_l42 : Nat → Int32 → Mem → Option (Int32 × Mem)
  | 0 => fun _ _ => none
  | n + 1 => f_Sh_isRestOfSecret_b42  (f_Sh_isRestOfSecret_l42  n)
def f_Sh_isRestOfSecret_b0 (S : Mem) : Option (Int32 × Mem) :=
  Option.bind (f_Sh_areTaken 6 S) (fun q3 =>
  if q3.1 = 0 then
    some (0, q3.2)
  else
    Option.bind (f_Tp_kindAt (q3.2.1 2 3) q3.2) (fun q19 =>
    if q19 = 138 then
      Option.bind (f_Sh_isTaken 138 q3.2) (fun q32 =>
      if q32.1 = 0 then
        some (0, q32.2)
      else
        f_Sh_isRestOfSecret_l42 5000 0 q32.2)
    else
      f_Sh_isRestOfSecret_l42 5000 0 q3.2))
def f_Sh_isRestOfSecret (S : Mem) : Option (Int32 × Mem) := f_Sh_isRestOfSecret_b0  S
theorem d_Sh_isRestOfSecret_0 : decode bc_Sh_isRestOfSecret 0 = .ok (.aload_n 0, 1) := by decide +kernel
theorem d_Sh_isRestOfSecret_1 : decode bc_Sh_isRestOfSecret 1 = .ok (.ldc 89, 2) := by decide +kernel
theorem d_Sh_isRestOfSecret_3 : decode bc_Sh_isRestOfSecret 3 = .ok (.invokevirtual 70, 3) := by decide +kernel
theorem d_Sh_isRestOfSecret_6 : decode bc_Sh_isRestOfSecret 6 = .ok (.ifCond .ne 5, 3) := by decide +kernel
theorem d_Sh_isRestOfSecret_9 : decode bc_Sh_isRestOfSecret 9 = .ok (.iconst 0, 1) := by decide +kernel
theorem d_Sh_isRestOfSecret_10 : decode bc_Sh_isRestOfSecret 10 = .ok (.ireturn, 1) := by decide +kernel
theorem d_Sh_isRestOfSecret_11 : decode bc_Sh_isRestOfSecret 11 = .ok (.aload_n 0, 1) := by decide +kernel
theorem d_Sh_isRestOfSecret_12 : decode bc_Sh_isRestOfSecret 12 = .ok (.getfield 25, 3) := by decide +kernel
theorem d_Sh_isRestOfSecret_15 : decode bc_Sh_isRestOfSecret 15 = .ok (.aload_n 0, 1) := by decide +kernel
theorem d_Sh_isRestOfSecret_16 : decode bc_Sh_isRestOfSecret 16 = .ok (.getfield 18, 3) := by decide +kernel
theorem d_Sh_isRestOfSecret_19 : decode bc_Sh_isRestOfSecret 19 = .ok (.invokevirtual 35, 3) := by decide +kernel
theorem d_Sh_isRestOfSecret_22 : decode bc_Sh_isRestOfSecret 22 = .ok (.sipush 138, 3) := by decide +kernel
theorem d_Sh_isRestOfSecret_25 : decode bc_Sh_isRestOfSecret 25 = .ok (.if_icmp .ne 15, 3) := by decide +kernel
theorem d_Sh_isRestOfSecret_28 : decode bc_Sh_isRestOfSecret 28 = .ok (.aload_n 0, 1) := by decide +kernel
theorem d_Sh_isRestOfSecret_29 : decode bc_Sh_isRestOfSecret 29 = .ok (.sipush 138, 3) := by decide +kernel
theorem d_Sh_isRestOfSecret_32 : decode bc_Sh_isRestOfSecret 32 = .ok (.invokevirtual 62, 3) := by decide +kernel
theorem d_Sh_isRestOfSecret_35 : decode bc_Sh_isRestOfSecret 35 = .ok (.ifCond .ne 5, 3) := by decide +kernel
theorem d_Sh_isRestOfSecret_38 : decode bc_Sh_isRestOfSecret 38 = .ok (.iconst 0, 1) := by decide +kernel
theorem d_Sh_isRestOfSecret_39 : decode bc_Sh_isRestOfSecret 39 = .ok (.ireturn, 1) := by decide +kernel
theorem d_Sh_isRestOfSecret_40 : decode bc_Sh_isRestOfSecret 40 = .ok (.iconst 0, 1) := by decide +kernel
theorem d_Sh_isRestOfSecret_41 : decode bc_Sh_isRestOfSecret 41 = .ok (.istore_n 1, 1) := by decide +kernel
theorem d_Sh_isRestOfSecret_42 : decode bc_Sh_isRestOfSecret 42 = .ok (.iload_n 1, 1) := by decide +kernel
theorem d_Sh_isRestOfSecret_43 : decode bc_Sh_isRestOfSecret 43 = .ok (.sipush 400, 3) := by decide +kernel
theorem d_Sh_isRestOfSecret_46 : decode bc_Sh_isRestOfSecret 46 = .ok (.if_icmp .gt 36, 3) := by decide +kernel
theorem d_Sh_isRestOfSecret_49 : decode bc_Sh_isRestOfSecret 49 = .ok (.aload_n 0, 1) := by decide +kernel
theorem d_Sh_isRestOfSecret_50 : decode bc_Sh_isRestOfSecret 50 = .ok (.getfield 25, 3) := by decide +kernel
theorem d_Sh_isRestOfSecret_53 : decode bc_Sh_isRestOfSecret 53 = .ok (.aload_n 0, 1) := by decide +kernel
theorem d_Sh_isRestOfSecret_54 : decode bc_Sh_isRestOfSecret 54 = .ok (.getfield 18, 3) := by decide +kernel
theorem d_Sh_isRestOfSecret_57 : decode bc_Sh_isRestOfSecret 57 = .ok (.invokevirtual 35, 3) := by decide +kernel
theorem d_Sh_isRestOfSecret_60 : decode bc_Sh_isRestOfSecret 60 = .ok (.bipush 97, 2) := by decide +kernel
theorem d_Sh_isRestOfSecret_62 : decode bc_Sh_isRestOfSecret 62 = .ok (.if_icmp .ne 20, 3) := by decide +kernel
theorem d_Sh_isRestOfSecret_65 : decode bc_Sh_isRestOfSecret 65 = .ok (.aload_n 0, 1) := by decide +kernel
theorem d_Sh_isRestOfSecret_66 : decode bc_Sh_isRestOfSecret 66 = .ok (.bipush 97, 2) := by decide +kernel
theorem d_Sh_isRestOfSecret_68 : decode bc_Sh_isRestOfSecret 68 = .ok (.invokevirtual 62, 3) := by decide +kernel
theorem d_Sh_isRestOfSecret_71 : decode bc_Sh_isRestOfSecret 71 = .ok (.ifCond .ne 5, 3) := by decide +kernel
theorem d_Sh_isRestOfSecret_74 : decode bc_Sh_isRestOfSecret 74 = .ok (.iconst 0, 1) := by decide +kernel
theorem d_Sh_isRestOfSecret_75 : decode bc_Sh_isRestOfSecret 75 = .ok (.ireturn, 1) := by decide +kernel
theorem d_Sh_isRestOfSecret_76 : decode bc_Sh_isRestOfSecret 76 = .ok (.iinc 1 1, 3) := by decide +kernel
theorem d_Sh_isRestOfSecret_79 : decode bc_Sh_isRestOfSecret 79 = .ok (.goto (-37), 3) := by decide +kernel
theorem d_Sh_isRestOfSecret_82 : decode bc_Sh_isRestOfSecret 82 = .ok (.aload_n 0, 1) := by decide +kernel
theorem d_Sh_isRestOfSecret_83 : decode bc_Sh_isRestOfSecret 83 = .ok (.bipush 59, 2) := by decide +kernel
theorem d_Sh_isRestOfSecret_85 : decode bc_Sh_isRestOfSecret 85 = .ok (.invokevirtual 62, 3) := by decide +kernel
theorem d_Sh_isRestOfSecret_88 : decode bc_Sh_isRestOfSecret 88 = .ok (.ireturn, 1) := by decide +kernel
set_option maxRecDepth 20000 in
theorem w_Sh_isRestOfSecret_b82 {X : CX} {V : WV} (hV : IsC V) {z : Int32 × Mem} (hC : Ck X V bc_Sh_isRestOfSecret 2 "SecretWells$Shape" (some .boolean) 5 107) (S : Mem) (h : f_Sh_isRestOfSecret_b82  S = some z) : G X V 2 (QI X V z.1 z.2) 82 [some (.ref (V.2.2.1 2 0)), none] [] S := by
  unfold f_Sh_isRestOfSecret_b82 at h
  refine g_aload_n (pc := 82) hC (i := 0) (x := (V.2.2.1 2 0)) rfl rfl d_Sh_isRestOfSecret_82 ?_
  refine g_bipush (pc := 83) hC kb_59 d_Sh_isRestOfSecret_83 ?_
  obtain ⟨q85, hq85, h⟩ := Option.bind_eq_some_iff.mp h
  refine g_vi (pc := 85) hC (As := [.int 59]) (st := []) mt_Sh_isTaken lk_Sh_62 rfl (ob_Sh hV) (Nat.le_of_ble_eq_true rfl) ⟨Nat.le_of_ble_eq_true rfl, Nat.le_of_ble_eq_true rfl⟩ rfl d_Sh_isRestOfSecret_85 (c_Sh_isTaken hV hq85) ?_
  exact g_zW (pc := 88) hC d_Sh_isRestOfSecret_88 h
set_option maxRecDepth 20000 in
theorem w_Sh_isRestOfSecret_b42 {X : CX} {V : WV} (hV : IsC V) {z : Int32 × Mem} (hC : Ck X V bc_Sh_isRestOfSecret 2 "SecretWells$Shape" (some .boolean) 5 107) (k42 : Int32 → Mem → Option (Int32 × Mem)) (hk42 : ∀ (x1 : Int32) (S : Mem), k42 x1 S = some z → G X V 2 (QI X V z.1 z.2) 42 [some (.ref (V.2.2.1 2 0)), some (.int x1)] [] S) (x1 : Int32) (S : Mem) (h : f_Sh_isRestOfSecret_b42  k42 x1 S = some z) : G X V 2 (QI X V z.1 z.2) 42 [some (.ref (V.2.2.1 2 0)), some (.int x1)] [] S := by
  unfold f_Sh_isRestOfSecret_b42 at h
  refine g_iload_n (pc := 42) hC (i := 1) (x := x1) rfl rfl d_Sh_isRestOfSecret_42 ?_
  refine g_sipush (pc := 43) hC ks_400 d_Sh_isRestOfSecret_43 ?_
  refine g_icmp_gt (pc := 46) hC (tgt := 82) (by decide) d_Sh_isRestOfSecret_46 h (fun h => ?_) (fun h => ?_)
  · refine g_le (lv2 := [some (.ref (V.2.2.1 2 0)), none]) (⟨rfl, trivial⟩) ?_
    exact w_Sh_isRestOfSecret_b82 hV hC S h
  · refine g_aload_n (pc := 49) hC (i := 0) (x := (V.2.2.1 2 0)) rfl rfl d_Sh_isRestOfSecret_49 ?_
    refine g_getC (pc := 50) hC (j := 1) fo_Sh_25 (ob_Sh hV) rfl d_Sh_isRestOfSecret_50 ?_
    refine g_aload_n (pc := 53) hC (i := 0) (x := (V.2.2.1 2 0)) rfl rfl d_Sh_isRestOfSecret_53 ?_
    refine g_getI (pc := 54) hC fo_Sh_18 (ob_Sh hV) rfl d_Sh_isRestOfSecret_54 ?_
    obtain ⟨q57, hq57, h⟩ := Option.bind_eq_some_iff.mp h
    refine g_vi (pc := 57) hC (As := [.int (S.1 2 3)]) (st := []) mt_Tp_kindAt lk_Sh_35 rfl (ob_Tp hV) (Nat.le_of_ble_eq_true rfl) ⟨Nat.le_of_ble_eq_true rfl, Nat.le_of_ble_eq_true rfl⟩ rfl d_Sh_isRestOfSecret_57 (c_Tp_kindAt hV hq57) ?_
    refine g_bipush (pc := 60) hC kb_97 d_Sh_isRestOfSecret_60 ?_
    refine g_icmp_ne (pc := 62) hC (tgt := 82) (by decide) d_Sh_isRestOfSecret_62 h (fun h => ?_) (fun h => ?_)
    · refine g_le (lv2 := [some (.ref (V.2.2.1 2 0)), none]) (⟨rfl, trivial⟩) ?_
      exact w_Sh_isRestOfSecret_b82 hV hC S h
    · refine g_aload_n (pc := 65) hC (i := 0) (x := (V.2.2.1 2 0)) rfl rfl d_Sh_isRestOfSecret_65 ?_
      refine g_bipush (pc := 66) hC kb_97 d_Sh_isRestOfSecret_66 ?_
      obtain ⟨q68, hq68, h⟩ := Option.bind_eq_some_iff.mp h
      refine g_vi (pc := 68) hC (As := [.int 97]) (st := []) mt_Sh_isTaken lk_Sh_62 rfl (ob_Sh hV) (Nat.le_of_ble_eq_true rfl) ⟨Nat.le_of_ble_eq_true rfl, Nat.le_of_ble_eq_true rfl⟩ rfl d_Sh_isRestOfSecret_68 (c_Sh_isTaken hV hq68) ?_
      refine g_if_ne (pc := 71) hC (tgt := 76) (by decide) d_Sh_isRestOfSecret_71 h (fun h => ?_) (fun h => ?_)
      · refine s_iinc (pc := 76) hC (i := 1) (x := x1) (v := x1 + 1) rfl (by rw [kc_1]) (by decide) d_Sh_isRestOfSecret_76 (lv2 := [some (.ref (V.2.2.1 2 0)), some (.int (x1 + 1))]) rfl ?_
        refine g_goto (pc := 79) hC (tgt := 42) (by decide) d_Sh_isRestOfSecret_79 ?_
        exact hk42 (x1 + 1) q68.2 h
      · refine g_iconst (pc := 74) hC kc_0 d_Sh_isRestOfSecret_74 ?_
        exact g_iW (pc := 75) hC rfl d_Sh_isRestOfSecret_75 h
theorem w_Sh_isRestOfSecret_l42 {X : CX} {V : WV} (hV : IsC V) {z : Int32 × Mem} (hC : Ck X V bc_Sh_isRestOfSecret 2 "SecretWells$Shape" (some .boolean) 5 107) : ∀ (n : Nat) (x1 : Int32) (S : Mem), f_Sh_isRestOfSecret_l42  n x1 S = some z → G X V 2 (QI X V z.1 z.2) 42 [some (.ref (V.2.2.1 2 0)), some (.int x1)] [] S := by
  intro n
  induction n with
  | zero =>
    intro x1 S h
    have h : (none : Option (Int32 × Mem)) = some z := h
    cases h
  | succ n ih =>
    intro x1 S h
    exact w_Sh_isRestOfSecret_b42 hV hC (f_Sh_isRestOfSecret_l42  n) ih x1 S h
set_option maxRecDepth 20000 in
theorem w_Sh_isRestOfSecret_b0 {X : CX} {V : WV} (hV : IsC V) {z : Int32 × Mem} (hC : Ck X V bc_Sh_isRestOfSecret 2 "SecretWells$Shape" (some .boolean) 5 107) (S : Mem) (h : f_Sh_isRestOfSecret_b0  S = some z) : G X V 2 (QI X V z.1 z.2) 0 [some (.ref (V.2.2.1 2 0)), none] [] S := by
  unfold f_Sh_isRestOfSecret_b0 at h
  refine g_aload_n (pc := 0) hC (i := 0) (x := (V.2.2.1 2 0)) rfl rfl d_Sh_isRestOfSecret_0 ?_
  refine g_ldcS (pc := 1) hV.2.2 hC 6 (by decide) rfl rfl d_Sh_isRestOfSecret_1 ?_
  obtain ⟨q3, hq3, h⟩ := Option.bind_eq_some_iff.mp h
  refine g_vi (pc := 3) hC (As := [.ref (V.2.1.2.2.1 6)]) (st := []) mt_Sh_areTaken lk_Sh_70 rfl (ob_Sh hV) (Nat.le_of_ble_eq_true rfl) ⟨Nat.le_of_ble_eq_true rfl, Nat.le_of_ble_eq_true rfl⟩ rfl d_Sh_isRestOfSecret_3 (c_Sh_areTaken hV (by decide) hq3) ?_
  refine g_if_ne (pc := 6) hC (tgt := 11) (by decide) d_Sh_isRestOfSecret_6 h (fun h => ?_) (fun h => ?_)
  · refine g_aload_n (pc := 11) hC (i := 0) (x := (V.2.2.1 2 0)) rfl rfl d_Sh_isRestOfSecret_11 ?_
    refine g_getC (pc := 12) hC (j := 1) fo_Sh_25 (ob_Sh hV) rfl d_Sh_isRestOfSecret_12 ?_
    refine g_aload_n (pc := 15) hC (i := 0) (x := (V.2.2.1 2 0)) rfl rfl d_Sh_isRestOfSecret_15 ?_
    refine g_getI (pc := 16) hC fo_Sh_18 (ob_Sh hV) rfl d_Sh_isRestOfSecret_16 ?_
    obtain ⟨q19, hq19, h⟩ := Option.bind_eq_some_iff.mp h
    refine g_vi (pc := 19) hC (As := [.int (q3.2.1 2 3)]) (st := []) mt_Tp_kindAt lk_Sh_35 rfl (ob_Tp hV) (Nat.le_of_ble_eq_true rfl) ⟨Nat.le_of_ble_eq_true rfl, Nat.le_of_ble_eq_true rfl⟩ rfl d_Sh_isRestOfSecret_19 (c_Tp_kindAt hV hq19) ?_
    refine g_sipush (pc := 22) hC ks_138 d_Sh_isRestOfSecret_22 ?_
    refine g_icmp_ne (pc := 25) hC (tgt := 40) (by decide) d_Sh_isRestOfSecret_25 h (fun h => ?_) (fun h => ?_)
    · refine g_iconst (pc := 40) hC kc_0 d_Sh_isRestOfSecret_40 ?_
      refine s_istore_n (pc := 41) hC (i := 1) rfl (by decide) d_Sh_isRestOfSecret_41 (lv2 := [some (.ref (V.2.2.1 2 0)), some (.int 0)]) rfl ?_
      exact w_Sh_isRestOfSecret_l42 hV hC 5000 0 q3.2 h
    · refine g_aload_n (pc := 28) hC (i := 0) (x := (V.2.2.1 2 0)) rfl rfl d_Sh_isRestOfSecret_28 ?_
      refine g_sipush (pc := 29) hC ks_138 d_Sh_isRestOfSecret_29 ?_
      obtain ⟨q32, hq32, h⟩ := Option.bind_eq_some_iff.mp h
      refine g_vi (pc := 32) hC (As := [.int 138]) (st := []) mt_Sh_isTaken lk_Sh_62 rfl (ob_Sh hV) (Nat.le_of_ble_eq_true rfl) ⟨Nat.le_of_ble_eq_true rfl, Nat.le_of_ble_eq_true rfl⟩ rfl d_Sh_isRestOfSecret_32 (c_Sh_isTaken hV hq32) ?_
      refine g_if_ne (pc := 35) hC (tgt := 40) (by decide) d_Sh_isRestOfSecret_35 h (fun h => ?_) (fun h => ?_)
      · refine g_iconst (pc := 40) hC kc_0 d_Sh_isRestOfSecret_40 ?_
        refine s_istore_n (pc := 41) hC (i := 1) rfl (by decide) d_Sh_isRestOfSecret_41 (lv2 := [some (.ref (V.2.2.1 2 0)), some (.int 0)]) rfl ?_
        exact w_Sh_isRestOfSecret_l42 hV hC 5000 0 q32.2 h
      · refine g_iconst (pc := 38) hC kc_0 d_Sh_isRestOfSecret_38 ?_
        exact g_iW (pc := 39) hC rfl d_Sh_isRestOfSecret_39 h
  · refine g_iconst (pc := 9) hC kc_0 d_Sh_isRestOfSecret_9 ?_
    exact g_iW (pc := 10) hC rfl d_Sh_isRestOfSecret_10 h
theorem c_Sh_isRestOfSecret {V : WV} {l : Launch} (hV : IsC V) {S : Mem} {z : Int32 × Mem} (h : f_Sh_isRestOfSecret S = some z) : CI V l y_Sh_isRestOfSecret bc_Sh_isRestOfSecret 2 (some .boolean) 5 107 [.ref (V.2.2.1 2 0)] S z.1 z.2 :=
  ct_i rfl (IsC.ok hV) (Nat.le_of_ble_eq_true rfl) (fun _ _ hC => w_Sh_isRestOfSecret_b0 hV hC S h)
def f_Sh_isValue_b0 (x0 : Int32) : Option (Int32) :=
  if x0 = 48 then
    some 1
  else
    if x0 < 142 then
      some 0
    else
      if 149 < x0 then
        some 0
      else
        some 1
def f_Sh_isValue (x0 : Int32) : Option (Int32) := f_Sh_isValue_b0  x0
theorem d_Sh_isValue_0 : decode bc_Sh_isValue 0 = .ok (.iload_n 0, 1) := by decide +kernel
theorem d_Sh_isValue_1 : decode bc_Sh_isValue 1 = .ok (.bipush 48, 2) := by decide +kernel
theorem d_Sh_isValue_3 : decode bc_Sh_isValue 3 = .ok (.if_icmp .eq 17, 3) := by decide +kernel
theorem d_Sh_isValue_6 : decode bc_Sh_isValue 6 = .ok (.iload_n 0, 1) := by decide +kernel
theorem d_Sh_isValue_7 : decode bc_Sh_isValue 7 = .ok (.sipush 142, 3) := by decide +kernel
theorem d_Sh_isValue_10 : decode bc_Sh_isValue 10 = .ok (.if_icmp .lt 14, 3) := by decide +kernel
theorem d_Sh_isValue_13 : decode bc_Sh_isValue 13 = .ok (.iload_n 0, 1) := by decide +kernel
theorem d_Sh_isValue_14 : decode bc_Sh_isValue 14 = .ok (.sipush 149, 3) := by decide +kernel
theorem d_Sh_isValue_17 : decode bc_Sh_isValue 17 = .ok (.if_icmp .gt 7, 3) := by decide +kernel
theorem d_Sh_isValue_20 : decode bc_Sh_isValue 20 = .ok (.iconst 1, 1) := by decide +kernel
theorem d_Sh_isValue_21 : decode bc_Sh_isValue 21 = .ok (.goto 4, 3) := by decide +kernel
theorem d_Sh_isValue_24 : decode bc_Sh_isValue 24 = .ok (.iconst 0, 1) := by decide +kernel
theorem d_Sh_isValue_25 : decode bc_Sh_isValue 25 = .ok (.ireturn, 1) := by decide +kernel
set_option maxRecDepth 20000 in
theorem w_Sh_isValue_b0 {X : CX} {V : WV} (hVO : VOk V) {S : Mem} {z : Int32} (hC : Ck X V bc_Sh_isValue 1 "SecretWells$Shape" (some .boolean) 0 0) (x0 : Int32) (h : f_Sh_isValue_b0  x0 = some z) : G X V 1 (QI X V z S) 0 [some (.int x0)] [] S := by
  unfold f_Sh_isValue_b0 at h
  refine g_iload_n (pc := 0) hC (i := 0) (x := x0) rfl rfl d_Sh_isValue_0 ?_
  refine g_bipush (pc := 1) hC kb_48 d_Sh_isValue_1 ?_
  refine g_icmp_eq (pc := 3) hC (tgt := 20) (by decide) d_Sh_isValue_3 h (fun h => ?_) (fun h => ?_)
  · refine g_iconst (pc := 20) hC kc_1 d_Sh_isValue_20 ?_
    refine g_goto (pc := 21) hC (tgt := 25) (by decide) d_Sh_isValue_21 ?_
    exact g_iN (pc := 25) hC rfl d_Sh_isValue_25 h
  · refine g_iload_n (pc := 6) hC (i := 0) (x := x0) rfl rfl d_Sh_isValue_6 ?_
    refine g_sipush (pc := 7) hC ks_142 d_Sh_isValue_7 ?_
    refine g_icmp_lt (pc := 10) hC (tgt := 24) (by decide) d_Sh_isValue_10 h (fun h => ?_) (fun h => ?_)
    · refine g_iconst (pc := 24) hC kc_0 d_Sh_isValue_24 ?_
      exact g_iN (pc := 25) hC rfl d_Sh_isValue_25 h
    · refine g_iload_n (pc := 13) hC (i := 0) (x := x0) rfl rfl d_Sh_isValue_13 ?_
      refine g_sipush (pc := 14) hC ks_149 d_Sh_isValue_14 ?_
      refine g_icmp_gt (pc := 17) hC (tgt := 24) (by decide) d_Sh_isValue_17 h (fun h => ?_) (fun h => ?_)
      · refine g_iconst (pc := 24) hC kc_0 d_Sh_isValue_24 ?_
        exact g_iN (pc := 25) hC rfl d_Sh_isValue_25 h
      · refine g_iconst (pc := 20) hC kc_1 d_Sh_isValue_20 ?_
        refine g_goto (pc := 21) hC (tgt := 25) (by decide) d_Sh_isValue_21 ?_
        exact g_iN (pc := 25) hC rfl d_Sh_isValue_25 h
theorem c_Sh_isValue {V : WV} {l : Launch} (hVO : VOk V) {x0 : Int32} {S : Mem} {z : Int32} (h : f_Sh_isValue x0 = some z) : CI V l y_Sh_isValue bc_Sh_isValue 1 (some .boolean) 0 0 [.int x0] S z S :=
  ct_i rfl hVO (Nat.le_of_ble_eq_true rfl) (fun _ _ hC => w_Sh_isValue_b0 hVO hC x0 h)
def f_Sh_isSign_b0 (x0 : Int32) : Option (Int32) :=
  if x0 = 43 then
    some 1
  else
    if x0 = 45 then
      some 1
    else
      if x0 = 42 then
        some 1
      else
        if x0 = 47 then
          some 1
        else
          some 0
def f_Sh_isSign (x0 : Int32) : Option (Int32) := f_Sh_isSign_b0  x0
theorem d_Sh_isSign_0 : decode bc_Sh_isSign 0 = .ok (.iload_n 0, 1) := by decide +kernel
theorem d_Sh_isSign_1 : decode bc_Sh_isSign 1 = .ok (.bipush 43, 2) := by decide +kernel
theorem d_Sh_isSign_3 : decode bc_Sh_isSign 3 = .ok (.if_icmp .eq 21, 3) := by decide +kernel
theorem d_Sh_isSign_6 : decode bc_Sh_isSign 6 = .ok (.iload_n 0, 1) := by decide +kernel
theorem d_Sh_isSign_7 : decode bc_Sh_isSign 7 = .ok (.bipush 45, 2) := by decide +kernel
theorem d_Sh_isSign_9 : decode bc_Sh_isSign 9 = .ok (.if_icmp .eq 15, 3) := by decide +kernel
theorem d_Sh_isSign_12 : decode bc_Sh_isSign 12 = .ok (.iload_n 0, 1) := by decide +kernel
theorem d_Sh_isSign_13 : decode bc_Sh_isSign 13 = .ok (.bipush 42, 2) := by decide +kernel
theorem d_Sh_isSign_15 : decode bc_Sh_isSign 15 = .ok (.if_icmp .eq 9, 3) := by decide +kernel
theorem d_Sh_isSign_18 : decode bc_Sh_isSign 18 = .ok (.iload_n 0, 1) := by decide +kernel
theorem d_Sh_isSign_19 : decode bc_Sh_isSign 19 = .ok (.bipush 47, 2) := by decide +kernel
theorem d_Sh_isSign_21 : decode bc_Sh_isSign 21 = .ok (.if_icmp .ne 7, 3) := by decide +kernel
theorem d_Sh_isSign_24 : decode bc_Sh_isSign 24 = .ok (.iconst 1, 1) := by decide +kernel
theorem d_Sh_isSign_25 : decode bc_Sh_isSign 25 = .ok (.goto 4, 3) := by decide +kernel
theorem d_Sh_isSign_28 : decode bc_Sh_isSign 28 = .ok (.iconst 0, 1) := by decide +kernel
theorem d_Sh_isSign_29 : decode bc_Sh_isSign 29 = .ok (.ireturn, 1) := by decide +kernel
set_option maxRecDepth 20000 in
theorem w_Sh_isSign_b0 {X : CX} {V : WV} (hVO : VOk V) {S : Mem} {z : Int32} (hC : Ck X V bc_Sh_isSign 1 "SecretWells$Shape" (some .boolean) 0 0) (x0 : Int32) (h : f_Sh_isSign_b0  x0 = some z) : G X V 1 (QI X V z S) 0 [some (.int x0)] [] S := by
  unfold f_Sh_isSign_b0 at h
  refine g_iload_n (pc := 0) hC (i := 0) (x := x0) rfl rfl d_Sh_isSign_0 ?_
  refine g_bipush (pc := 1) hC kb_43 d_Sh_isSign_1 ?_
  refine g_icmp_eq (pc := 3) hC (tgt := 24) (by decide) d_Sh_isSign_3 h (fun h => ?_) (fun h => ?_)
  · refine g_iconst (pc := 24) hC kc_1 d_Sh_isSign_24 ?_
    refine g_goto (pc := 25) hC (tgt := 29) (by decide) d_Sh_isSign_25 ?_
    exact g_iN (pc := 29) hC rfl d_Sh_isSign_29 h
  · refine g_iload_n (pc := 6) hC (i := 0) (x := x0) rfl rfl d_Sh_isSign_6 ?_
    refine g_bipush (pc := 7) hC kb_45 d_Sh_isSign_7 ?_
    refine g_icmp_eq (pc := 9) hC (tgt := 24) (by decide) d_Sh_isSign_9 h (fun h => ?_) (fun h => ?_)
    · refine g_iconst (pc := 24) hC kc_1 d_Sh_isSign_24 ?_
      refine g_goto (pc := 25) hC (tgt := 29) (by decide) d_Sh_isSign_25 ?_
      exact g_iN (pc := 29) hC rfl d_Sh_isSign_29 h
    · refine g_iload_n (pc := 12) hC (i := 0) (x := x0) rfl rfl d_Sh_isSign_12 ?_
      refine g_bipush (pc := 13) hC kb_42 d_Sh_isSign_13 ?_
      refine g_icmp_eq (pc := 15) hC (tgt := 24) (by decide) d_Sh_isSign_15 h (fun h => ?_) (fun h => ?_)
      · refine g_iconst (pc := 24) hC kc_1 d_Sh_isSign_24 ?_
        refine g_goto (pc := 25) hC (tgt := 29) (by decide) d_Sh_isSign_25 ?_
        exact g_iN (pc := 29) hC rfl d_Sh_isSign_29 h
      · refine g_iload_n (pc := 18) hC (i := 0) (x := x0) rfl rfl d_Sh_isSign_18 ?_
        refine g_bipush (pc := 19) hC kb_47 d_Sh_isSign_19 ?_
        refine g_icmp_ne (pc := 21) hC (tgt := 28) (by decide) d_Sh_isSign_21 h (fun h => ?_) (fun h => ?_)
        · refine g_iconst (pc := 28) hC kc_0 d_Sh_isSign_28 ?_
          exact g_iN (pc := 29) hC rfl d_Sh_isSign_29 h
        · refine g_iconst (pc := 24) hC kc_1 d_Sh_isSign_24 ?_
          refine g_goto (pc := 25) hC (tgt := 29) (by decide) d_Sh_isSign_25 ?_
          exact g_iN (pc := 29) hC rfl d_Sh_isSign_29 h
theorem c_Sh_isSign {V : WV} {l : Launch} (hVO : VOk V) {x0 : Int32} {S : Mem} {z : Int32} (h : f_Sh_isSign x0 = some z) : CI V l y_Sh_isSign bc_Sh_isSign 1 (some .boolean) 0 0 [.int x0] S z S :=
  ct_i rfl hVO (Nat.le_of_ble_eq_true rfl) (fun _ _ hC => w_Sh_isSign_b0 hVO hC x0 h)
def f_Sh_isSum_b109 (k6 : Int32 → Int32 → Int32 → Mem → Option (Int32 × Mem)) (x1 : Int32) (x2 : Int32) (x3 : Int32) (x4 : Int32) (S : Mem) : Option (Int32 × Mem) :=
  Option.bind (f_Sh_isTaken x4 S) (fun q112 =>
  if q112.1 = 0 then
    some (0, q112.2)
  else
    k6 x1 x2 (x3 + 1) q112.2)
def f_Sh_isSum_b6 (k6 : Int32 → Int32 → Int32 → Mem → Option (Int32 × Mem)) (x1 : Int32) (x2 : Int32) (x3 : Int32) (S : Mem) : Option (Int32 × Mem) :=
  if 400 < x3 then
    some (0, S)
  else
    Option.bind (f_Tp_kindAt (S.1 2 3) S) (fun q21 =>
    if x2 = 0 then
      Option.bind (f_Sh_isSign q21) (fun q73 =>
      if q73 = 0 then
        if x1 = 0 then
          some (1, S)
        else
          if q21 = 41 then
            f_Sh_isSum_b109 k6 (x1 + (-1)) x2 x3 q21 S
          else
            Option.bind (f_Sh_failed 1 S) (fun q105 =>
            gZ q105.1 (some (q105.1, q105.2)))
      else
        f_Sh_isSum_b109 k6 x1 1 x3 q21 S)
    else
      if q21 = 40 then
        if (x1 + 1) ≤ 6 then
          f_Sh_isSum_b109 k6 (x1 + 1) x2 x3 q21 S
        else
          Option.bind (f_Sh_failed 2 S) (fun q48 =>
          gZ q48.1 (some (q48.1, q48.2)))
      else
        Option.bind (f_Sh_isValue q21) (fun q54 =>
        if q54 = 0 then
          Option.bind (f_Sh_failed 1 S) (fun q67 =>
          gZ q67.1 (some (q67.1, q67.2)))
        else
          f_Sh_isSum_b109 k6 x1 0 x3 q21 S))
def f_Sh_isSum_l6 : Nat → Int32 → Int32 → Int32 → Mem → Option (Int32 × Mem)
  | 0 => fun _ _ _ _ => none
  | n + 1 => f_Sh_isSum_b6  (f_Sh_isSum_l6  n)
def f_Sh_isSum_b0 (S : Mem) : Option (Int32 × Mem) :=
  f_Sh_isSum_l6 5000 0 1 0 S
def f_Sh_isSum (S : Mem) : Option (Int32 × Mem) := f_Sh_isSum_b0  S
theorem d_Sh_isSum_0 : decode bc_Sh_isSum 0 = .ok (.iconst 0, 1) := by decide +kernel
theorem d_Sh_isSum_1 : decode bc_Sh_isSum 1 = .ok (.istore_n 1, 1) := by decide +kernel
theorem d_Sh_isSum_2 : decode bc_Sh_isSum 2 = .ok (.iconst 1, 1) := by decide +kernel
theorem d_Sh_isSum_3 : decode bc_Sh_isSum 3 = .ok (.istore_n 2, 1) := by decide +kernel
theorem d_Sh_isSum_4 : decode bc_Sh_isSum 4 = .ok (.iconst 0, 1) := by decide +kernel
theorem d_Sh_isSum_5 : decode bc_Sh_isSum 5 = .ok (.istore_n 3, 1) := by decide +kernel
theorem d_Sh_isSum_6 : decode bc_Sh_isSum 6 = .ok (.iload_n 3, 1) := by decide +kernel
theorem d_Sh_isSum_7 : decode bc_Sh_isSum 7 = .ok (.sipush 400, 3) := by decide +kernel
theorem d_Sh_isSum_10 : decode bc_Sh_isSum 10 = .ok (.if_icmp .gt 116, 3) := by decide +kernel
theorem d_Sh_isSum_13 : decode bc_Sh_isSum 13 = .ok (.aload_n 0, 1) := by decide +kernel
theorem d_Sh_isSum_14 : decode bc_Sh_isSum 14 = .ok (.getfield 25, 3) := by decide +kernel
theorem d_Sh_isSum_17 : decode bc_Sh_isSum 17 = .ok (.aload_n 0, 1) := by decide +kernel
theorem d_Sh_isSum_18 : decode bc_Sh_isSum 18 = .ok (.getfield 18, 3) := by decide +kernel
theorem d_Sh_isSum_21 : decode bc_Sh_isSum 21 = .ok (.invokevirtual 35, 3) := by decide +kernel
theorem d_Sh_isSum_24 : decode bc_Sh_isSum 24 = .ok (.istore 4, 2) := by decide +kernel
theorem d_Sh_isSum_26 : decode bc_Sh_isSum 26 = .ok (.iload_n 2, 1) := by decide +kernel
theorem d_Sh_isSum_27 : decode bc_Sh_isSum 27 = .ok (.ifCond .eq 44, 3) := by decide +kernel
theorem d_Sh_isSum_30 : decode bc_Sh_isSum 30 = .ok (.iload 4, 2) := by decide +kernel
theorem d_Sh_isSum_32 : decode bc_Sh_isSum 32 = .ok (.bipush 40, 2) := by decide +kernel
theorem d_Sh_isSum_34 : decode bc_Sh_isSum 34 = .ok (.if_icmp .ne 18, 3) := by decide +kernel
theorem d_Sh_isSum_37 : decode bc_Sh_isSum 37 = .ok (.iinc 1 1, 3) := by decide +kernel
theorem d_Sh_isSum_40 : decode bc_Sh_isSum 40 = .ok (.iload_n 1, 1) := by decide +kernel
theorem d_Sh_isSum_41 : decode bc_Sh_isSum 41 = .ok (.bipush 6, 2) := by decide +kernel
theorem d_Sh_isSum_43 : decode bc_Sh_isSum 43 = .ok (.if_icmp .le 66, 3) := by decide +kernel
theorem d_Sh_isSum_46 : decode bc_Sh_isSum 46 = .ok (.aload_n 0, 1) := by decide +kernel
theorem d_Sh_isSum_47 : decode bc_Sh_isSum 47 = .ok (.iconst 2, 1) := by decide +kernel
theorem d_Sh_isSum_48 : decode bc_Sh_isSum 48 = .ok (.invokevirtual 48, 3) := by decide +kernel
theorem d_Sh_isSum_51 : decode bc_Sh_isSum 51 = .ok (.ireturn, 1) := by decide +kernel
theorem d_Sh_isSum_52 : decode bc_Sh_isSum 52 = .ok (.iload 4, 2) := by decide +kernel
theorem d_Sh_isSum_54 : decode bc_Sh_isSum 54 = .ok (.invokestatic 97, 3) := by decide +kernel
theorem d_Sh_isSum_57 : decode bc_Sh_isSum 57 = .ok (.ifCond .eq 8, 3) := by decide +kernel
theorem d_Sh_isSum_60 : decode bc_Sh_isSum 60 = .ok (.iconst 0, 1) := by decide +kernel
theorem d_Sh_isSum_61 : decode bc_Sh_isSum 61 = .ok (.istore_n 2, 1) := by decide +kernel
theorem d_Sh_isSum_62 : decode bc_Sh_isSum 62 = .ok (.goto 47, 3) := by decide +kernel
theorem d_Sh_isSum_65 : decode bc_Sh_isSum 65 = .ok (.aload_n 0, 1) := by decide +kernel
theorem d_Sh_isSum_66 : decode bc_Sh_isSum 66 = .ok (.iconst 1, 1) := by decide +kernel
theorem d_Sh_isSum_67 : decode bc_Sh_isSum 67 = .ok (.invokevirtual 48, 3) := by decide +kernel
theorem d_Sh_isSum_70 : decode bc_Sh_isSum 70 = .ok (.ireturn, 1) := by decide +kernel
theorem d_Sh_isSum_71 : decode bc_Sh_isSum 71 = .ok (.iload 4, 2) := by decide +kernel
theorem d_Sh_isSum_73 : decode bc_Sh_isSum 73 = .ok (.invokestatic 100, 3) := by decide +kernel
theorem d_Sh_isSum_76 : decode bc_Sh_isSum 76 = .ok (.ifCond .eq 8, 3) := by decide +kernel
theorem d_Sh_isSum_79 : decode bc_Sh_isSum 79 = .ok (.iconst 1, 1) := by decide +kernel
theorem d_Sh_isSum_80 : decode bc_Sh_isSum 80 = .ok (.istore_n 2, 1) := by decide +kernel
theorem d_Sh_isSum_81 : decode bc_Sh_isSum 81 = .ok (.goto 28, 3) := by decide +kernel
theorem d_Sh_isSum_84 : decode bc_Sh_isSum 84 = .ok (.iload_n 1, 1) := by decide +kernel
theorem d_Sh_isSum_85 : decode bc_Sh_isSum 85 = .ok (.ifCond .ne 5, 3) := by decide +kernel
theorem d_Sh_isSum_88 : decode bc_Sh_isSum 88 = .ok (.iconst 1, 1) := by decide +kernel
theorem d_Sh_isSum_89 : decode bc_Sh_isSum 89 = .ok (.ireturn, 1) := by decide +kernel
theorem d_Sh_isSum_90 : decode bc_Sh_isSum 90 = .ok (.iload 4, 2) := by decide +kernel
theorem d_Sh_isSum_92 : decode bc_Sh_isSum 92 = .ok (.bipush 41, 2) := by decide +kernel
theorem d_Sh_isSum_94 : decode bc_Sh_isSum 94 = .ok (.if_icmp .ne 9, 3) := by decide +kernel
theorem d_Sh_isSum_97 : decode bc_Sh_isSum 97 = .ok (.iinc 1 (-1), 3) := by decide +kernel
theorem d_Sh_isSum_100 : decode bc_Sh_isSum 100 = .ok (.goto 9, 3) := by decide +kernel
theorem d_Sh_isSum_103 : decode bc_Sh_isSum 103 = .ok (.aload_n 0, 1) := by decide +kernel
theorem d_Sh_isSum_104 : decode bc_Sh_isSum 104 = .ok (.iconst 1, 1) := by decide +kernel
theorem d_Sh_isSum_105 : decode bc_Sh_isSum 105 = .ok (.invokevirtual 48, 3) := by decide +kernel
theorem d_Sh_isSum_108 : decode bc_Sh_isSum 108 = .ok (.ireturn, 1) := by decide +kernel
theorem d_Sh_isSum_109 : decode bc_Sh_isSum 109 = .ok (.aload_n 0, 1) := by decide +kernel
theorem d_Sh_isSum_110 : decode bc_Sh_isSum 110 = .ok (.iload 4, 2) := by decide +kernel
theorem d_Sh_isSum_112 : decode bc_Sh_isSum 112 = .ok (.invokevirtual 62, 3) := by decide +kernel
theorem d_Sh_isSum_115 : decode bc_Sh_isSum 115 = .ok (.ifCond .ne 5, 3) := by decide +kernel
theorem d_Sh_isSum_118 : decode bc_Sh_isSum 118 = .ok (.iconst 0, 1) := by decide +kernel
theorem d_Sh_isSum_119 : decode bc_Sh_isSum 119 = .ok (.ireturn, 1) := by decide +kernel
theorem d_Sh_isSum_120 : decode bc_Sh_isSum 120 = .ok (.iinc 3 1, 3) := by decide +kernel
theorem d_Sh_isSum_123 : decode bc_Sh_isSum 123 = .ok (.goto (-117), 3) := by decide +kernel
theorem d_Sh_isSum_126 : decode bc_Sh_isSum 126 = .ok (.iconst 0, 1) := by decide +kernel
theorem d_Sh_isSum_127 : decode bc_Sh_isSum 127 = .ok (.ireturn, 1) := by decide +kernel
set_option maxRecDepth 20000 in
theorem w_Sh_isSum_b109 {X : CX} {V : WV} (hV : IsC V) {z : Int32 × Mem} (hC : Ck X V bc_Sh_isSum 5 "SecretWells$Shape" (some .boolean) 2 42) (k6 : Int32 → Int32 → Int32 → Mem → Option (Int32 × Mem)) (hk6 : ∀ (x1 : Int32) (x2 : Int32) (x3 : Int32) (S : Mem), k6 x1 x2 x3 S = some z → G X V 5 (QI X V z.1 z.2) 6 [some (.ref (V.2.2.1 2 0)), some (.int x1), some (.int x2), some (.int x3), none] [] S) (x1 : Int32) (x2 : Int32) (x3 : Int32) (x4 : Int32) (S : Mem) (h : f_Sh_isSum_b109  k6 x1 x2 x3 x4 S = some z) : G X V 5 (QI X V z.1 z.2) 109 [some (.ref (V.2.2.1 2 0)), some (.int x1), some (.int x2), some (.int x3), some (.int x4)] [] S := by
  unfold f_Sh_isSum_b109 at h
  refine g_aload_n (pc := 109) hC (i := 0) (x := (V.2.2.1 2 0)) rfl rfl d_Sh_isSum_109 ?_
  refine g_iload (pc := 110) hC (i := 4) (x := x4) rfl d_Sh_isSum_110 ?_
  obtain ⟨q112, hq112, h⟩ := Option.bind_eq_some_iff.mp h
  refine g_vi (pc := 112) hC (As := [.int x4]) (st := []) mt_Sh_isTaken lk_Sh_62 rfl (ob_Sh hV) (Nat.le_of_ble_eq_true rfl) ⟨Nat.le_of_ble_eq_true rfl, Nat.le_of_ble_eq_true rfl⟩ rfl d_Sh_isSum_112 (c_Sh_isTaken hV hq112) ?_
  refine g_if_ne (pc := 115) hC (tgt := 120) (by decide) d_Sh_isSum_115 h (fun h => ?_) (fun h => ?_)
  · refine s_iinc (pc := 120) hC (i := 3) (x := x3) (v := x3 + 1) rfl (by rw [kc_1]) (by decide) d_Sh_isSum_120 (lv2 := [some (.ref (V.2.2.1 2 0)), some (.int x1), some (.int x2), some (.int (x3 + 1)), some (.int x4)]) rfl ?_
    refine g_goto (pc := 123) hC (tgt := 6) (by decide) d_Sh_isSum_123 ?_
    refine g_le (lv2 := [some (.ref (V.2.2.1 2 0)), some (.int x1), some (.int x2), some (.int (x3 + 1)), none]) (⟨rfl, ⟨rfl, ⟨rfl, ⟨rfl, trivial⟩⟩⟩⟩) ?_
    exact hk6 x1 x2 (x3 + 1) q112.2 h
  · refine g_iconst (pc := 118) hC kc_0 d_Sh_isSum_118 ?_
    exact g_iW (pc := 119) hC rfl d_Sh_isSum_119 h
set_option maxRecDepth 20000 in
theorem w_Sh_isSum_b6 {X : CX} {V : WV} (hV : IsC V) {z : Int32 × Mem} (hC : Ck X V bc_Sh_isSum 5 "SecretWells$Shape" (some .boolean) 2 42) (k6 : Int32 → Int32 → Int32 → Mem → Option (Int32 × Mem)) (hk6 : ∀ (x1 : Int32) (x2 : Int32) (x3 : Int32) (S : Mem), k6 x1 x2 x3 S = some z → G X V 5 (QI X V z.1 z.2) 6 [some (.ref (V.2.2.1 2 0)), some (.int x1), some (.int x2), some (.int x3), none] [] S) (x1 : Int32) (x2 : Int32) (x3 : Int32) (S : Mem) (h : f_Sh_isSum_b6  k6 x1 x2 x3 S = some z) : G X V 5 (QI X V z.1 z.2) 6 [some (.ref (V.2.2.1 2 0)), some (.int x1), some (.int x2), some (.int x3), none] [] S := by
  unfold f_Sh_isSum_b6 at h
  refine g_iload_n (pc := 6) hC (i := 3) (x := x3) rfl rfl d_Sh_isSum_6 ?_
  refine g_sipush (pc := 7) hC ks_400 d_Sh_isSum_7 ?_
  refine g_icmp_gt (pc := 10) hC (tgt := 126) (by decide) d_Sh_isSum_10 h (fun h => ?_) (fun h => ?_)
  · refine g_iconst (pc := 126) hC kc_0 d_Sh_isSum_126 ?_
    exact g_iW (pc := 127) hC rfl d_Sh_isSum_127 h
  · refine g_aload_n (pc := 13) hC (i := 0) (x := (V.2.2.1 2 0)) rfl rfl d_Sh_isSum_13 ?_
    refine g_getC (pc := 14) hC (j := 1) fo_Sh_25 (ob_Sh hV) rfl d_Sh_isSum_14 ?_
    refine g_aload_n (pc := 17) hC (i := 0) (x := (V.2.2.1 2 0)) rfl rfl d_Sh_isSum_17 ?_
    refine g_getI (pc := 18) hC fo_Sh_18 (ob_Sh hV) rfl d_Sh_isSum_18 ?_
    obtain ⟨q21, hq21, h⟩ := Option.bind_eq_some_iff.mp h
    refine g_vi (pc := 21) hC (As := [.int (S.1 2 3)]) (st := []) mt_Tp_kindAt lk_Sh_35 rfl (ob_Tp hV) (Nat.le_of_ble_eq_true rfl) ⟨Nat.le_of_ble_eq_true rfl, Nat.le_of_ble_eq_true rfl⟩ rfl d_Sh_isSum_21 (c_Tp_kindAt hV hq21) ?_
    refine s_istore (pc := 24) hC (i := 4) (by decide) d_Sh_isSum_24 (lv2 := [some (.ref (V.2.2.1 2 0)), some (.int x1), some (.int x2), some (.int x3), some (.int q21)]) rfl ?_
    refine g_iload_n (pc := 26) hC (i := 2) (x := x2) rfl rfl d_Sh_isSum_26 ?_
    refine g_if_eq (pc := 27) hC (tgt := 71) (by decide) d_Sh_isSum_27 h (fun h => ?_) (fun h => ?_)
    · refine g_iload (pc := 71) hC (i := 4) (x := q21) rfl d_Sh_isSum_71 ?_
      obtain ⟨q73, hq73, h⟩ := Option.bind_eq_some_iff.mp h
      refine g_si (pc := 73) hC (As := [.int q21]) (st := []) mt_Sh_isSign lk_Sh_100 (Nat.le_of_ble_eq_true rfl) ⟨Nat.le_of_ble_eq_true rfl, Nat.le_of_ble_eq_true rfl⟩ rfl d_Sh_isSum_73 (c_Sh_isSign (IsC.ok hV) hq73) ?_
      refine g_if_eq (pc := 76) hC (tgt := 84) (by decide) d_Sh_isSum_76 h (fun h => ?_) (fun h => ?_)
      · refine g_iload_n (pc := 84) hC (i := 1) (x := x1) rfl rfl d_Sh_isSum_84 ?_
        refine g_if_ne (pc := 85) hC (tgt := 90) (by decide) d_Sh_isSum_85 h (fun h => ?_) (fun h => ?_)
        · refine g_iload (pc := 90) hC (i := 4) (x := q21) rfl d_Sh_isSum_90 ?_
          refine g_bipush (pc := 92) hC kb_41 d_Sh_isSum_92 ?_
          refine g_icmp_ne (pc := 94) hC (tgt := 103) (by decide) d_Sh_isSum_94 h (fun h => ?_) (fun h => ?_)
          · refine g_aload_n (pc := 103) hC (i := 0) (x := (V.2.2.1 2 0)) rfl rfl d_Sh_isSum_103 ?_
            refine g_iconst (pc := 104) hC kc_1 d_Sh_isSum_104 ?_
            obtain ⟨q105, hq105, h⟩ := Option.bind_eq_some_iff.mp h
            refine g_vi (pc := 105) hC (As := [.int 1]) (st := []) mt_Sh_failed lk_Sh_48 rfl (ob_Sh hV) (Nat.le_of_ble_eq_true rfl) ⟨Nat.le_of_ble_eq_true rfl, Nat.le_of_ble_eq_true rfl⟩ rfl d_Sh_isSum_105 (c_Sh_failed hV hq105) ?_
            exact g_zW (pc := 108) hC d_Sh_isSum_108 h
          · refine s_iinc (pc := 97) hC (i := 1) (x := x1) (v := x1 + (-1)) rfl (by rw [kc_m1]) (by decide) d_Sh_isSum_97 (lv2 := [some (.ref (V.2.2.1 2 0)), some (.int (x1 + (-1))), some (.int x2), some (.int x3), some (.int q21)]) rfl ?_
            refine g_goto (pc := 100) hC (tgt := 109) (by decide) d_Sh_isSum_100 ?_
            exact w_Sh_isSum_b109 hV hC k6 hk6 (x1 + (-1)) x2 x3 q21 S h
        · refine g_iconst (pc := 88) hC kc_1 d_Sh_isSum_88 ?_
          exact g_iW (pc := 89) hC rfl d_Sh_isSum_89 h
      · refine g_iconst (pc := 79) hC kc_1 d_Sh_isSum_79 ?_
        refine s_istore_n (pc := 80) hC (i := 2) rfl (by decide) d_Sh_isSum_80 (lv2 := [some (.ref (V.2.2.1 2 0)), some (.int x1), some (.int 1), some (.int x3), some (.int q21)]) rfl ?_
        refine g_goto (pc := 81) hC (tgt := 109) (by decide) d_Sh_isSum_81 ?_
        exact w_Sh_isSum_b109 hV hC k6 hk6 x1 1 x3 q21 S h
    · refine g_iload (pc := 30) hC (i := 4) (x := q21) rfl d_Sh_isSum_30 ?_
      refine g_bipush (pc := 32) hC kb_40 d_Sh_isSum_32 ?_
      refine g_icmp_ne (pc := 34) hC (tgt := 52) (by decide) d_Sh_isSum_34 h (fun h => ?_) (fun h => ?_)
      · refine g_iload (pc := 52) hC (i := 4) (x := q21) rfl d_Sh_isSum_52 ?_
        obtain ⟨q54, hq54, h⟩ := Option.bind_eq_some_iff.mp h
        refine g_si (pc := 54) hC (As := [.int q21]) (st := []) mt_Sh_isValue lk_Sh_97 (Nat.le_of_ble_eq_true rfl) ⟨Nat.le_of_ble_eq_true rfl, Nat.le_of_ble_eq_true rfl⟩ rfl d_Sh_isSum_54 (c_Sh_isValue (IsC.ok hV) hq54) ?_
        refine g_if_eq (pc := 57) hC (tgt := 65) (by decide) d_Sh_isSum_57 h (fun h => ?_) (fun h => ?_)
        · refine g_aload_n (pc := 65) hC (i := 0) (x := (V.2.2.1 2 0)) rfl rfl d_Sh_isSum_65 ?_
          refine g_iconst (pc := 66) hC kc_1 d_Sh_isSum_66 ?_
          obtain ⟨q67, hq67, h⟩ := Option.bind_eq_some_iff.mp h
          refine g_vi (pc := 67) hC (As := [.int 1]) (st := []) mt_Sh_failed lk_Sh_48 rfl (ob_Sh hV) (Nat.le_of_ble_eq_true rfl) ⟨Nat.le_of_ble_eq_true rfl, Nat.le_of_ble_eq_true rfl⟩ rfl d_Sh_isSum_67 (c_Sh_failed hV hq67) ?_
          exact g_zW (pc := 70) hC d_Sh_isSum_70 h
        · refine g_iconst (pc := 60) hC kc_0 d_Sh_isSum_60 ?_
          refine s_istore_n (pc := 61) hC (i := 2) rfl (by decide) d_Sh_isSum_61 (lv2 := [some (.ref (V.2.2.1 2 0)), some (.int x1), some (.int 0), some (.int x3), some (.int q21)]) rfl ?_
          refine g_goto (pc := 62) hC (tgt := 109) (by decide) d_Sh_isSum_62 ?_
          exact w_Sh_isSum_b109 hV hC k6 hk6 x1 0 x3 q21 S h
      · refine s_iinc (pc := 37) hC (i := 1) (x := x1) (v := x1 + 1) rfl (by rw [kc_1]) (by decide) d_Sh_isSum_37 (lv2 := [some (.ref (V.2.2.1 2 0)), some (.int (x1 + 1)), some (.int x2), some (.int x3), some (.int q21)]) rfl ?_
        refine g_iload_n (pc := 40) hC (i := 1) (x := (x1 + 1)) rfl rfl d_Sh_isSum_40 ?_
        refine g_bipush (pc := 41) hC kb_6 d_Sh_isSum_41 ?_
        refine g_icmp_le (pc := 43) hC (tgt := 109) (by decide) d_Sh_isSum_43 h (fun h => ?_) (fun h => ?_)
        · exact w_Sh_isSum_b109 hV hC k6 hk6 (x1 + 1) x2 x3 q21 S h
        · refine g_aload_n (pc := 46) hC (i := 0) (x := (V.2.2.1 2 0)) rfl rfl d_Sh_isSum_46 ?_
          refine g_iconst (pc := 47) hC kc_2 d_Sh_isSum_47 ?_
          obtain ⟨q48, hq48, h⟩ := Option.bind_eq_some_iff.mp h
          refine g_vi (pc := 48) hC (As := [.int 2]) (st := []) mt_Sh_failed lk_Sh_48 rfl (ob_Sh hV) (Nat.le_of_ble_eq_true rfl) ⟨Nat.le_of_ble_eq_true rfl, Nat.le_of_ble_eq_true rfl⟩ rfl d_Sh_isSum_48 (c_Sh_failed hV hq48) ?_
          exact g_zW (pc := 51) hC d_Sh_isSum_51 h
theorem w_Sh_isSum_l6 {X : CX} {V : WV} (hV : IsC V) {z : Int32 × Mem} (hC : Ck X V bc_Sh_isSum 5 "SecretWells$Shape" (some .boolean) 2 42) : ∀ (n : Nat) (x1 : Int32) (x2 : Int32) (x3 : Int32) (S : Mem), f_Sh_isSum_l6  n x1 x2 x3 S = some z → G X V 5 (QI X V z.1 z.2) 6 [some (.ref (V.2.2.1 2 0)), some (.int x1), some (.int x2), some (.int x3), none] [] S := by
  intro n
  induction n with
  | zero =>
    intro x1 x2 x3 S h
    have h : (none : Option (Int32 × Mem)) = some z := h
    cases h
  | succ n ih =>
    intro x1 x2 x3 S h
    exact w_Sh_isSum_b6 hV hC (f_Sh_isSum_l6  n) ih x1 x2 x3 S h
set_option maxRecDepth 20000 in
theorem w_Sh_isSum_b0 {X : CX} {V : WV} (hV : IsC V) {z : Int32 × Mem} (hC : Ck X V bc_Sh_isSum 5 "SecretWells$Shape" (some .boolean) 2 42) (S : Mem) (h : f_Sh_isSum_b0  S = some z) : G X V 5 (QI X V z.1 z.2) 0 [some (.ref (V.2.2.1 2 0)), none, none, none, none] [] S := by
  unfold f_Sh_isSum_b0 at h
  refine g_iconst (pc := 0) hC kc_0 d_Sh_isSum_0 ?_
  refine s_istore_n (pc := 1) hC (i := 1) rfl (by decide) d_Sh_isSum_1 (lv2 := [some (.ref (V.2.2.1 2 0)), some (.int 0), none, none, none]) rfl ?_
  refine g_iconst (pc := 2) hC kc_1 d_Sh_isSum_2 ?_
  refine s_istore_n (pc := 3) hC (i := 2) rfl (by decide) d_Sh_isSum_3 (lv2 := [some (.ref (V.2.2.1 2 0)), some (.int 0), some (.int 1), none, none]) rfl ?_
  refine g_iconst (pc := 4) hC kc_0 d_Sh_isSum_4 ?_
  refine s_istore_n (pc := 5) hC (i := 3) rfl (by decide) d_Sh_isSum_5 (lv2 := [some (.ref (V.2.2.1 2 0)), some (.int 0), some (.int 1), some (.int 0), none]) rfl ?_
  exact w_Sh_isSum_l6 hV hC 5000 0 1 0 S h
theorem c_Sh_isSum {V : WV} {l : Launch} (hV : IsC V) {S : Mem} {z : Int32 × Mem} (h : f_Sh_isSum S = some z) : CI V l y_Sh_isSum bc_Sh_isSum 5 (some .boolean) 2 42 [.ref (V.2.2.1 2 0)] S z.1 z.2 :=
  ct_i rfl (IsC.ok hV) (Nat.le_of_ble_eq_true rfl) (fun _ _ hC => w_Sh_isSum_b0 hV hC S h)
def f_Sh_isCase_b0 (S : Mem) : Option (Int32 × Mem) :=
  Option.bind (f_Sh_isTaken 139 S) (fun q4 =>
  if q4.1 = 0 then
    some (0, q4.2)
  else
    Option.bind (f_Sh_isSum q4.2) (fun q11 =>
    if q11.1 = 0 then
      some (0, q11.2)
    else
      Option.bind (f_Sh_isTaken 60 q11.2) (fun q20 =>
      if q20.1 = 0 then
        some (0, q20.2)
      else
        Option.bind (f_Sh_isSum q20.2) (fun q27 =>
        if q27.1 = 0 then
          some (0, q27.2)
        else
          Option.bind (f_Sh_isTaken 140 q27.2) (fun q37 =>
          if q37.1 = 0 then
            some (0, q37.2)
          else
            Option.bind (f_Sh_isSum q37.2) (fun q44 =>
            if q44.1 = 0 then
              some (0, q44.2)
            else
              Option.bind (f_Sh_isTaken 141 q44.2) (fun q54 =>
              if q54.1 = 0 then
                some (0, q54.2)
              else
                some (1, q54.2))))))))
def f_Sh_isCase (S : Mem) : Option (Int32 × Mem) := f_Sh_isCase_b0  S
theorem d_Sh_isCase_0 : decode bc_Sh_isCase 0 = .ok (.aload_n 0, 1) := by decide +kernel
theorem d_Sh_isCase_1 : decode bc_Sh_isCase 1 = .ok (.sipush 139, 3) := by decide +kernel
theorem d_Sh_isCase_4 : decode bc_Sh_isCase 4 = .ok (.invokevirtual 62, 3) := by decide +kernel
theorem d_Sh_isCase_7 : decode bc_Sh_isCase 7 = .ok (.ifCond .eq 57, 3) := by decide +kernel
theorem d_Sh_isCase_10 : decode bc_Sh_isCase 10 = .ok (.aload_n 0, 1) := by decide +kernel
theorem d_Sh_isCase_11 : decode bc_Sh_isCase 11 = .ok (.invokevirtual 94, 3) := by decide +kernel
theorem d_Sh_isCase_14 : decode bc_Sh_isCase 14 = .ok (.ifCond .eq 50, 3) := by decide +kernel
theorem d_Sh_isCase_17 : decode bc_Sh_isCase 17 = .ok (.aload_n 0, 1) := by decide +kernel
theorem d_Sh_isCase_18 : decode bc_Sh_isCase 18 = .ok (.bipush 60, 2) := by decide +kernel
theorem d_Sh_isCase_20 : decode bc_Sh_isCase 20 = .ok (.invokevirtual 62, 3) := by decide +kernel
theorem d_Sh_isCase_23 : decode bc_Sh_isCase 23 = .ok (.ifCond .eq 41, 3) := by decide +kernel
theorem d_Sh_isCase_26 : decode bc_Sh_isCase 26 = .ok (.aload_n 0, 1) := by decide +kernel
theorem d_Sh_isCase_27 : decode bc_Sh_isCase 27 = .ok (.invokevirtual 94, 3) := by decide +kernel
theorem d_Sh_isCase_30 : decode bc_Sh_isCase 30 = .ok (.ifCond .eq 34, 3) := by decide +kernel
theorem d_Sh_isCase_33 : decode bc_Sh_isCase 33 = .ok (.aload_n 0, 1) := by decide +kernel
theorem d_Sh_isCase_34 : decode bc_Sh_isCase 34 = .ok (.sipush 140, 3) := by decide +kernel
theorem d_Sh_isCase_37 : decode bc_Sh_isCase 37 = .ok (.invokevirtual 62, 3) := by decide +kernel
theorem d_Sh_isCase_40 : decode bc_Sh_isCase 40 = .ok (.ifCond .eq 24, 3) := by decide +kernel
theorem d_Sh_isCase_43 : decode bc_Sh_isCase 43 = .ok (.aload_n 0, 1) := by decide +kernel
theorem d_Sh_isCase_44 : decode bc_Sh_isCase 44 = .ok (.invokevirtual 94, 3) := by decide +kernel
theorem d_Sh_isCase_47 : decode bc_Sh_isCase 47 = .ok (.ifCond .eq 17, 3) := by decide +kernel
theorem d_Sh_isCase_50 : decode bc_Sh_isCase 50 = .ok (.aload_n 0, 1) := by decide +kernel
theorem d_Sh_isCase_51 : decode bc_Sh_isCase 51 = .ok (.sipush 141, 3) := by decide +kernel
theorem d_Sh_isCase_54 : decode bc_Sh_isCase 54 = .ok (.invokevirtual 62, 3) := by decide +kernel
theorem d_Sh_isCase_57 : decode bc_Sh_isCase 57 = .ok (.ifCond .eq 7, 3) := by decide +kernel
theorem d_Sh_isCase_60 : decode bc_Sh_isCase 60 = .ok (.iconst 1, 1) := by decide +kernel
theorem d_Sh_isCase_61 : decode bc_Sh_isCase 61 = .ok (.goto 4, 3) := by decide +kernel
theorem d_Sh_isCase_64 : decode bc_Sh_isCase 64 = .ok (.iconst 0, 1) := by decide +kernel
theorem d_Sh_isCase_65 : decode bc_Sh_isCase 65 = .ok (.ireturn, 1) := by decide +kernel
set_option maxRecDepth 20000 in
theorem w_Sh_isCase_b0 {X : CX} {V : WV} (hV : IsC V) {z : Int32 × Mem} (hC : Ck X V bc_Sh_isCase 1 "SecretWells$Shape" (some .boolean) 3 66) (S : Mem) (h : f_Sh_isCase_b0  S = some z) : G X V 1 (QI X V z.1 z.2) 0 [some (.ref (V.2.2.1 2 0))] [] S := by
  unfold f_Sh_isCase_b0 at h
  refine g_aload_n (pc := 0) hC (i := 0) (x := (V.2.2.1 2 0)) rfl rfl d_Sh_isCase_0 ?_
  refine g_sipush (pc := 1) hC ks_139 d_Sh_isCase_1 ?_
  obtain ⟨q4, hq4, h⟩ := Option.bind_eq_some_iff.mp h
  refine g_vi (pc := 4) hC (As := [.int 139]) (st := []) mt_Sh_isTaken lk_Sh_62 rfl (ob_Sh hV) (Nat.le_of_ble_eq_true rfl) ⟨Nat.le_of_ble_eq_true rfl, Nat.le_of_ble_eq_true rfl⟩ rfl d_Sh_isCase_4 (c_Sh_isTaken hV hq4) ?_
  refine g_if_eq (pc := 7) hC (tgt := 64) (by decide) d_Sh_isCase_7 h (fun h => ?_) (fun h => ?_)
  · refine g_iconst (pc := 64) hC kc_0 d_Sh_isCase_64 ?_
    exact g_iW (pc := 65) hC rfl d_Sh_isCase_65 h
  · refine g_aload_n (pc := 10) hC (i := 0) (x := (V.2.2.1 2 0)) rfl rfl d_Sh_isCase_10 ?_
    obtain ⟨q11, hq11, h⟩ := Option.bind_eq_some_iff.mp h
    refine g_vi (pc := 11) hC (As := []) (st := []) mt_Sh_isSum lk_Sh_94 rfl (ob_Sh hV) (Nat.le_of_ble_eq_true rfl) ⟨Nat.le_of_ble_eq_true rfl, Nat.le_of_ble_eq_true rfl⟩ rfl d_Sh_isCase_11 (c_Sh_isSum hV hq11) ?_
    refine g_if_eq (pc := 14) hC (tgt := 64) (by decide) d_Sh_isCase_14 h (fun h => ?_) (fun h => ?_)
    · refine g_iconst (pc := 64) hC kc_0 d_Sh_isCase_64 ?_
      exact g_iW (pc := 65) hC rfl d_Sh_isCase_65 h
    · refine g_aload_n (pc := 17) hC (i := 0) (x := (V.2.2.1 2 0)) rfl rfl d_Sh_isCase_17 ?_
      refine g_bipush (pc := 18) hC kb_60 d_Sh_isCase_18 ?_
      obtain ⟨q20, hq20, h⟩ := Option.bind_eq_some_iff.mp h
      refine g_vi (pc := 20) hC (As := [.int 60]) (st := []) mt_Sh_isTaken lk_Sh_62 rfl (ob_Sh hV) (Nat.le_of_ble_eq_true rfl) ⟨Nat.le_of_ble_eq_true rfl, Nat.le_of_ble_eq_true rfl⟩ rfl d_Sh_isCase_20 (c_Sh_isTaken hV hq20) ?_
      refine g_if_eq (pc := 23) hC (tgt := 64) (by decide) d_Sh_isCase_23 h (fun h => ?_) (fun h => ?_)
      · refine g_iconst (pc := 64) hC kc_0 d_Sh_isCase_64 ?_
        exact g_iW (pc := 65) hC rfl d_Sh_isCase_65 h
      · refine g_aload_n (pc := 26) hC (i := 0) (x := (V.2.2.1 2 0)) rfl rfl d_Sh_isCase_26 ?_
        obtain ⟨q27, hq27, h⟩ := Option.bind_eq_some_iff.mp h
        refine g_vi (pc := 27) hC (As := []) (st := []) mt_Sh_isSum lk_Sh_94 rfl (ob_Sh hV) (Nat.le_of_ble_eq_true rfl) ⟨Nat.le_of_ble_eq_true rfl, Nat.le_of_ble_eq_true rfl⟩ rfl d_Sh_isCase_27 (c_Sh_isSum hV hq27) ?_
        refine g_if_eq (pc := 30) hC (tgt := 64) (by decide) d_Sh_isCase_30 h (fun h => ?_) (fun h => ?_)
        · refine g_iconst (pc := 64) hC kc_0 d_Sh_isCase_64 ?_
          exact g_iW (pc := 65) hC rfl d_Sh_isCase_65 h
        · refine g_aload_n (pc := 33) hC (i := 0) (x := (V.2.2.1 2 0)) rfl rfl d_Sh_isCase_33 ?_
          refine g_sipush (pc := 34) hC ks_140 d_Sh_isCase_34 ?_
          obtain ⟨q37, hq37, h⟩ := Option.bind_eq_some_iff.mp h
          refine g_vi (pc := 37) hC (As := [.int 140]) (st := []) mt_Sh_isTaken lk_Sh_62 rfl (ob_Sh hV) (Nat.le_of_ble_eq_true rfl) ⟨Nat.le_of_ble_eq_true rfl, Nat.le_of_ble_eq_true rfl⟩ rfl d_Sh_isCase_37 (c_Sh_isTaken hV hq37) ?_
          refine g_if_eq (pc := 40) hC (tgt := 64) (by decide) d_Sh_isCase_40 h (fun h => ?_) (fun h => ?_)
          · refine g_iconst (pc := 64) hC kc_0 d_Sh_isCase_64 ?_
            exact g_iW (pc := 65) hC rfl d_Sh_isCase_65 h
          · refine g_aload_n (pc := 43) hC (i := 0) (x := (V.2.2.1 2 0)) rfl rfl d_Sh_isCase_43 ?_
            obtain ⟨q44, hq44, h⟩ := Option.bind_eq_some_iff.mp h
            refine g_vi (pc := 44) hC (As := []) (st := []) mt_Sh_isSum lk_Sh_94 rfl (ob_Sh hV) (Nat.le_of_ble_eq_true rfl) ⟨Nat.le_of_ble_eq_true rfl, Nat.le_of_ble_eq_true rfl⟩ rfl d_Sh_isCase_44 (c_Sh_isSum hV hq44) ?_
            refine g_if_eq (pc := 47) hC (tgt := 64) (by decide) d_Sh_isCase_47 h (fun h => ?_) (fun h => ?_)
            · refine g_iconst (pc := 64) hC kc_0 d_Sh_isCase_64 ?_
              exact g_iW (pc := 65) hC rfl d_Sh_isCase_65 h
            · refine g_aload_n (pc := 50) hC (i := 0) (x := (V.2.2.1 2 0)) rfl rfl d_Sh_isCase_50 ?_
              refine g_sipush (pc := 51) hC ks_141 d_Sh_isCase_51 ?_
              obtain ⟨q54, hq54, h⟩ := Option.bind_eq_some_iff.mp h
              refine g_vi (pc := 54) hC (As := [.int 141]) (st := []) mt_Sh_isTaken lk_Sh_62 rfl (ob_Sh hV) (Nat.le_of_ble_eq_true rfl) ⟨Nat.le_of_ble_eq_true rfl, Nat.le_of_ble_eq_true rfl⟩ rfl d_Sh_isCase_54 (c_Sh_isTaken hV hq54) ?_
              refine g_if_eq (pc := 57) hC (tgt := 64) (by decide) d_Sh_isCase_57 h (fun h => ?_) (fun h => ?_)
              · refine g_iconst (pc := 64) hC kc_0 d_Sh_isCase_64 ?_
                exact g_iW (pc := 65) hC rfl d_Sh_isCase_65 h
              · refine g_iconst (pc := 60) hC kc_1 d_Sh_isCase_60 ?_
                refine g_goto (pc := 61) hC (tgt := 65) (by decide) d_Sh_isCase_61 ?_
                exact g_iW (pc := 65) hC rfl d_Sh_isCase_65 h
theorem c_Sh_isCase {V : WV} {l : Launch} (hV : IsC V) {S : Mem} {z : Int32 × Mem} (h : f_Sh_isCase S = some z) : CI V l y_Sh_isCase bc_Sh_isCase 1 (some .boolean) 3 66 [.ref (V.2.2.1 2 0)] S z.1 z.2 :=
  ct_i rfl (IsC.ok hV) (Nat.le_of_ble_eq_true rfl) (fun _ _ hC => w_Sh_isCase_b0 hV hC S h)
def f_Sh_isLaw_b61 (S : Mem) : Option (Int32 × Mem) :=
  Option.bind (f_Sh_isSum S) (fun q62 =>
  if q62.1 = 0 then
    some (0, q62.2)
  else
    Option.bind (f_Sh_isTaken 59 q62.2) (fun q71 =>
    if q71.1 = 0 then
      some (0, q71.2)
    else
      some (1, q71.2)))
def f_Sh_isLaw_b13 (k13 : Int32 → Mem → Option (Int32 × Mem)) (x1 : Int32) (S : Mem) : Option (Int32 × Mem) :=
  if 4 < x1 then
    f_Sh_isLaw_b61 S
  else
    Option.bind (f_Tp_kindAt (S.1 2 3) S) (fun q26 =>
    if q26 = 139 then
      if x1 = 4 then
        Option.bind (f_Sh_failed 2 S) (fun q42 =>
        gZ q42.1 (some (q42.1, q42.2)))
      else
        Option.bind (f_Sh_isCase S) (fun q47 =>
        if q47.1 = 0 then
          some (0, q47.2)
        else
          k13 (x1 + 1) q47.2)
    else
      f_Sh_isLaw_b61 S)
def f_Sh_isLaw_l13 : Nat → Int32 → Mem → Option (Int32 × Mem)
  | 0 => fun _ _ => none
  | n + 1 => f_Sh_isLaw_b13  (f_Sh_isLaw_l13  n)
def f_Sh_isLaw_b0 (S : Mem) : Option (Int32 × Mem) :=
  Option.bind (f_Sh_isTaken 61 S) (fun q3 =>
  if q3.1 = 0 then
    some (0, q3.2)
  else
    f_Sh_isLaw_l13 5000 0 q3.2)
def f_Sh_isLaw (S : Mem) : Option (Int32 × Mem) := f_Sh_isLaw_b0  S
theorem d_Sh_isLaw_0 : decode bc_Sh_isLaw 0 = .ok (.aload_n 0, 1) := by decide +kernel
theorem d_Sh_isLaw_1 : decode bc_Sh_isLaw 1 = .ok (.bipush 61, 2) := by decide +kernel
theorem d_Sh_isLaw_3 : decode bc_Sh_isLaw 3 = .ok (.invokevirtual 62, 3) := by decide +kernel
theorem d_Sh_isLaw_6 : decode bc_Sh_isLaw 6 = .ok (.ifCond .ne 5, 3) := by decide +kernel
theorem d_Sh_isLaw_9 : decode bc_Sh_isLaw 9 = .ok (.iconst 0, 1) := by decide +kernel
theorem d_Sh_isLaw_10 : decode bc_Sh_isLaw 10 = .ok (.ireturn, 1) := by decide +kernel
theorem d_Sh_isLaw_11 : decode bc_Sh_isLaw 11 = .ok (.iconst 0, 1) := by decide +kernel
theorem d_Sh_isLaw_12 : decode bc_Sh_isLaw 12 = .ok (.istore_n 1, 1) := by decide +kernel
theorem d_Sh_isLaw_13 : decode bc_Sh_isLaw 13 = .ok (.iload_n 1, 1) := by decide +kernel
theorem d_Sh_isLaw_14 : decode bc_Sh_isLaw 14 = .ok (.iconst 4, 1) := by decide +kernel
theorem d_Sh_isLaw_15 : decode bc_Sh_isLaw 15 = .ok (.if_icmp .gt 46, 3) := by decide +kernel
theorem d_Sh_isLaw_18 : decode bc_Sh_isLaw 18 = .ok (.aload_n 0, 1) := by decide +kernel
theorem d_Sh_isLaw_19 : decode bc_Sh_isLaw 19 = .ok (.getfield 25, 3) := by decide +kernel
theorem d_Sh_isLaw_22 : decode bc_Sh_isLaw 22 = .ok (.aload_n 0, 1) := by decide +kernel
theorem d_Sh_isLaw_23 : decode bc_Sh_isLaw 23 = .ok (.getfield 18, 3) := by decide +kernel
theorem d_Sh_isLaw_26 : decode bc_Sh_isLaw 26 = .ok (.invokevirtual 35, 3) := by decide +kernel
theorem d_Sh_isLaw_29 : decode bc_Sh_isLaw 29 = .ok (.sipush 139, 3) := by decide +kernel
theorem d_Sh_isLaw_32 : decode bc_Sh_isLaw 32 = .ok (.if_icmp .ne 29, 3) := by decide +kernel
theorem d_Sh_isLaw_35 : decode bc_Sh_isLaw 35 = .ok (.iload_n 1, 1) := by decide +kernel
theorem d_Sh_isLaw_36 : decode bc_Sh_isLaw 36 = .ok (.iconst 4, 1) := by decide +kernel
theorem d_Sh_isLaw_37 : decode bc_Sh_isLaw 37 = .ok (.if_icmp .ne 9, 3) := by decide +kernel
theorem d_Sh_isLaw_40 : decode bc_Sh_isLaw 40 = .ok (.aload_n 0, 1) := by decide +kernel
theorem d_Sh_isLaw_41 : decode bc_Sh_isLaw 41 = .ok (.iconst 2, 1) := by decide +kernel
theorem d_Sh_isLaw_42 : decode bc_Sh_isLaw 42 = .ok (.invokevirtual 48, 3) := by decide +kernel
theorem d_Sh_isLaw_45 : decode bc_Sh_isLaw 45 = .ok (.ireturn, 1) := by decide +kernel
theorem d_Sh_isLaw_46 : decode bc_Sh_isLaw 46 = .ok (.aload_n 0, 1) := by decide +kernel
theorem d_Sh_isLaw_47 : decode bc_Sh_isLaw 47 = .ok (.invokevirtual 91, 3) := by decide +kernel
theorem d_Sh_isLaw_50 : decode bc_Sh_isLaw 50 = .ok (.ifCond .ne 5, 3) := by decide +kernel
theorem d_Sh_isLaw_53 : decode bc_Sh_isLaw 53 = .ok (.iconst 0, 1) := by decide +kernel
theorem d_Sh_isLaw_54 : decode bc_Sh_isLaw 54 = .ok (.ireturn, 1) := by decide +kernel
theorem d_Sh_isLaw_55 : decode bc_Sh_isLaw 55 = .ok (.iinc 1 1, 3) := by decide +kernel
theorem d_Sh_isLaw_58 : decode bc_Sh_isLaw 58 = .ok (.goto (-45), 3) := by decide +kernel
theorem d_Sh_isLaw_61 : decode bc_Sh_isLaw 61 = .ok (.aload_n 0, 1) := by decide +kernel
theorem d_Sh_isLaw_62 : decode bc_Sh_isLaw 62 = .ok (.invokevirtual 94, 3) := by decide +kernel
theorem d_Sh_isLaw_65 : decode bc_Sh_isLaw 65 = .ok (.ifCond .eq 16, 3) := by decide +kernel
theorem d_Sh_isLaw_68 : decode bc_Sh_isLaw 68 = .ok (.aload_n 0, 1) := by decide +kernel
theorem d_Sh_isLaw_69 : decode bc_Sh_isLaw 69 = .ok (.bipush 59, 2) := by decide +kernel
theorem d_Sh_isLaw_71 : decode bc_Sh_isLaw 71 = .ok (.invokevirtual 62, 3) := by decide +kernel
theorem d_Sh_isLaw_74 : decode bc_Sh_isLaw 74 = .ok (.ifCond .eq 7, 3) := by decide +kernel
theorem d_Sh_isLaw_77 : decode bc_Sh_isLaw 77 = .ok (.iconst 1, 1) := by decide +kernel
theorem d_Sh_isLaw_78 : decode bc_Sh_isLaw 78 = .ok (.goto 4, 3) := by decide +kernel
theorem d_Sh_isLaw_81 : decode bc_Sh_isLaw 81 = .ok (.iconst 0, 1) := by decide +kernel
theorem d_Sh_isLaw_82 : decode bc_Sh_isLaw 82 = .ok (.ireturn, 1) := by decide +kernel
set_option maxRecDepth 20000 in
theorem w_Sh_isLaw_b61 {X : CX} {V : WV} (hV : IsC V) {z : Int32 × Mem} (hC : Ck X V bc_Sh_isLaw 2 "SecretWells$Shape" (some .boolean) 4 86) (S : Mem) (h : f_Sh_isLaw_b61  S = some z) : G X V 2 (QI X V z.1 z.2) 61 [some (.ref (V.2.2.1 2 0)), none] [] S := by
  unfold f_Sh_isLaw_b61 at h
  refine g_aload_n (pc := 61) hC (i := 0) (x := (V.2.2.1 2 0)) rfl rfl d_Sh_isLaw_61 ?_
  obtain ⟨q62, hq62, h⟩ := Option.bind_eq_some_iff.mp h
  refine g_vi (pc := 62) hC (As := []) (st := []) mt_Sh_isSum lk_Sh_94 rfl (ob_Sh hV) (Nat.le_of_ble_eq_true rfl) ⟨Nat.le_of_ble_eq_true rfl, Nat.le_of_ble_eq_true rfl⟩ rfl d_Sh_isLaw_62 (c_Sh_isSum hV hq62) ?_
  refine g_if_eq (pc := 65) hC (tgt := 81) (by decide) d_Sh_isLaw_65 h (fun h => ?_) (fun h => ?_)
  · refine g_iconst (pc := 81) hC kc_0 d_Sh_isLaw_81 ?_
    exact g_iW (pc := 82) hC rfl d_Sh_isLaw_82 h
  · refine g_aload_n (pc := 68) hC (i := 0) (x := (V.2.2.1 2 0)) rfl rfl d_Sh_isLaw_68 ?_
    refine g_bipush (pc := 69) hC kb_59 d_Sh_isLaw_69 ?_
    obtain ⟨q71, hq71, h⟩ := Option.bind_eq_some_iff.mp h
    refine g_vi (pc := 71) hC (As := [.int 59]) (st := []) mt_Sh_isTaken lk_Sh_62 rfl (ob_Sh hV) (Nat.le_of_ble_eq_true rfl) ⟨Nat.le_of_ble_eq_true rfl, Nat.le_of_ble_eq_true rfl⟩ rfl d_Sh_isLaw_71 (c_Sh_isTaken hV hq71) ?_
    refine g_if_eq (pc := 74) hC (tgt := 81) (by decide) d_Sh_isLaw_74 h (fun h => ?_) (fun h => ?_)
    · refine g_iconst (pc := 81) hC kc_0 d_Sh_isLaw_81 ?_
      exact g_iW (pc := 82) hC rfl d_Sh_isLaw_82 h
    · refine g_iconst (pc := 77) hC kc_1 d_Sh_isLaw_77 ?_
      refine g_goto (pc := 78) hC (tgt := 82) (by decide) d_Sh_isLaw_78 ?_
      exact g_iW (pc := 82) hC rfl d_Sh_isLaw_82 h
set_option maxRecDepth 20000 in
theorem w_Sh_isLaw_b13 {X : CX} {V : WV} (hV : IsC V) {z : Int32 × Mem} (hC : Ck X V bc_Sh_isLaw 2 "SecretWells$Shape" (some .boolean) 4 86) (k13 : Int32 → Mem → Option (Int32 × Mem)) (hk13 : ∀ (x1 : Int32) (S : Mem), k13 x1 S = some z → G X V 2 (QI X V z.1 z.2) 13 [some (.ref (V.2.2.1 2 0)), some (.int x1)] [] S) (x1 : Int32) (S : Mem) (h : f_Sh_isLaw_b13  k13 x1 S = some z) : G X V 2 (QI X V z.1 z.2) 13 [some (.ref (V.2.2.1 2 0)), some (.int x1)] [] S := by
  unfold f_Sh_isLaw_b13 at h
  refine g_iload_n (pc := 13) hC (i := 1) (x := x1) rfl rfl d_Sh_isLaw_13 ?_
  refine g_iconst (pc := 14) hC kc_4 d_Sh_isLaw_14 ?_
  refine g_icmp_gt (pc := 15) hC (tgt := 61) (by decide) d_Sh_isLaw_15 h (fun h => ?_) (fun h => ?_)
  · refine g_le (lv2 := [some (.ref (V.2.2.1 2 0)), none]) (⟨rfl, trivial⟩) ?_
    exact w_Sh_isLaw_b61 hV hC S h
  · refine g_aload_n (pc := 18) hC (i := 0) (x := (V.2.2.1 2 0)) rfl rfl d_Sh_isLaw_18 ?_
    refine g_getC (pc := 19) hC (j := 1) fo_Sh_25 (ob_Sh hV) rfl d_Sh_isLaw_19 ?_
    refine g_aload_n (pc := 22) hC (i := 0) (x := (V.2.2.1 2 0)) rfl rfl d_Sh_isLaw_22 ?_
    refine g_getI (pc := 23) hC fo_Sh_18 (ob_Sh hV) rfl d_Sh_isLaw_23 ?_
    obtain ⟨q26, hq26, h⟩ := Option.bind_eq_some_iff.mp h
    refine g_vi (pc := 26) hC (As := [.int (S.1 2 3)]) (st := []) mt_Tp_kindAt lk_Sh_35 rfl (ob_Tp hV) (Nat.le_of_ble_eq_true rfl) ⟨Nat.le_of_ble_eq_true rfl, Nat.le_of_ble_eq_true rfl⟩ rfl d_Sh_isLaw_26 (c_Tp_kindAt hV hq26) ?_
    refine g_sipush (pc := 29) hC ks_139 d_Sh_isLaw_29 ?_
    refine g_icmp_ne (pc := 32) hC (tgt := 61) (by decide) d_Sh_isLaw_32 h (fun h => ?_) (fun h => ?_)
    · refine g_le (lv2 := [some (.ref (V.2.2.1 2 0)), none]) (⟨rfl, trivial⟩) ?_
      exact w_Sh_isLaw_b61 hV hC S h
    · refine g_iload_n (pc := 35) hC (i := 1) (x := x1) rfl rfl d_Sh_isLaw_35 ?_
      refine g_iconst (pc := 36) hC kc_4 d_Sh_isLaw_36 ?_
      refine g_icmp_ne (pc := 37) hC (tgt := 46) (by decide) d_Sh_isLaw_37 h (fun h => ?_) (fun h => ?_)
      · refine g_aload_n (pc := 46) hC (i := 0) (x := (V.2.2.1 2 0)) rfl rfl d_Sh_isLaw_46 ?_
        obtain ⟨q47, hq47, h⟩ := Option.bind_eq_some_iff.mp h
        refine g_vi (pc := 47) hC (As := []) (st := []) mt_Sh_isCase lk_Sh_91 rfl (ob_Sh hV) (Nat.le_of_ble_eq_true rfl) ⟨Nat.le_of_ble_eq_true rfl, Nat.le_of_ble_eq_true rfl⟩ rfl d_Sh_isLaw_47 (c_Sh_isCase hV hq47) ?_
        refine g_if_ne (pc := 50) hC (tgt := 55) (by decide) d_Sh_isLaw_50 h (fun h => ?_) (fun h => ?_)
        · refine s_iinc (pc := 55) hC (i := 1) (x := x1) (v := x1 + 1) rfl (by rw [kc_1]) (by decide) d_Sh_isLaw_55 (lv2 := [some (.ref (V.2.2.1 2 0)), some (.int (x1 + 1))]) rfl ?_
          refine g_goto (pc := 58) hC (tgt := 13) (by decide) d_Sh_isLaw_58 ?_
          exact hk13 (x1 + 1) q47.2 h
        · refine g_iconst (pc := 53) hC kc_0 d_Sh_isLaw_53 ?_
          exact g_iW (pc := 54) hC rfl d_Sh_isLaw_54 h
      · refine g_aload_n (pc := 40) hC (i := 0) (x := (V.2.2.1 2 0)) rfl rfl d_Sh_isLaw_40 ?_
        refine g_iconst (pc := 41) hC kc_2 d_Sh_isLaw_41 ?_
        obtain ⟨q42, hq42, h⟩ := Option.bind_eq_some_iff.mp h
        refine g_vi (pc := 42) hC (As := [.int 2]) (st := []) mt_Sh_failed lk_Sh_48 rfl (ob_Sh hV) (Nat.le_of_ble_eq_true rfl) ⟨Nat.le_of_ble_eq_true rfl, Nat.le_of_ble_eq_true rfl⟩ rfl d_Sh_isLaw_42 (c_Sh_failed hV hq42) ?_
        exact g_zW (pc := 45) hC d_Sh_isLaw_45 h
theorem w_Sh_isLaw_l13 {X : CX} {V : WV} (hV : IsC V) {z : Int32 × Mem} (hC : Ck X V bc_Sh_isLaw 2 "SecretWells$Shape" (some .boolean) 4 86) : ∀ (n : Nat) (x1 : Int32) (S : Mem), f_Sh_isLaw_l13  n x1 S = some z → G X V 2 (QI X V z.1 z.2) 13 [some (.ref (V.2.2.1 2 0)), some (.int x1)] [] S := by
  intro n
  induction n with
  | zero =>
    intro x1 S h
    have h : (none : Option (Int32 × Mem)) = some z := h
    cases h
  | succ n ih =>
    intro x1 S h
    exact w_Sh_isLaw_b13 hV hC (f_Sh_isLaw_l13  n) ih x1 S h
set_option maxRecDepth 20000 in
theorem w_Sh_isLaw_b0 {X : CX} {V : WV} (hV : IsC V) {z : Int32 × Mem} (hC : Ck X V bc_Sh_isLaw 2 "SecretWells$Shape" (some .boolean) 4 86) (S : Mem) (h : f_Sh_isLaw_b0  S = some z) : G X V 2 (QI X V z.1 z.2) 0 [some (.ref (V.2.2.1 2 0)), none] [] S := by
  unfold f_Sh_isLaw_b0 at h
  refine g_aload_n (pc := 0) hC (i := 0) (x := (V.2.2.1 2 0)) rfl rfl d_Sh_isLaw_0 ?_
  refine g_bipush (pc := 1) hC kb_61 d_Sh_isLaw_1 ?_
  obtain ⟨q3, hq3, h⟩ := Option.bind_eq_some_iff.mp h
  refine g_vi (pc := 3) hC (As := [.int 61]) (st := []) mt_Sh_isTaken lk_Sh_62 rfl (ob_Sh hV) (Nat.le_of_ble_eq_true rfl) ⟨Nat.le_of_ble_eq_true rfl, Nat.le_of_ble_eq_true rfl⟩ rfl d_Sh_isLaw_3 (c_Sh_isTaken hV hq3) ?_
  refine g_if_ne (pc := 6) hC (tgt := 11) (by decide) d_Sh_isLaw_6 h (fun h => ?_) (fun h => ?_)
  · refine g_iconst (pc := 11) hC kc_0 d_Sh_isLaw_11 ?_
    refine s_istore_n (pc := 12) hC (i := 1) rfl (by decide) d_Sh_isLaw_12 (lv2 := [some (.ref (V.2.2.1 2 0)), some (.int 0)]) rfl ?_
    exact w_Sh_isLaw_l13 hV hC 5000 0 q3.2 h
  · refine g_iconst (pc := 9) hC kc_0 d_Sh_isLaw_9 ?_
    exact g_iW (pc := 10) hC rfl d_Sh_isLaw_10 h
theorem c_Sh_isLaw {V : WV} {l : Launch} (hV : IsC V) {S : Mem} {z : Int32 × Mem} (h : f_Sh_isLaw S = some z) : CI V l y_Sh_isLaw bc_Sh_isLaw 2 (some .boolean) 4 86 [.ref (V.2.2.1 2 0)] S z.1 z.2 :=
  ct_i rfl (IsC.ok hV) (Nat.le_of_ble_eq_true rfl) (fun _ _ hC => w_Sh_isLaw_b0 hV hC S h)
def f_Sh_isTell_b26 (S : Mem) : Option (Int32 × Mem) :=
  Option.bind (f_Sh_failed 1 S) (fun q28 =>
  gZ q28.1 (some (q28.1, q28.2)))
def f_Sh_isTell_b0 (S : Mem) : Option (Int32 × Mem) :=
  Option.bind (f_Tp_kindAt (S.1 2 3) S) (fun q8 =>
  if q8 < 128 then
    f_Sh_isTell_b26 S
  else
    if q8 ≤ 137 then
      Option.bind (f_Sh_hasRoom q8 S) (fun q34 =>
      if q34.1 = 0 then
        some (0, q34.2)
      else
        Option.bind (f_Sh_isTaken q8 q34.2) (fun q42 =>
        if q42.1 = 0 then
          some (0, q42.2)
        else
          if q8 = 128 then
            Option.bind (f_Sh_areTaken 2 q42.2) (fun q95 =>
            gZ q95.1 (some (q95.1, q95.2)))
          else if q8 = 129 then
            Option.bind (f_Sh_areTaken 3 q42.2) (fun q102 =>
            gZ q102.1 (some (q102.1, q102.2)))
          else if q8 = 130 then
            Option.bind (f_Sh_isRestOfSecret q42.2) (fun q107 =>
            gZ q107.1 (some (q107.1, q107.2)))
          else if q8 = 131 then
            Option.bind (f_Sh_areTaken 4 q42.2) (fun q114 =>
            gZ q114.1 (some (q114.1, q114.2)))
          else if q8 = 132 then
            Option.bind (f_Sh_isLaw q42.2) (fun q119 =>
            gZ q119.1 (some (q119.1, q119.2)))
          else if q8 = 133 then
            Option.bind (f_Sh_isLaw q42.2) (fun q119 =>
            gZ q119.1 (some (q119.1, q119.2)))
          else if q8 = 134 then
            Option.bind (f_Sh_isLaw q42.2) (fun q119 =>
            gZ q119.1 (some (q119.1, q119.2)))
          else 
            Option.bind (f_Sh_areTaken 5 q42.2) (fun q126 =>
            gZ q126.1 (some (q126.1, q126.2)))))
    else
      f_Sh_isTell_b26 S)
def f_Sh_isTell (S : Mem) : Option (Int32 × Mem) := f_Sh_isTell_b0  S
theorem d_Sh_isTell_0 : decode bc_Sh_isTell 0 = .ok (.aload_n 0, 1) := by decide +kernel
theorem d_Sh_isTell_1 : decode bc_Sh_isTell 1 = .ok (.getfield 25, 3) := by decide +kernel
theorem d_Sh_isTell_4 : decode bc_Sh_isTell 4 = .ok (.aload_n 0, 1) := by decide +kernel
theorem d_Sh_isTell_5 : decode bc_Sh_isTell 5 = .ok (.getfield 18, 3) := by decide +kernel
theorem d_Sh_isTell_8 : decode bc_Sh_isTell 8 = .ok (.invokevirtual 35, 3) := by decide +kernel
theorem d_Sh_isTell_11 : decode bc_Sh_isTell 11 = .ok (.istore_n 1, 1) := by decide +kernel
theorem d_Sh_isTell_12 : decode bc_Sh_isTell 12 = .ok (.iload_n 1, 1) := by decide +kernel
theorem d_Sh_isTell_13 : decode bc_Sh_isTell 13 = .ok (.sipush 128, 3) := by decide +kernel
theorem d_Sh_isTell_16 : decode bc_Sh_isTell 16 = .ok (.if_icmp .lt 10, 3) := by decide +kernel
theorem d_Sh_isTell_19 : decode bc_Sh_isTell 19 = .ok (.iload_n 1, 1) := by decide +kernel
theorem d_Sh_isTell_20 : decode bc_Sh_isTell 20 = .ok (.sipush 137, 3) := by decide +kernel
theorem d_Sh_isTell_23 : decode bc_Sh_isTell 23 = .ok (.if_icmp .le 9, 3) := by decide +kernel
theorem d_Sh_isTell_26 : decode bc_Sh_isTell 26 = .ok (.aload_n 0, 1) := by decide +kernel
theorem d_Sh_isTell_27 : decode bc_Sh_isTell 27 = .ok (.iconst 1, 1) := by decide +kernel
theorem d_Sh_isTell_28 : decode bc_Sh_isTell 28 = .ok (.invokevirtual 48, 3) := by decide +kernel
theorem d_Sh_isTell_31 : decode bc_Sh_isTell 31 = .ok (.ireturn, 1) := by decide +kernel
theorem d_Sh_isTell_32 : decode bc_Sh_isTell 32 = .ok (.aload_n 0, 1) := by decide +kernel
theorem d_Sh_isTell_33 : decode bc_Sh_isTell 33 = .ok (.iload_n 1, 1) := by decide +kernel
theorem d_Sh_isTell_34 : decode bc_Sh_isTell 34 = .ok (.invokevirtual 65, 3) := by decide +kernel
theorem d_Sh_isTell_37 : decode bc_Sh_isTell 37 = .ok (.ifCond .eq 11, 3) := by decide +kernel
theorem d_Sh_isTell_40 : decode bc_Sh_isTell 40 = .ok (.aload_n 0, 1) := by decide +kernel
theorem d_Sh_isTell_41 : decode bc_Sh_isTell 41 = .ok (.iload_n 1, 1) := by decide +kernel
theorem d_Sh_isTell_42 : decode bc_Sh_isTell 42 = .ok (.invokevirtual 62, 3) := by decide +kernel
theorem d_Sh_isTell_45 : decode bc_Sh_isTell 45 = .ok (.ifCond .ne 5, 3) := by decide +kernel
theorem d_Sh_isTell_48 : decode bc_Sh_isTell 48 = .ok (.iconst 0, 1) := by decide +kernel
theorem d_Sh_isTell_49 : decode bc_Sh_isTell 49 = .ok (.ireturn, 1) := by decide +kernel
theorem d_Sh_isTell_50 : decode bc_Sh_isTell 50 = .ok (.iload_n 1, 1) := by decide +kernel
theorem d_Sh_isTell_51 : decode bc_Sh_isTell 51 = .ok (.tableswitch 72 128 134 #[41, 48, 55, 60, 67, 67, 67], 41) := by decide +kernel
theorem d_Sh_isTell_92 : decode bc_Sh_isTell 92 = .ok (.aload_n 0, 1) := by decide +kernel
theorem d_Sh_isTell_93 : decode bc_Sh_isTell 93 = .ok (.ldc 68, 2) := by decide +kernel
theorem d_Sh_isTell_95 : decode bc_Sh_isTell 95 = .ok (.invokevirtual 70, 3) := by decide +kernel
theorem d_Sh_isTell_98 : decode bc_Sh_isTell 98 = .ok (.ireturn, 1) := by decide +kernel
theorem d_Sh_isTell_99 : decode bc_Sh_isTell 99 = .ok (.aload_n 0, 1) := by decide +kernel
theorem d_Sh_isTell_100 : decode bc_Sh_isTell 100 = .ok (.ldc 74, 2) := by decide +kernel
theorem d_Sh_isTell_102 : decode bc_Sh_isTell 102 = .ok (.invokevirtual 70, 3) := by decide +kernel
theorem d_Sh_isTell_105 : decode bc_Sh_isTell 105 = .ok (.ireturn, 1) := by decide +kernel
theorem d_Sh_isTell_106 : decode bc_Sh_isTell 106 = .ok (.aload_n 0, 1) := by decide +kernel
theorem d_Sh_isTell_107 : decode bc_Sh_isTell 107 = .ok (.invokevirtual 76, 3) := by decide +kernel
theorem d_Sh_isTell_110 : decode bc_Sh_isTell 110 = .ok (.ireturn, 1) := by decide +kernel
theorem d_Sh_isTell_111 : decode bc_Sh_isTell 111 = .ok (.aload_n 0, 1) := by decide +kernel
theorem d_Sh_isTell_112 : decode bc_Sh_isTell 112 = .ok (.ldc 79, 2) := by decide +kernel
theorem d_Sh_isTell_114 : decode bc_Sh_isTell 114 = .ok (.invokevirtual 70, 3) := by decide +kernel
theorem d_Sh_isTell_117 : decode bc_Sh_isTell 117 = .ok (.ireturn, 1) := by decide +kernel
theorem d_Sh_isTell_118 : decode bc_Sh_isTell 118 = .ok (.aload_n 0, 1) := by decide +kernel
theorem d_Sh_isTell_119 : decode bc_Sh_isTell 119 = .ok (.invokevirtual 81, 3) := by decide +kernel
theorem d_Sh_isTell_122 : decode bc_Sh_isTell 122 = .ok (.ireturn, 1) := by decide +kernel
theorem d_Sh_isTell_123 : decode bc_Sh_isTell 123 = .ok (.aload_n 0, 1) := by decide +kernel
theorem d_Sh_isTell_124 : decode bc_Sh_isTell 124 = .ok (.ldc 84, 2) := by decide +kernel
theorem d_Sh_isTell_126 : decode bc_Sh_isTell 126 = .ok (.invokevirtual 70, 3) := by decide +kernel
theorem d_Sh_isTell_129 : decode bc_Sh_isTell 129 = .ok (.ireturn, 1) := by decide +kernel
set_option maxRecDepth 20000 in
theorem w_Sh_isTell_b26 {X : CX} {V : WV} (hV : IsC V) {z : Int32 × Mem} (hC : Ck X V bc_Sh_isTell 2 "SecretWells$Shape" (some .boolean) 6 128) (S : Mem) (h : f_Sh_isTell_b26  S = some z) : G X V 2 (QI X V z.1 z.2) 26 [some (.ref (V.2.2.1 2 0)), none] [] S := by
  unfold f_Sh_isTell_b26 at h
  refine g_aload_n (pc := 26) hC (i := 0) (x := (V.2.2.1 2 0)) rfl rfl d_Sh_isTell_26 ?_
  refine g_iconst (pc := 27) hC kc_1 d_Sh_isTell_27 ?_
  obtain ⟨q28, hq28, h⟩ := Option.bind_eq_some_iff.mp h
  refine g_vi (pc := 28) hC (As := [.int 1]) (st := []) mt_Sh_failed lk_Sh_48 rfl (ob_Sh hV) (Nat.le_of_ble_eq_true rfl) ⟨Nat.le_of_ble_eq_true rfl, Nat.le_of_ble_eq_true rfl⟩ rfl d_Sh_isTell_28 (c_Sh_failed hV hq28) ?_
  exact g_zW (pc := 31) hC d_Sh_isTell_31 h
set_option maxRecDepth 20000 in
theorem w_Sh_isTell_b0 {X : CX} {V : WV} (hV : IsC V) {z : Int32 × Mem} (hC : Ck X V bc_Sh_isTell 2 "SecretWells$Shape" (some .boolean) 6 128) (S : Mem) (h : f_Sh_isTell_b0  S = some z) : G X V 2 (QI X V z.1 z.2) 0 [some (.ref (V.2.2.1 2 0)), none] [] S := by
  unfold f_Sh_isTell_b0 at h
  refine g_aload_n (pc := 0) hC (i := 0) (x := (V.2.2.1 2 0)) rfl rfl d_Sh_isTell_0 ?_
  refine g_getC (pc := 1) hC (j := 1) fo_Sh_25 (ob_Sh hV) rfl d_Sh_isTell_1 ?_
  refine g_aload_n (pc := 4) hC (i := 0) (x := (V.2.2.1 2 0)) rfl rfl d_Sh_isTell_4 ?_
  refine g_getI (pc := 5) hC fo_Sh_18 (ob_Sh hV) rfl d_Sh_isTell_5 ?_
  obtain ⟨q8, hq8, h⟩ := Option.bind_eq_some_iff.mp h
  refine g_vi (pc := 8) hC (As := [.int (S.1 2 3)]) (st := []) mt_Tp_kindAt lk_Sh_35 rfl (ob_Tp hV) (Nat.le_of_ble_eq_true rfl) ⟨Nat.le_of_ble_eq_true rfl, Nat.le_of_ble_eq_true rfl⟩ rfl d_Sh_isTell_8 (c_Tp_kindAt hV hq8) ?_
  refine s_istore_n (pc := 11) hC (i := 1) rfl (by decide) d_Sh_isTell_11 (lv2 := [some (.ref (V.2.2.1 2 0)), some (.int q8)]) rfl ?_
  refine g_iload_n (pc := 12) hC (i := 1) (x := q8) rfl rfl d_Sh_isTell_12 ?_
  refine g_sipush (pc := 13) hC ks_128 d_Sh_isTell_13 ?_
  refine g_icmp_lt (pc := 16) hC (tgt := 26) (by decide) d_Sh_isTell_16 h (fun h => ?_) (fun h => ?_)
  · refine g_le (lv2 := [some (.ref (V.2.2.1 2 0)), none]) (⟨rfl, trivial⟩) ?_
    exact w_Sh_isTell_b26 hV hC S h
  · refine g_iload_n (pc := 19) hC (i := 1) (x := q8) rfl rfl d_Sh_isTell_19 ?_
    refine g_sipush (pc := 20) hC ks_137 d_Sh_isTell_20 ?_
    refine g_icmp_le (pc := 23) hC (tgt := 32) (by decide) d_Sh_isTell_23 h (fun h => ?_) (fun h => ?_)
    · refine g_aload_n (pc := 32) hC (i := 0) (x := (V.2.2.1 2 0)) rfl rfl d_Sh_isTell_32 ?_
      refine g_iload_n (pc := 33) hC (i := 1) (x := q8) rfl rfl d_Sh_isTell_33 ?_
      obtain ⟨q34, hq34, h⟩ := Option.bind_eq_some_iff.mp h
      refine g_vi (pc := 34) hC (As := [.int q8]) (st := []) mt_Sh_hasRoom lk_Sh_65 rfl (ob_Sh hV) (Nat.le_of_ble_eq_true rfl) ⟨Nat.le_of_ble_eq_true rfl, Nat.le_of_ble_eq_true rfl⟩ rfl d_Sh_isTell_34 (c_Sh_hasRoom hV hq34) ?_
      refine g_if_eq (pc := 37) hC (tgt := 48) (by decide) d_Sh_isTell_37 h (fun h => ?_) (fun h => ?_)
      · refine g_iconst (pc := 48) hC kc_0 d_Sh_isTell_48 ?_
        exact g_iW (pc := 49) hC rfl d_Sh_isTell_49 h
      · refine g_aload_n (pc := 40) hC (i := 0) (x := (V.2.2.1 2 0)) rfl rfl d_Sh_isTell_40 ?_
        refine g_iload_n (pc := 41) hC (i := 1) (x := q8) rfl rfl d_Sh_isTell_41 ?_
        obtain ⟨q42, hq42, h⟩ := Option.bind_eq_some_iff.mp h
        refine g_vi (pc := 42) hC (As := [.int q8]) (st := []) mt_Sh_isTaken lk_Sh_62 rfl (ob_Sh hV) (Nat.le_of_ble_eq_true rfl) ⟨Nat.le_of_ble_eq_true rfl, Nat.le_of_ble_eq_true rfl⟩ rfl d_Sh_isTell_42 (c_Sh_isTaken hV hq42) ?_
        refine g_if_ne (pc := 45) hC (tgt := 50) (by decide) d_Sh_isTell_45 h (fun h => ?_) (fun h => ?_)
        · refine g_iload_n (pc := 50) hC (i := 1) (x := q8) rfl rfl d_Sh_isTell_50 ?_
          by_cases hs51_128 : q8 = 128
          · rw [if_pos hs51_128] at h
            refine g_table (pc := 51) hC (tgt := 92) d_Sh_isTell_51 rfl (by rw [hs51_128]; decide) ?_
            refine g_aload_n (pc := 92) hC (i := 0) (x := (V.2.2.1 2 0)) rfl rfl d_Sh_isTell_92 ?_
            refine g_ldcS (pc := 93) hV.2.2 hC 2 (by decide) rfl rfl d_Sh_isTell_93 ?_
            obtain ⟨q95, hq95, h⟩ := Option.bind_eq_some_iff.mp h
            refine g_vi (pc := 95) hC (As := [.ref (V.2.1.2.2.1 2)]) (st := []) mt_Sh_areTaken lk_Sh_70 rfl (ob_Sh hV) (Nat.le_of_ble_eq_true rfl) ⟨Nat.le_of_ble_eq_true rfl, Nat.le_of_ble_eq_true rfl⟩ rfl d_Sh_isTell_95 (c_Sh_areTaken hV (by decide) hq95) ?_
            exact g_zW (pc := 98) hC d_Sh_isTell_98 h
          rw [if_neg hs51_128] at h
          by_cases hs51_129 : q8 = 129
          · rw [if_pos hs51_129] at h
            refine g_table (pc := 51) hC (tgt := 99) d_Sh_isTell_51 rfl (by rw [hs51_129]; decide) ?_
            refine g_aload_n (pc := 99) hC (i := 0) (x := (V.2.2.1 2 0)) rfl rfl d_Sh_isTell_99 ?_
            refine g_ldcS (pc := 100) hV.2.2 hC 3 (by decide) rfl rfl d_Sh_isTell_100 ?_
            obtain ⟨q102, hq102, h⟩ := Option.bind_eq_some_iff.mp h
            refine g_vi (pc := 102) hC (As := [.ref (V.2.1.2.2.1 3)]) (st := []) mt_Sh_areTaken lk_Sh_70 rfl (ob_Sh hV) (Nat.le_of_ble_eq_true rfl) ⟨Nat.le_of_ble_eq_true rfl, Nat.le_of_ble_eq_true rfl⟩ rfl d_Sh_isTell_102 (c_Sh_areTaken hV (by decide) hq102) ?_
            exact g_zW (pc := 105) hC d_Sh_isTell_105 h
          rw [if_neg hs51_129] at h
          by_cases hs51_130 : q8 = 130
          · rw [if_pos hs51_130] at h
            refine g_table (pc := 51) hC (tgt := 106) d_Sh_isTell_51 rfl (by rw [hs51_130]; decide) ?_
            refine g_aload_n (pc := 106) hC (i := 0) (x := (V.2.2.1 2 0)) rfl rfl d_Sh_isTell_106 ?_
            obtain ⟨q107, hq107, h⟩ := Option.bind_eq_some_iff.mp h
            refine g_vi (pc := 107) hC (As := []) (st := []) mt_Sh_isRestOfSecret lk_Sh_76 rfl (ob_Sh hV) (Nat.le_of_ble_eq_true rfl) ⟨Nat.le_of_ble_eq_true rfl, Nat.le_of_ble_eq_true rfl⟩ rfl d_Sh_isTell_107 (c_Sh_isRestOfSecret hV hq107) ?_
            exact g_zW (pc := 110) hC d_Sh_isTell_110 h
          rw [if_neg hs51_130] at h
          by_cases hs51_131 : q8 = 131
          · rw [if_pos hs51_131] at h
            refine g_table (pc := 51) hC (tgt := 111) d_Sh_isTell_51 rfl (by rw [hs51_131]; decide) ?_
            refine g_aload_n (pc := 111) hC (i := 0) (x := (V.2.2.1 2 0)) rfl rfl d_Sh_isTell_111 ?_
            refine g_ldcS (pc := 112) hV.2.2 hC 4 (by decide) rfl rfl d_Sh_isTell_112 ?_
            obtain ⟨q114, hq114, h⟩ := Option.bind_eq_some_iff.mp h
            refine g_vi (pc := 114) hC (As := [.ref (V.2.1.2.2.1 4)]) (st := []) mt_Sh_areTaken lk_Sh_70 rfl (ob_Sh hV) (Nat.le_of_ble_eq_true rfl) ⟨Nat.le_of_ble_eq_true rfl, Nat.le_of_ble_eq_true rfl⟩ rfl d_Sh_isTell_114 (c_Sh_areTaken hV (by decide) hq114) ?_
            exact g_zW (pc := 117) hC d_Sh_isTell_117 h
          rw [if_neg hs51_131] at h
          by_cases hs51_132 : q8 = 132
          · rw [if_pos hs51_132] at h
            refine g_table (pc := 51) hC (tgt := 118) d_Sh_isTell_51 rfl (by rw [hs51_132]; decide) ?_
            refine g_aload_n (pc := 118) hC (i := 0) (x := (V.2.2.1 2 0)) rfl rfl d_Sh_isTell_118 ?_
            obtain ⟨q119, hq119, h⟩ := Option.bind_eq_some_iff.mp h
            refine g_vi (pc := 119) hC (As := []) (st := []) mt_Sh_isLaw lk_Sh_81 rfl (ob_Sh hV) (Nat.le_of_ble_eq_true rfl) ⟨Nat.le_of_ble_eq_true rfl, Nat.le_of_ble_eq_true rfl⟩ rfl d_Sh_isTell_119 (c_Sh_isLaw hV hq119) ?_
            exact g_zW (pc := 122) hC d_Sh_isTell_122 h
          rw [if_neg hs51_132] at h
          by_cases hs51_133 : q8 = 133
          · rw [if_pos hs51_133] at h
            refine g_table (pc := 51) hC (tgt := 118) d_Sh_isTell_51 rfl (by rw [hs51_133]; decide) ?_
            refine g_aload_n (pc := 118) hC (i := 0) (x := (V.2.2.1 2 0)) rfl rfl d_Sh_isTell_118 ?_
            obtain ⟨q119, hq119, h⟩ := Option.bind_eq_some_iff.mp h
            refine g_vi (pc := 119) hC (As := []) (st := []) mt_Sh_isLaw lk_Sh_81 rfl (ob_Sh hV) (Nat.le_of_ble_eq_true rfl) ⟨Nat.le_of_ble_eq_true rfl, Nat.le_of_ble_eq_true rfl⟩ rfl d_Sh_isTell_119 (c_Sh_isLaw hV hq119) ?_
            exact g_zW (pc := 122) hC d_Sh_isTell_122 h
          rw [if_neg hs51_133] at h
          by_cases hs51_134 : q8 = 134
          · rw [if_pos hs51_134] at h
            refine g_table (pc := 51) hC (tgt := 118) d_Sh_isTell_51 rfl (by rw [hs51_134]; decide) ?_
            refine g_aload_n (pc := 118) hC (i := 0) (x := (V.2.2.1 2 0)) rfl rfl d_Sh_isTell_118 ?_
            obtain ⟨q119, hq119, h⟩ := Option.bind_eq_some_iff.mp h
            refine g_vi (pc := 119) hC (As := []) (st := []) mt_Sh_isLaw lk_Sh_81 rfl (ob_Sh hV) (Nat.le_of_ble_eq_true rfl) ⟨Nat.le_of_ble_eq_true rfl, Nat.le_of_ble_eq_true rfl⟩ rfl d_Sh_isTell_119 (c_Sh_isLaw hV hq119) ?_
            exact g_zW (pc := 122) hC d_Sh_isTell_122 h
          rw [if_neg hs51_134] at h
          refine g_table (pc := 51) hC (tgt := 123) d_Sh_isTell_51 rfl ((sw_else [(128 : Int32), (129 : Int32), (130 : Int32), (131 : Int32), (132 : Int32), (133 : Int32), (134 : Int32)] (by intro v hv; simp only [List.mem_cons, List.not_mem_nil, or_false] at hv; rcases hv with rfl | rfl | rfl | rfl | rfl | rfl | rfl <;> assumption) (by decide)).trans (by decide)) ?_
          refine g_aload_n (pc := 123) hC (i := 0) (x := (V.2.2.1 2 0)) rfl rfl d_Sh_isTell_123 ?_
          refine g_ldcS (pc := 124) hV.2.2 hC 5 (by decide) rfl rfl d_Sh_isTell_124 ?_
          obtain ⟨q126, hq126, h⟩ := Option.bind_eq_some_iff.mp h
          refine g_vi (pc := 126) hC (As := [.ref (V.2.1.2.2.1 5)]) (st := []) mt_Sh_areTaken lk_Sh_70 rfl (ob_Sh hV) (Nat.le_of_ble_eq_true rfl) ⟨Nat.le_of_ble_eq_true rfl, Nat.le_of_ble_eq_true rfl⟩ rfl d_Sh_isTell_126 (c_Sh_areTaken hV (by decide) hq126) ?_
          exact g_zW (pc := 129) hC d_Sh_isTell_129 h
        · refine g_iconst (pc := 48) hC kc_0 d_Sh_isTell_48 ?_
          exact g_iW (pc := 49) hC rfl d_Sh_isTell_49 h
    · refine g_le (lv2 := [some (.ref (V.2.2.1 2 0)), none]) (⟨rfl, trivial⟩) ?_
      exact w_Sh_isTell_b26 hV hC S h
theorem c_Sh_isTell {V : WV} {l : Launch} (hV : IsC V) {S : Mem} {z : Int32 × Mem} (h : f_Sh_isTell S = some z) : CI V l y_Sh_isTell bc_Sh_isTell 2 (some .boolean) 6 128 [.ref (V.2.2.1 2 0)] S z.1 z.2 :=
  ct_i rfl (IsC.ok hV) (Nat.le_of_ble_eq_true rfl) (fun _ _ hC => w_Sh_isTell_b0 hV hC S h)
def f_Sh_seek_b81 (s0 : Int32) (S : Mem) : Option (Int32 × Mem) :=
  letS (pI S 2 0 s0) (fun S81 =>
  some (S81.1 2 2, S81))
def f_Sh_seek_b58 (S : Mem) : Option (Int32 × Mem) :=
  if (S.1 2 2) = 0 then
    f_Sh_seek_b81 (-1) S
  else
    Option.bind (f_Tp_placeAt (S.1 2 3) S) (fun q78 =>
    f_Sh_seek_b81 q78 S)
def f_Sh_seek_b22 (k22 : Int32 → Int32 → Mem → Option (Int32 × Mem)) (x1 : Int32) (x2 : Int32) (S : Mem) : Option (Int32 × Mem) :=
  if 400 < x2 then
    f_Sh_seek_b58 S
  else
    if x1 = 0 then
      f_Sh_seek_b58 S
    else
      Option.bind (f_Tp_kindAt (S.1 2 3) S) (fun q41 =>
      if q41 = 0 then
        f_Sh_seek_b58 S
      else
        Option.bind (f_Sh_isTell S) (fun q48 =>
        letS q48.1 (fun y51 =>
        k22 y51 (x2 + 1) q48.2)))
def f_Sh_seek_l22 : Nat → Int32 → Int32 → Mem → Option (Int32 × Mem)
  | 0 => fun _ _ _ => none
  | n + 1 => f_Sh_seek_b22  (f_Sh_seek_l22  n)
def f_Sh_seek_b0 (S : Mem) : Option (Int32 × Mem) :=
  letS (pI S 2 3 0) (fun S2 =>
  letS (pI S2 2 2 0) (fun S7 =>
  Option.bind (f_JArr_fill 2 4 4 0 S7) (fun q15 =>
  f_Sh_seek_l22 5000 1 0 q15)))
def f_Sh_seek (S : Mem) : Option (Int32 × Mem) := f_Sh_seek_b0  S
theorem d_Sh_seek_0 : decode bc_Sh_seek 0 = .ok (.aload_n 0, 1) := by decide +kernel
theorem d_Sh_seek_1 : decode bc_Sh_seek 1 = .ok (.iconst 0, 1) := by decide +kernel
theorem d_Sh_seek_2 : decode bc_Sh_seek 2 = .ok (.putfield 18, 3) := by decide +kernel
theorem d_Sh_seek_5 : decode bc_Sh_seek 5 = .ok (.aload_n 0, 1) := by decide +kernel
theorem d_Sh_seek_6 : decode bc_Sh_seek 6 = .ok (.iconst 0, 1) := by decide +kernel
theorem d_Sh_seek_7 : decode bc_Sh_seek 7 = .ok (.putfield 15, 3) := by decide +kernel
theorem d_Sh_seek_10 : decode bc_Sh_seek 10 = .ok (.aload_n 0, 1) := by decide +kernel
theorem d_Sh_seek_11 : decode bc_Sh_seek 11 = .ok (.getfield 21, 3) := by decide +kernel
theorem d_Sh_seek_14 : decode bc_Sh_seek 14 = .ok (.iconst 0, 1) := by decide +kernel
theorem d_Sh_seek_15 : decode bc_Sh_seek 15 = .ok (.invokestatic 29, 3) := by decide +kernel
theorem d_Sh_seek_18 : decode bc_Sh_seek 18 = .ok (.iconst 1, 1) := by decide +kernel
theorem d_Sh_seek_19 : decode bc_Sh_seek 19 = .ok (.istore_n 1, 1) := by decide +kernel
theorem d_Sh_seek_20 : decode bc_Sh_seek 20 = .ok (.iconst 0, 1) := by decide +kernel
theorem d_Sh_seek_21 : decode bc_Sh_seek 21 = .ok (.istore_n 2, 1) := by decide +kernel
theorem d_Sh_seek_22 : decode bc_Sh_seek 22 = .ok (.iload_n 2, 1) := by decide +kernel
theorem d_Sh_seek_23 : decode bc_Sh_seek 23 = .ok (.sipush 400, 3) := by decide +kernel
theorem d_Sh_seek_26 : decode bc_Sh_seek 26 = .ok (.if_icmp .gt 32, 3) := by decide +kernel
theorem d_Sh_seek_29 : decode bc_Sh_seek 29 = .ok (.iload_n 1, 1) := by decide +kernel
theorem d_Sh_seek_30 : decode bc_Sh_seek 30 = .ok (.ifCond .eq 28, 3) := by decide +kernel
theorem d_Sh_seek_33 : decode bc_Sh_seek 33 = .ok (.aload_n 0, 1) := by decide +kernel
theorem d_Sh_seek_34 : decode bc_Sh_seek 34 = .ok (.getfield 25, 3) := by decide +kernel
theorem d_Sh_seek_37 : decode bc_Sh_seek 37 = .ok (.aload_n 0, 1) := by decide +kernel
theorem d_Sh_seek_38 : decode bc_Sh_seek 38 = .ok (.getfield 18, 3) := by decide +kernel
theorem d_Sh_seek_41 : decode bc_Sh_seek 41 = .ok (.invokevirtual 35, 3) := by decide +kernel
theorem d_Sh_seek_44 : decode bc_Sh_seek 44 = .ok (.ifCond .eq 14, 3) := by decide +kernel
theorem d_Sh_seek_47 : decode bc_Sh_seek 47 = .ok (.aload_n 0, 1) := by decide +kernel
theorem d_Sh_seek_48 : decode bc_Sh_seek 48 = .ok (.invokevirtual 41, 3) := by decide +kernel
theorem d_Sh_seek_51 : decode bc_Sh_seek 51 = .ok (.istore_n 1, 1) := by decide +kernel
theorem d_Sh_seek_52 : decode bc_Sh_seek 52 = .ok (.iinc 2 1, 3) := by decide +kernel
theorem d_Sh_seek_55 : decode bc_Sh_seek 55 = .ok (.goto (-33), 3) := by decide +kernel
theorem d_Sh_seek_58 : decode bc_Sh_seek 58 = .ok (.aload_n 0, 1) := by decide +kernel
theorem d_Sh_seek_59 : decode bc_Sh_seek 59 = .ok (.aload_n 0, 1) := by decide +kernel
theorem d_Sh_seek_60 : decode bc_Sh_seek 60 = .ok (.getfield 15, 3) := by decide +kernel
theorem d_Sh_seek_63 : decode bc_Sh_seek 63 = .ok (.ifCond .ne 7, 3) := by decide +kernel
theorem d_Sh_seek_66 : decode bc_Sh_seek 66 = .ok (.iconst (-1), 1) := by decide +kernel
theorem d_Sh_seek_67 : decode bc_Sh_seek 67 = .ok (.goto 14, 3) := by decide +kernel
theorem d_Sh_seek_70 : decode bc_Sh_seek 70 = .ok (.aload_n 0, 1) := by decide +kernel
theorem d_Sh_seek_71 : decode bc_Sh_seek 71 = .ok (.getfield 25, 3) := by decide +kernel
theorem d_Sh_seek_74 : decode bc_Sh_seek 74 = .ok (.aload_n 0, 1) := by decide +kernel
theorem d_Sh_seek_75 : decode bc_Sh_seek 75 = .ok (.getfield 18, 3) := by decide +kernel
theorem d_Sh_seek_78 : decode bc_Sh_seek 78 = .ok (.invokevirtual 45, 3) := by decide +kernel
theorem d_Sh_seek_81 : decode bc_Sh_seek 81 = .ok (.putfield 9, 3) := by decide +kernel
theorem d_Sh_seek_84 : decode bc_Sh_seek 84 = .ok (.aload_n 0, 1) := by decide +kernel
theorem d_Sh_seek_85 : decode bc_Sh_seek 85 = .ok (.getfield 15, 3) := by decide +kernel
theorem d_Sh_seek_88 : decode bc_Sh_seek 88 = .ok (.ireturn, 1) := by decide +kernel
set_option maxRecDepth 20000 in
theorem w_Sh_seek_b81 {X : CX} {V : WV} (hV : IsC V) {z : Int32 × Mem} (hC : Ck X V bc_Sh_seek 3 "SecretWells$Shape" (some .int) 7 149) (s0 : Int32) (S : Mem) (h : f_Sh_seek_b81  s0 S = some z) : G X V 3 (QI X V z.1 z.2) 81 [some (.ref (V.2.2.1 2 0)), none, none] [.int s0, .ref (V.2.2.1 2 0)] S := by
  unfold f_Sh_seek_b81 at h
  refine g_putI (pc := 81) hC po_Sh_9 (ob_Sh hV) rfl rfl rfl d_Sh_seek_81 ?_
  refine g_letS h (fun S81 h => ?_)
  refine g_aload_n (pc := 84) hC (i := 0) (x := (V.2.2.1 2 0)) rfl rfl d_Sh_seek_84 ?_
  refine g_getI (pc := 85) hC fo_Sh_15 (ob_Sh hV) rfl d_Sh_seek_85 ?_
  exact g_iW (pc := 88) hC rfl d_Sh_seek_88 h
set_option maxRecDepth 20000 in
theorem w_Sh_seek_b58 {X : CX} {V : WV} (hV : IsC V) {z : Int32 × Mem} (hC : Ck X V bc_Sh_seek 3 "SecretWells$Shape" (some .int) 7 149) (S : Mem) (h : f_Sh_seek_b58  S = some z) : G X V 3 (QI X V z.1 z.2) 58 [some (.ref (V.2.2.1 2 0)), none, none] [] S := by
  unfold f_Sh_seek_b58 at h
  refine g_aload_n (pc := 58) hC (i := 0) (x := (V.2.2.1 2 0)) rfl rfl d_Sh_seek_58 ?_
  refine g_aload_n (pc := 59) hC (i := 0) (x := (V.2.2.1 2 0)) rfl rfl d_Sh_seek_59 ?_
  refine g_getI (pc := 60) hC fo_Sh_15 (ob_Sh hV) rfl d_Sh_seek_60 ?_
  refine g_if_ne (pc := 63) hC (tgt := 70) (by decide) d_Sh_seek_63 h (fun h => ?_) (fun h => ?_)
  · refine g_aload_n (pc := 70) hC (i := 0) (x := (V.2.2.1 2 0)) rfl rfl d_Sh_seek_70 ?_
    refine g_getC (pc := 71) hC (j := 1) fo_Sh_25 (ob_Sh hV) rfl d_Sh_seek_71 ?_
    refine g_aload_n (pc := 74) hC (i := 0) (x := (V.2.2.1 2 0)) rfl rfl d_Sh_seek_74 ?_
    refine g_getI (pc := 75) hC fo_Sh_18 (ob_Sh hV) rfl d_Sh_seek_75 ?_
    obtain ⟨q78, hq78, h⟩ := Option.bind_eq_some_iff.mp h
    refine g_vi (pc := 78) hC (As := [.int (S.1 2 3)]) (st := [.ref (V.2.2.1 2 0)]) mt_Tp_placeAt lk_Sh_45 rfl (ob_Tp hV) (Nat.le_of_ble_eq_true rfl) ⟨Nat.le_of_ble_eq_true rfl, Nat.le_of_ble_eq_true rfl⟩ rfl d_Sh_seek_78 (c_Tp_placeAt hV hq78) ?_
    exact w_Sh_seek_b81 hV hC q78 S h
  · refine g_iconst (pc := 66) hC kc_m1 d_Sh_seek_66 ?_
    refine g_goto (pc := 67) hC (tgt := 81) (by decide) d_Sh_seek_67 ?_
    exact w_Sh_seek_b81 hV hC (-1) S h
set_option maxRecDepth 20000 in
theorem w_Sh_seek_b22 {X : CX} {V : WV} (hV : IsC V) {z : Int32 × Mem} (hC : Ck X V bc_Sh_seek 3 "SecretWells$Shape" (some .int) 7 149) (k22 : Int32 → Int32 → Mem → Option (Int32 × Mem)) (hk22 : ∀ (x1 : Int32) (x2 : Int32) (S : Mem), k22 x1 x2 S = some z → G X V 3 (QI X V z.1 z.2) 22 [some (.ref (V.2.2.1 2 0)), some (.int x1), some (.int x2)] [] S) (x1 : Int32) (x2 : Int32) (S : Mem) (h : f_Sh_seek_b22  k22 x1 x2 S = some z) : G X V 3 (QI X V z.1 z.2) 22 [some (.ref (V.2.2.1 2 0)), some (.int x1), some (.int x2)] [] S := by
  unfold f_Sh_seek_b22 at h
  refine g_iload_n (pc := 22) hC (i := 2) (x := x2) rfl rfl d_Sh_seek_22 ?_
  refine g_sipush (pc := 23) hC ks_400 d_Sh_seek_23 ?_
  refine g_icmp_gt (pc := 26) hC (tgt := 58) (by decide) d_Sh_seek_26 h (fun h => ?_) (fun h => ?_)
  · refine g_le (lv2 := [some (.ref (V.2.2.1 2 0)), none, none]) (⟨rfl, trivial⟩) ?_
    exact w_Sh_seek_b58 hV hC S h
  · refine g_iload_n (pc := 29) hC (i := 1) (x := x1) rfl rfl d_Sh_seek_29 ?_
    refine g_if_eq (pc := 30) hC (tgt := 58) (by decide) d_Sh_seek_30 h (fun h => ?_) (fun h => ?_)
    · refine g_le (lv2 := [some (.ref (V.2.2.1 2 0)), none, none]) (⟨rfl, trivial⟩) ?_
      exact w_Sh_seek_b58 hV hC S h
    · refine g_aload_n (pc := 33) hC (i := 0) (x := (V.2.2.1 2 0)) rfl rfl d_Sh_seek_33 ?_
      refine g_getC (pc := 34) hC (j := 1) fo_Sh_25 (ob_Sh hV) rfl d_Sh_seek_34 ?_
      refine g_aload_n (pc := 37) hC (i := 0) (x := (V.2.2.1 2 0)) rfl rfl d_Sh_seek_37 ?_
      refine g_getI (pc := 38) hC fo_Sh_18 (ob_Sh hV) rfl d_Sh_seek_38 ?_
      obtain ⟨q41, hq41, h⟩ := Option.bind_eq_some_iff.mp h
      refine g_vi (pc := 41) hC (As := [.int (S.1 2 3)]) (st := []) mt_Tp_kindAt lk_Sh_35 rfl (ob_Tp hV) (Nat.le_of_ble_eq_true rfl) ⟨Nat.le_of_ble_eq_true rfl, Nat.le_of_ble_eq_true rfl⟩ rfl d_Sh_seek_41 (c_Tp_kindAt hV hq41) ?_
      refine g_if_eq (pc := 44) hC (tgt := 58) (by decide) d_Sh_seek_44 h (fun h => ?_) (fun h => ?_)
      · refine g_le (lv2 := [some (.ref (V.2.2.1 2 0)), none, none]) (⟨rfl, trivial⟩) ?_
        exact w_Sh_seek_b58 hV hC S h
      · refine g_aload_n (pc := 47) hC (i := 0) (x := (V.2.2.1 2 0)) rfl rfl d_Sh_seek_47 ?_
        obtain ⟨q48, hq48, h⟩ := Option.bind_eq_some_iff.mp h
        refine g_vi (pc := 48) hC (As := []) (st := []) mt_Sh_isTell lk_Sh_41 rfl (ob_Sh hV) (Nat.le_of_ble_eq_true rfl) ⟨Nat.le_of_ble_eq_true rfl, Nat.le_of_ble_eq_true rfl⟩ rfl d_Sh_seek_48 (c_Sh_isTell hV hq48) ?_
        refine g_leti h (fun y51 h => ?_)
        refine s_istore_n (pc := 51) hC (i := 1) rfl (by decide) d_Sh_seek_51 (lv2 := [some (.ref (V.2.2.1 2 0)), some (.int y51), some (.int x2)]) rfl ?_
        refine s_iinc (pc := 52) hC (i := 2) (x := x2) (v := x2 + 1) rfl (by rw [kc_1]) (by decide) d_Sh_seek_52 (lv2 := [some (.ref (V.2.2.1 2 0)), some (.int y51), some (.int (x2 + 1))]) rfl ?_
        refine g_goto (pc := 55) hC (tgt := 22) (by decide) d_Sh_seek_55 ?_
        exact hk22 y51 (x2 + 1) q48.2 h
theorem w_Sh_seek_l22 {X : CX} {V : WV} (hV : IsC V) {z : Int32 × Mem} (hC : Ck X V bc_Sh_seek 3 "SecretWells$Shape" (some .int) 7 149) : ∀ (n : Nat) (x1 : Int32) (x2 : Int32) (S : Mem), f_Sh_seek_l22  n x1 x2 S = some z → G X V 3 (QI X V z.1 z.2) 22 [some (.ref (V.2.2.1 2 0)), some (.int x1), some (.int x2)] [] S := by
  intro n
  induction n with
  | zero =>
    intro x1 x2 S h
    have h : (none : Option (Int32 × Mem)) = some z := h
    cases h
  | succ n ih =>
    intro x1 x2 S h
    exact w_Sh_seek_b22 hV hC (f_Sh_seek_l22  n) ih x1 x2 S h
set_option maxRecDepth 20000 in
theorem w_Sh_seek_b0 {X : CX} {V : WV} (hV : IsC V) {z : Int32 × Mem} (hC : Ck X V bc_Sh_seek 3 "SecretWells$Shape" (some .int) 7 149) (S : Mem) (h : f_Sh_seek_b0  S = some z) : G X V 3 (QI X V z.1 z.2) 0 [some (.ref (V.2.2.1 2 0)), none, none] [] S := by
  unfold f_Sh_seek_b0 at h
  refine g_aload_n (pc := 0) hC (i := 0) (x := (V.2.2.1 2 0)) rfl rfl d_Sh_seek_0 ?_
  refine g_iconst (pc := 1) hC kc_0 d_Sh_seek_1 ?_
  refine g_putI (pc := 2) hC po_Sh_18 (ob_Sh hV) rfl rfl rfl d_Sh_seek_2 ?_
  refine g_letS h (fun S2 h => ?_)
  refine g_aload_n (pc := 5) hC (i := 0) (x := (V.2.2.1 2 0)) rfl rfl d_Sh_seek_5 ?_
  refine g_iconst (pc := 6) hC kc_0 d_Sh_seek_6 ?_
  refine g_putI (pc := 7) hC po_Sh_15 (ob_Sh hV) rfl rfl rfl d_Sh_seek_7 ?_
  refine g_letS h (fun S7 h => ?_)
  refine g_aload_n (pc := 10) hC (i := 0) (x := (V.2.2.1 2 0)) rfl rfl d_Sh_seek_10 ?_
  refine g_getA (pc := 11) hC fo_Sh_21 (ob_Sh hV) rfl d_Sh_seek_11 ?_
  refine g_iconst (pc := 14) hC kc_0 d_Sh_seek_14 ?_
  obtain ⟨q15, hq15, h⟩ := Option.bind_eq_some_iff.mp h
  refine g_sv (pc := 15) hC (As := [.ref (V.2.2.1 2 (4 + 1)), .int 0]) (st := []) mt_JArr_fill lk_Sh_29 (Nat.le_of_ble_eq_true rfl) ⟨Nat.le_of_ble_eq_true rfl, Nat.le_of_ble_eq_true rfl⟩ rfl d_Sh_seek_15 (c_JArr_fill (IsC.ok hV) (ar_Sh_4 hV) hq15) ?_
  refine g_iconst (pc := 18) hC kc_1 d_Sh_seek_18 ?_
  refine s_istore_n (pc := 19) hC (i := 1) rfl (by decide) d_Sh_seek_19 (lv2 := [some (.ref (V.2.2.1 2 0)), some (.int 1), none]) rfl ?_
  refine g_iconst (pc := 20) hC kc_0 d_Sh_seek_20 ?_
  refine s_istore_n (pc := 21) hC (i := 2) rfl (by decide) d_Sh_seek_21 (lv2 := [some (.ref (V.2.2.1 2 0)), some (.int 1), some (.int 0)]) rfl ?_
  exact w_Sh_seek_l22 hV hC 5000 1 0 q15 h
theorem c_Sh_seek {V : WV} {l : Launch} (hV : IsC V) {S : Mem} {z : Int32 × Mem} (h : f_Sh_seek S = some z) : CI V l y_Sh_seek bc_Sh_seek 3 (some .int) 7 149 [.ref (V.2.2.1 2 0)] S z.1 z.2 :=
  ct_i rfl (IsC.ok hV) (Nat.le_of_ble_eq_true rfl) (fun _ _ hC => w_Sh_seek_b0 hV hC S h)
def f_St_begin_b0 (st : Nat) (tx : Nat) (S : Mem) : Option (Mem) :=
  letS (pI S st 0 0) (fun S2 =>
  letS (pI S2 st 1 (((1 : Int32) <<< ((S2.1 tx 1) &&& 31)) - 1)) (fun S14 =>
  letS (pI S14 st 2 0) (fun S19 =>
  letS (pI S19 st 3 0) (fun S24 =>
  gCp 0 0 4 4 4 (letS (sCp S24 tx 9 st 4 0 0 4) (fun S38 =>
  gCp 0 0 7 7 7 (letS (sCp S38 tx 10 st 5 0 0 7) (fun S53 =>
  gCp 0 0 7 7 7 (letS (sCp S53 tx 12 st 7 0 0 7) (fun S68 =>
  Option.bind (f_JArr_fill st 6 7 0 S68) (fun q76 =>
  Option.bind (f_JArr_fill st 8 8 (-2) q76) (fun q85 =>
  Option.bind (f_St_measure st tx q85) (fun q90 =>
  Option.bind (f_St_settle st tx q90) (fun q95 =>
  some q95))))))))))))))
def f_St_begin (st : Nat) (tx : Nat) (S : Mem) : Option (Mem) := f_St_begin_b0 st tx S
theorem d_St_begin_0 : decode bc_St_begin 0 = .ok (.aload_n 0, 1) := by decide +kernel
theorem d_St_begin_1 : decode bc_St_begin 1 = .ok (.iconst 0, 1) := by decide +kernel
theorem d_St_begin_2 : decode bc_St_begin 2 = .ok (.putfield 9, 3) := by decide +kernel
theorem d_St_begin_5 : decode bc_St_begin 5 = .ok (.aload_n 0, 1) := by decide +kernel
theorem d_St_begin_6 : decode bc_St_begin 6 = .ok (.iconst 1, 1) := by decide +kernel
theorem d_St_begin_7 : decode bc_St_begin 7 = .ok (.aload_n 1, 1) := by decide +kernel
theorem d_St_begin_8 : decode bc_St_begin 8 = .ok (.getfield 52, 3) := by decide +kernel
theorem d_St_begin_11 : decode bc_St_begin 11 = .ok (.ishl, 1) := by decide +kernel
theorem d_St_begin_12 : decode bc_St_begin 12 = .ok (.iconst 1, 1) := by decide +kernel
theorem d_St_begin_13 : decode bc_St_begin 13 = .ok (.isub, 1) := by decide +kernel
theorem d_St_begin_14 : decode bc_St_begin 14 = .ok (.putfield 15, 3) := by decide +kernel
theorem d_St_begin_17 : decode bc_St_begin 17 = .ok (.aload_n 0, 1) := by decide +kernel
theorem d_St_begin_18 : decode bc_St_begin 18 = .ok (.iconst 0, 1) := by decide +kernel
theorem d_St_begin_19 : decode bc_St_begin 19 = .ok (.putfield 18, 3) := by decide +kernel
theorem d_St_begin_22 : decode bc_St_begin 22 = .ok (.aload_n 0, 1) := by decide +kernel
theorem d_St_begin_23 : decode bc_St_begin 23 = .ok (.iconst 0, 1) := by decide +kernel
theorem d_St_begin_24 : decode bc_St_begin 24 = .ok (.putfield 21, 3) := by decide +kernel
theorem d_St_begin_27 : decode bc_St_begin 27 = .ok (.aload_n 1, 1) := by decide +kernel
theorem d_St_begin_28 : decode bc_St_begin 28 = .ok (.getfield 57, 3) := by decide +kernel
theorem d_St_begin_31 : decode bc_St_begin 31 = .ok (.iconst 0, 1) := by decide +kernel
theorem d_St_begin_32 : decode bc_St_begin 32 = .ok (.aload_n 0, 1) := by decide +kernel
theorem d_St_begin_33 : decode bc_St_begin 33 = .ok (.getfield 24, 3) := by decide +kernel
theorem d_St_begin_36 : decode bc_St_begin 36 = .ok (.iconst 0, 1) := by decide +kernel
theorem d_St_begin_37 : decode bc_St_begin 37 = .ok (.iconst 4, 1) := by decide +kernel
theorem d_St_begin_38 : decode bc_St_begin 38 = .ok (.invokestatic 58, 3) := by decide +kernel
theorem d_St_begin_41 : decode bc_St_begin 41 = .ok (.aload_n 1, 1) := by decide +kernel
theorem d_St_begin_42 : decode bc_St_begin 42 = .ok (.getfield 64, 3) := by decide +kernel
theorem d_St_begin_45 : decode bc_St_begin 45 = .ok (.iconst 0, 1) := by decide +kernel
theorem d_St_begin_46 : decode bc_St_begin 46 = .ok (.aload_n 0, 1) := by decide +kernel
theorem d_St_begin_47 : decode bc_St_begin 47 = .ok (.getfield 28, 3) := by decide +kernel
theorem d_St_begin_50 : decode bc_St_begin 50 = .ok (.iconst 0, 1) := by decide +kernel
theorem d_St_begin_51 : decode bc_St_begin 51 = .ok (.bipush 7, 2) := by decide +kernel
theorem d_St_begin_53 : decode bc_St_begin 53 = .ok (.invokestatic 58, 3) := by decide +kernel
theorem d_St_begin_56 : decode bc_St_begin 56 = .ok (.aload_n 1, 1) := by decide +kernel
theorem d_St_begin_57 : decode bc_St_begin 57 = .ok (.getfield 65, 3) := by decide +kernel
theorem d_St_begin_60 : decode bc_St_begin 60 = .ok (.iconst 0, 1) := by decide +kernel
theorem d_St_begin_61 : decode bc_St_begin 61 = .ok (.aload_n 0, 1) := by decide +kernel
theorem d_St_begin_62 : decode bc_St_begin 62 = .ok (.getfield 34, 3) := by decide +kernel
theorem d_St_begin_65 : decode bc_St_begin 65 = .ok (.iconst 0, 1) := by decide +kernel
theorem d_St_begin_66 : decode bc_St_begin 66 = .ok (.bipush 7, 2) := by decide +kernel
theorem d_St_begin_68 : decode bc_St_begin 68 = .ok (.invokestatic 58, 3) := by decide +kernel
theorem d_St_begin_71 : decode bc_St_begin 71 = .ok (.aload_n 0, 1) := by decide +kernel
theorem d_St_begin_72 : decode bc_St_begin 72 = .ok (.getfield 31, 3) := by decide +kernel
theorem d_St_begin_75 : decode bc_St_begin 75 = .ok (.iconst 0, 1) := by decide +kernel
theorem d_St_begin_76 : decode bc_St_begin 76 = .ok (.invokestatic 66, 3) := by decide +kernel
theorem d_St_begin_79 : decode bc_St_begin 79 = .ok (.aload_n 0, 1) := by decide +kernel
theorem d_St_begin_80 : decode bc_St_begin 80 = .ok (.getfield 37, 3) := by decide +kernel
theorem d_St_begin_83 : decode bc_St_begin 83 = .ok (.bipush (-2), 2) := by decide +kernel
theorem d_St_begin_85 : decode bc_St_begin 85 = .ok (.invokestatic 66, 3) := by decide +kernel
theorem d_St_begin_88 : decode bc_St_begin 88 = .ok (.aload_n 0, 1) := by decide +kernel
theorem d_St_begin_89 : decode bc_St_begin 89 = .ok (.aload_n 1, 1) := by decide +kernel
theorem d_St_begin_90 : decode bc_St_begin 90 = .ok (.invokevirtual 72, 3) := by decide +kernel
theorem d_St_begin_93 : decode bc_St_begin 93 = .ok (.aload_n 0, 1) := by decide +kernel
theorem d_St_begin_94 : decode bc_St_begin 94 = .ok (.aload_n 1, 1) := by decide +kernel
theorem d_St_begin_95 : decode bc_St_begin 95 = .ok (.invokevirtual 76, 3) := by decide +kernel
theorem d_St_begin_98 : decode bc_St_begin 98 = .ok (.return_, 1) := by decide +kernel
set_option maxRecDepth 20000 in
theorem w_St_begin_b0 {X : CX} {V : WV} {st : Nat} {tx : Nat} (hV : IsC V) (hst : isSt st) (htx : isTx tx) {z : Mem} (hC : Ck X V bc_St_begin 2 "SecretWells$State" none 2 49) (S : Mem) (h : f_St_begin_b0 st tx S = some z) : G X V 2 (QV X V z) 0 [some (.ref (V.2.2.1 st 0)), some (.ref (V.2.2.1 tx 0))] [] S := by
  unfold f_St_begin_b0 at h
  refine g_aload_n (pc := 0) hC (i := 0) (x := (V.2.2.1 st 0)) rfl rfl d_St_begin_0 ?_
  refine g_iconst (pc := 1) hC kc_0 d_St_begin_1 ?_
  refine g_putI (pc := 2) hC po_St_9 (ob_St hV hst) rfl rfl rfl d_St_begin_2 ?_
  refine g_letS h (fun S2 h => ?_)
  refine g_aload_n (pc := 5) hC (i := 0) (x := (V.2.2.1 st 0)) rfl rfl d_St_begin_5 ?_
  refine g_iconst (pc := 6) hC kc_1 d_St_begin_6 ?_
  refine g_aload_n (pc := 7) hC (i := 1) (x := (V.2.2.1 tx 0)) rfl rfl d_St_begin_7 ?_
  refine g_getI (pc := 8) hC fo_St_52 (ob_Tx hV htx) rfl d_St_begin_8 ?_
  refine g_ishl (pc := 11) hC d_St_begin_11 ?_
  refine g_iconst (pc := 12) hC kc_1 d_St_begin_12 ?_
  refine g_isub (pc := 13) hC d_St_begin_13 ?_
  refine g_putI (pc := 14) hC po_St_15 (ob_St hV hst) rfl rfl rfl d_St_begin_14 ?_
  refine g_letS h (fun S14 h => ?_)
  refine g_aload_n (pc := 17) hC (i := 0) (x := (V.2.2.1 st 0)) rfl rfl d_St_begin_17 ?_
  refine g_iconst (pc := 18) hC kc_0 d_St_begin_18 ?_
  refine g_putI (pc := 19) hC po_St_18 (ob_St hV hst) rfl rfl rfl d_St_begin_19 ?_
  refine g_letS h (fun S19 h => ?_)
  refine g_aload_n (pc := 22) hC (i := 0) (x := (V.2.2.1 st 0)) rfl rfl d_St_begin_22 ?_
  refine g_iconst (pc := 23) hC kc_0 d_St_begin_23 ?_
  refine g_putI (pc := 24) hC po_St_21 (ob_St hV hst) rfl rfl rfl d_St_begin_24 ?_
  refine g_letS h (fun S24 h => ?_)
  refine g_aload_n (pc := 27) hC (i := 1) (x := (V.2.2.1 tx 0)) rfl rfl d_St_begin_27 ?_
  refine g_getA (pc := 28) hC fo_St_57 (ob_Tx hV htx) rfl d_St_begin_28 ?_
  refine g_iconst (pc := 31) hC kc_0 d_St_begin_31 ?_
  refine g_aload_n (pc := 32) hC (i := 0) (x := (V.2.2.1 st 0)) rfl rfl d_St_begin_32 ?_
  refine g_getA (pc := 33) hC fo_St_24 (ob_St hV hst) rfl d_St_begin_33 ?_
  refine g_iconst (pc := 36) hC kc_0 d_St_begin_36 ?_
  refine g_iconst (pc := 37) hC kc_4 d_St_begin_37 ?_
  refine g_copy (pc := 38) hC lk_St_58 (ar_Tx_9 hV htx) (ar_St_4 hV hst) (Nat.le_of_ble_eq_true rfl) ⟨Nat.le_of_ble_eq_true rfl, Nat.le_of_ble_eq_true rfl⟩ d_St_begin_38 h (fun h => ?_)
  refine g_letS h (fun S38 h => ?_)
  refine g_aload_n (pc := 41) hC (i := 1) (x := (V.2.2.1 tx 0)) rfl rfl d_St_begin_41 ?_
  refine g_getA (pc := 42) hC fo_St_64 (ob_Tx hV htx) rfl d_St_begin_42 ?_
  refine g_iconst (pc := 45) hC kc_0 d_St_begin_45 ?_
  refine g_aload_n (pc := 46) hC (i := 0) (x := (V.2.2.1 st 0)) rfl rfl d_St_begin_46 ?_
  refine g_getA (pc := 47) hC fo_St_28 (ob_St hV hst) rfl d_St_begin_47 ?_
  refine g_iconst (pc := 50) hC kc_0 d_St_begin_50 ?_
  refine g_bipush (pc := 51) hC kb_7 d_St_begin_51 ?_
  refine g_copy (pc := 53) hC lk_St_58 (ar_Tx_10 hV htx) (ar_St_5 hV hst) (Nat.le_of_ble_eq_true rfl) ⟨Nat.le_of_ble_eq_true rfl, Nat.le_of_ble_eq_true rfl⟩ d_St_begin_53 h (fun h => ?_)
  refine g_letS h (fun S53 h => ?_)
  refine g_aload_n (pc := 56) hC (i := 1) (x := (V.2.2.1 tx 0)) rfl rfl d_St_begin_56 ?_
  refine g_getA (pc := 57) hC fo_St_65 (ob_Tx hV htx) rfl d_St_begin_57 ?_
  refine g_iconst (pc := 60) hC kc_0 d_St_begin_60 ?_
  refine g_aload_n (pc := 61) hC (i := 0) (x := (V.2.2.1 st 0)) rfl rfl d_St_begin_61 ?_
  refine g_getA (pc := 62) hC fo_St_34 (ob_St hV hst) rfl d_St_begin_62 ?_
  refine g_iconst (pc := 65) hC kc_0 d_St_begin_65 ?_
  refine g_bipush (pc := 66) hC kb_7 d_St_begin_66 ?_
  refine g_copy (pc := 68) hC lk_St_58 (ar_Tx_12 hV htx) (ar_St_7 hV hst) (Nat.le_of_ble_eq_true rfl) ⟨Nat.le_of_ble_eq_true rfl, Nat.le_of_ble_eq_true rfl⟩ d_St_begin_68 h (fun h => ?_)
  refine g_letS h (fun S68 h => ?_)
  refine g_aload_n (pc := 71) hC (i := 0) (x := (V.2.2.1 st 0)) rfl rfl d_St_begin_71 ?_
  refine g_getA (pc := 72) hC fo_St_31 (ob_St hV hst) rfl d_St_begin_72 ?_
  refine g_iconst (pc := 75) hC kc_0 d_St_begin_75 ?_
  obtain ⟨q76, hq76, h⟩ := Option.bind_eq_some_iff.mp h
  refine g_sv (pc := 76) hC (As := [.ref (V.2.2.1 st (6 + 1)), .int 0]) (st := []) mt_JArr_fill lk_St_66 (Nat.le_of_ble_eq_true rfl) ⟨Nat.le_of_ble_eq_true rfl, Nat.le_of_ble_eq_true rfl⟩ rfl d_St_begin_76 (c_JArr_fill (IsC.ok hV) (ar_St_6 hV hst) hq76) ?_
  refine g_aload_n (pc := 79) hC (i := 0) (x := (V.2.2.1 st 0)) rfl rfl d_St_begin_79 ?_
  refine g_getA (pc := 80) hC fo_St_37 (ob_St hV hst) rfl d_St_begin_80 ?_
  refine g_bipush (pc := 83) hC kb_m2 d_St_begin_83 ?_
  obtain ⟨q85, hq85, h⟩ := Option.bind_eq_some_iff.mp h
  refine g_sv (pc := 85) hC (As := [.ref (V.2.2.1 st (8 + 1)), .int (-2)]) (st := []) mt_JArr_fill lk_St_66 (Nat.le_of_ble_eq_true rfl) ⟨Nat.le_of_ble_eq_true rfl, Nat.le_of_ble_eq_true rfl⟩ rfl d_St_begin_85 (c_JArr_fill (IsC.ok hV) (ar_St_8 hV hst) hq85) ?_
  refine g_aload_n (pc := 88) hC (i := 0) (x := (V.2.2.1 st 0)) rfl rfl d_St_begin_88 ?_
  refine g_aload_n (pc := 89) hC (i := 1) (x := (V.2.2.1 tx 0)) rfl rfl d_St_begin_89 ?_
  obtain ⟨q90, hq90, h⟩ := Option.bind_eq_some_iff.mp h
  refine g_vv (pc := 90) hC (As := [.ref (V.2.2.1 tx 0)]) (st := []) mt_St_measure lk_St_72 rfl (ob_St hV hst) (Nat.le_of_ble_eq_true rfl) ⟨Nat.le_of_ble_eq_true rfl, Nat.le_of_ble_eq_true rfl⟩ rfl d_St_begin_90 (c_St_measure hV hst htx hq90) ?_
  refine g_aload_n (pc := 93) hC (i := 0) (x := (V.2.2.1 st 0)) rfl rfl d_St_begin_93 ?_
  refine g_aload_n (pc := 94) hC (i := 1) (x := (V.2.2.1 tx 0)) rfl rfl d_St_begin_94 ?_
  obtain ⟨q95, hq95, h⟩ := Option.bind_eq_some_iff.mp h
  refine g_vv (pc := 95) hC (As := [.ref (V.2.2.1 tx 0)]) (st := []) mt_St_settle lk_St_76 rfl (ob_St hV hst) (Nat.le_of_ble_eq_true rfl) ⟨Nat.le_of_ble_eq_true rfl, Nat.le_of_ble_eq_true rfl⟩ rfl d_St_begin_95 (c_St_settle hV hst htx hq95) ?_
  exact g_vW (pc := 98) hC d_St_begin_98 h
theorem c_St_begin {V : WV} {l : Launch} (hV : IsC V) {st : Nat} {tx : Nat} (hst : isSt st) (htx : isTx tx) {S : Mem} {z : Mem} (h : f_St_begin st tx S = some z) : CV V l y_St_begin bc_St_begin 2 none 2 49 [.ref (V.2.2.1 st 0), .ref (V.2.2.1 tx 0)] S z :=
  ct_v rfl (IsC.ok hV) (Nat.le_of_ble_eq_true rfl) (fun _ _ hC => w_St_begin_b0 hV hst htx hC S h)
def f_St_whisperedInto_b5 (st : Nat) (tx : Nat) (S : Mem) (k5 : Int32 → Int32 → Int32 → Option (Int32)) (x2 : Int32) (x3 : Int32) (x4 : Int32) : Option (Int32) :=
  if (S.1 tx 2) ≤ x4 then
    some x3
  else
    gIn x4 8 (
    if (S.2.1 st 8 x4.toNatClampNeg) = x2 then
      letS (x3 ||| ((1 : Int32) <<< (x4 &&& 31))) (fun y31 =>
      k5 x2 y31 (x4 + 1))
    else
      k5 x2 x3 (x4 + 1))
def f_St_whisperedInto_l5 (st : Nat) (tx : Nat) (S : Mem) : Nat → Int32 → Int32 → Int32 → Option (Int32)
  | 0 => fun _ _ _ => none
  | n + 1 => f_St_whisperedInto_b5 st tx S (f_St_whisperedInto_l5 st tx S n)
def f_St_whisperedInto_b0 (st : Nat) (tx : Nat) (S : Mem) (x2 : Int32) : Option (Int32) :=
  f_St_whisperedInto_l5 st tx S 5000 x2 0 0
def f_St_whisperedInto (st : Nat) (tx : Nat) (x2 : Int32) (S : Mem) : Option (Int32) := f_St_whisperedInto_b0 st tx S x2
theorem d_St_whisperedInto_0 : decode bc_St_whisperedInto 0 = .ok (.iconst 0, 1) := by decide +kernel
theorem d_St_whisperedInto_1 : decode bc_St_whisperedInto 1 = .ok (.istore_n 3, 1) := by decide +kernel
theorem d_St_whisperedInto_2 : decode bc_St_whisperedInto 2 = .ok (.iconst 0, 1) := by decide +kernel
theorem d_St_whisperedInto_3 : decode bc_St_whisperedInto 3 = .ok (.istore 4, 2) := by decide +kernel
theorem d_St_whisperedInto_5 : decode bc_St_whisperedInto 5 = .ok (.iload 4, 2) := by decide +kernel
theorem d_St_whisperedInto_7 : decode bc_St_whisperedInto 7 = .ok (.aload_n 1, 1) := by decide +kernel
theorem d_St_whisperedInto_8 : decode bc_St_whisperedInto 8 = .ok (.getfield 95, 3) := by decide +kernel
theorem d_St_whisperedInto_11 : decode bc_St_whisperedInto 11 = .ok (.if_icmp .ge 27, 3) := by decide +kernel
theorem d_St_whisperedInto_14 : decode bc_St_whisperedInto 14 = .ok (.aload_n 0, 1) := by decide +kernel
theorem d_St_whisperedInto_15 : decode bc_St_whisperedInto 15 = .ok (.getfield 37, 3) := by decide +kernel
theorem d_St_whisperedInto_18 : decode bc_St_whisperedInto 18 = .ok (.iload 4, 2) := by decide +kernel
theorem d_St_whisperedInto_20 : decode bc_St_whisperedInto 20 = .ok (.iaload, 1) := by decide +kernel
theorem d_St_whisperedInto_21 : decode bc_St_whisperedInto 21 = .ok (.iload_n 2, 1) := by decide +kernel
theorem d_St_whisperedInto_22 : decode bc_St_whisperedInto 22 = .ok (.if_icmp .ne 10, 3) := by decide +kernel
theorem d_St_whisperedInto_25 : decode bc_St_whisperedInto 25 = .ok (.iload_n 3, 1) := by decide +kernel
theorem d_St_whisperedInto_26 : decode bc_St_whisperedInto 26 = .ok (.iconst 1, 1) := by decide +kernel
theorem d_St_whisperedInto_27 : decode bc_St_whisperedInto 27 = .ok (.iload 4, 2) := by decide +kernel
theorem d_St_whisperedInto_29 : decode bc_St_whisperedInto 29 = .ok (.ishl, 1) := by decide +kernel
theorem d_St_whisperedInto_30 : decode bc_St_whisperedInto 30 = .ok (.ior, 1) := by decide +kernel
theorem d_St_whisperedInto_31 : decode bc_St_whisperedInto 31 = .ok (.istore_n 3, 1) := by decide +kernel
theorem d_St_whisperedInto_32 : decode bc_St_whisperedInto 32 = .ok (.iinc 4 1, 3) := by decide +kernel
theorem d_St_whisperedInto_35 : decode bc_St_whisperedInto 35 = .ok (.goto (-30), 3) := by decide +kernel
theorem d_St_whisperedInto_38 : decode bc_St_whisperedInto 38 = .ok (.iload_n 3, 1) := by decide +kernel
theorem d_St_whisperedInto_39 : decode bc_St_whisperedInto 39 = .ok (.ireturn, 1) := by decide +kernel
set_option maxRecDepth 20000 in
theorem w_St_whisperedInto_b5 {X : CX} {V : WV} {st : Nat} {tx : Nat} (hV : IsC V) (hst : isSt st) (htx : isTx tx) {S : Mem} {z : Int32} (hC : Ck X V bc_St_whisperedInto 5 "SecretWells$State" (some .int) 0 0) (k5 : Int32 → Int32 → Int32 → Option (Int32)) (hk5 : ∀ (x2 : Int32) (x3 : Int32) (x4 : Int32), k5 x2 x3 x4 = some z → G X V 5 (QI X V z S) 5 [some (.ref (V.2.2.1 st 0)), some (.ref (V.2.2.1 tx 0)), some (.int x2), some (.int x3), some (.int x4)] [] S) (x2 : Int32) (x3 : Int32) (x4 : Int32) (h : f_St_whisperedInto_b5 st tx S k5 x2 x3 x4 = some z) : G X V 5 (QI X V z S) 5 [some (.ref (V.2.2.1 st 0)), some (.ref (V.2.2.1 tx 0)), some (.int x2), some (.int x3), some (.int x4)] [] S := by
  unfold f_St_whisperedInto_b5 at h
  refine g_iload (pc := 5) hC (i := 4) (x := x4) rfl d_St_whisperedInto_5 ?_
  refine g_aload_n (pc := 7) hC (i := 1) (x := (V.2.2.1 tx 0)) rfl rfl d_St_whisperedInto_7 ?_
  refine g_getI (pc := 8) hC fo_St_95 (ob_Tx hV htx) rfl d_St_whisperedInto_8 ?_
  refine g_icmp_ge (pc := 11) hC (tgt := 38) (by decide) d_St_whisperedInto_11 h (fun h => ?_) (fun h => ?_)
  · refine g_iload_n (pc := 38) hC (i := 3) (x := x3) rfl rfl d_St_whisperedInto_38 ?_
    exact g_iN (pc := 39) hC rfl d_St_whisperedInto_39 h
  · refine g_aload_n (pc := 14) hC (i := 0) (x := (V.2.2.1 st 0)) rfl rfl d_St_whisperedInto_14 ?_
    refine g_getA (pc := 15) hC fo_St_37 (ob_St hV hst) rfl d_St_whisperedInto_15 ?_
    refine g_iload (pc := 18) hC (i := 4) (x := x4) rfl d_St_whisperedInto_18 ?_
    refine g_iald (pc := 20) hC (ar_St_8 hV hst) d_St_whisperedInto_20 h (fun h => ?_)
    refine g_iload_n (pc := 21) hC (i := 2) (x := x2) rfl rfl d_St_whisperedInto_21 ?_
    refine g_icmp_ne (pc := 22) hC (tgt := 32) (by decide) d_St_whisperedInto_22 h (fun h => ?_) (fun h => ?_)
    · refine s_iinc (pc := 32) hC (i := 4) (x := x4) (v := x4 + 1) rfl (by rw [kc_1]) (by decide) d_St_whisperedInto_32 (lv2 := [some (.ref (V.2.2.1 st 0)), some (.ref (V.2.2.1 tx 0)), some (.int x2), some (.int x3), some (.int (x4 + 1))]) rfl ?_
      refine g_goto (pc := 35) hC (tgt := 5) (by decide) d_St_whisperedInto_35 ?_
      exact hk5 x2 x3 (x4 + 1) h
    · refine g_iload_n (pc := 25) hC (i := 3) (x := x3) rfl rfl d_St_whisperedInto_25 ?_
      refine g_iconst (pc := 26) hC kc_1 d_St_whisperedInto_26 ?_
      refine g_iload (pc := 27) hC (i := 4) (x := x4) rfl d_St_whisperedInto_27 ?_
      refine g_ishl (pc := 29) hC d_St_whisperedInto_29 ?_
      refine g_ior (pc := 30) hC d_St_whisperedInto_30 ?_
      refine g_leti h (fun y31 h => ?_)
      refine s_istore_n (pc := 31) hC (i := 3) rfl (by decide) d_St_whisperedInto_31 (lv2 := [some (.ref (V.2.2.1 st 0)), some (.ref (V.2.2.1 tx 0)), some (.int x2), some (.int y31), some (.int x4)]) rfl ?_
      refine s_iinc (pc := 32) hC (i := 4) (x := x4) (v := x4 + 1) rfl (by rw [kc_1]) (by decide) d_St_whisperedInto_32 (lv2 := [some (.ref (V.2.2.1 st 0)), some (.ref (V.2.2.1 tx 0)), some (.int x2), some (.int y31), some (.int (x4 + 1))]) rfl ?_
      refine g_goto (pc := 35) hC (tgt := 5) (by decide) d_St_whisperedInto_35 ?_
      exact hk5 x2 y31 (x4 + 1) h
theorem w_St_whisperedInto_l5 {X : CX} {V : WV} {st : Nat} {tx : Nat} (hV : IsC V) (hst : isSt st) (htx : isTx tx) {S : Mem} {z : Int32} (hC : Ck X V bc_St_whisperedInto 5 "SecretWells$State" (some .int) 0 0) : ∀ (n : Nat) (x2 : Int32) (x3 : Int32) (x4 : Int32), f_St_whisperedInto_l5 st tx S n x2 x3 x4 = some z → G X V 5 (QI X V z S) 5 [some (.ref (V.2.2.1 st 0)), some (.ref (V.2.2.1 tx 0)), some (.int x2), some (.int x3), some (.int x4)] [] S := by
  intro n
  induction n with
  | zero =>
    intro x2 x3 x4 h
    have h : (none : Option (Int32)) = some z := h
    cases h
  | succ n ih =>
    intro x2 x3 x4 h
    exact w_St_whisperedInto_b5 hV hst htx hC (f_St_whisperedInto_l5 st tx S n) ih x2 x3 x4 h
set_option maxRecDepth 20000 in
theorem w_St_whisperedInto_b0 {X : CX} {V : WV} {st : Nat} {tx : Nat} (hV : IsC V) (hst : isSt st) (htx : isTx tx) {S : Mem} {z : Int32} (hC : Ck X V bc_St_whisperedInto 5 "SecretWells$State" (some .int) 0 0) (x2 : Int32) (h : f_St_whisperedInto_b0 st tx S x2 = some z) : G X V 5 (QI X V z S) 0 [some (.ref (V.2.2.1 st 0)), some (.ref (V.2.2.1 tx 0)), some (.int x2), none, none] [] S := by
  unfold f_St_whisperedInto_b0 at h
  refine g_iconst (pc := 0) hC kc_0 d_St_whisperedInto_0 ?_
  refine s_istore_n (pc := 1) hC (i := 3) rfl (by decide) d_St_whisperedInto_1 (lv2 := [some (.ref (V.2.2.1 st 0)), some (.ref (V.2.2.1 tx 0)), some (.int x2), some (.int 0), none]) rfl ?_
  refine g_iconst (pc := 2) hC kc_0 d_St_whisperedInto_2 ?_
  refine s_istore (pc := 3) hC (i := 4) (by decide) d_St_whisperedInto_3 (lv2 := [some (.ref (V.2.2.1 st 0)), some (.ref (V.2.2.1 tx 0)), some (.int x2), some (.int 0), some (.int 0)]) rfl ?_
  exact w_St_whisperedInto_l5 hV hst htx hC 5000 x2 0 0 h
theorem c_St_whisperedInto {V : WV} {l : Launch} (hV : IsC V) {st : Nat} {tx : Nat} (hst : isSt st) (htx : isTx tx) {x2 : Int32} {S : Mem} {z : Int32} (h : f_St_whisperedInto st tx x2 S = some z) : CI V l y_St_whisperedInto bc_St_whisperedInto 5 (some .int) 0 0 [.ref (V.2.2.1 st 0), .ref (V.2.2.1 tx 0), .int x2] S z S :=
  ct_i rfl (IsC.ok hV) (Nat.le_of_ble_eq_true rfl) (fun _ _ hC => w_St_whisperedInto_b0 hV hst htx hC x2 h)
