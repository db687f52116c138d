/-! methods of the bytecode as functions, and the machine's walks of them. By program (wip/whole/gen/make.py): Nt_alwaysSo, Nt_countDeeper, Nt_tellsMost, Pe_openTies, Pe_spread, Pe_fewestCuts, Pe_sharedByTwo, St_isKnownTo, Pe_heaviest, Pe_gatherPlayers, Pe_deepBy, Pe_gain, Pe_isRest, Pe_rests, Rn_choose, Rn_isOfUse, Rn_isLaid, Rn_whispers, Rn_mayBeBetter, St_copyOf -/
def f_Nt_alwaysSo_b56 (tx : Nat) (S : Mem) (k20 : Int32 → Int32 → Int32 → Int32 → Int32 → Int32 → Option (Int32)) (x2 : Int32) (x3 : Int32) (x4 : Int32) (x6 : Int32) (x7 : Int32) (s0 : Int32) (s1 : Int32) : Option (Int32) :=
  letS (s1 &&& s0) (fun y57 =>
  k20 x2 x3 x4 y57 x6 (x7 + 1))
def f_Nt_alwaysSo_b20 (tx : Nat) (S : Mem) (k20 : Int32 → Int32 → Int32 → Int32 → Int32 → Int32 → Option (Int32)) (x2 : Int32) (x3 : Int32) (x4 : Int32) (x5 : Int32) (x6 : Int32) (x7 : Int32) : Option (Int32) :=
  if x4 < x7 then
    if x6 = 0 then
      some 0
    else
      some x5
  else
    Option.bind (f_Nt_fits tx x2 x7 S) (fun q32 =>
    if q32 = 0 then
      k20 x2 x3 x4 x5 x6 (x7 + 1)
    else
      if x3 = 0 then
        f_Nt_alwaysSo_b56 tx S k20 x2 x3 x4 1 x7 x7 x5
      else
        f_Nt_alwaysSo_b56 tx S k20 x2 x3 x4 1 x7 (x7 ^^^ (-1)) x5)
def f_Nt_alwaysSo_l20 (tx : Nat) (S : Mem) : Nat → Int32 → Int32 → Int32 → Int32 → Int32 → Int32 → Option (Int32)
  | 0 => fun _ _ _ _ _ _ => none
  | n + 1 => f_Nt_alwaysSo_b20 tx S (f_Nt_alwaysSo_l20 tx S n)
def f_Nt_alwaysSo_b0 (tx : Nat) (S : Mem) (x2 : Int32) (x3 : Int32) : Option (Int32) :=
  letS (((1 : Int32) <<< ((S.1 tx 2) &&& 31)) - 1) (fun y8 =>
  f_Nt_alwaysSo_l20 tx S 5000 x2 x3 y8 y8 0 0)
def f_Nt_alwaysSo (tx : Nat) (x2 : Int32) (x3 : Int32) (S : Mem) : Option (Int32) := f_Nt_alwaysSo_b0 tx S x2 x3
theorem d_Nt_alwaysSo_0 : decode bc_Nt_alwaysSo 0 = .ok (.iconst 1, 1) := by decide +kernel
theorem d_Nt_alwaysSo_1 : decode bc_Nt_alwaysSo 1 = .ok (.aload_n 1, 1) := by decide +kernel
theorem d_Nt_alwaysSo_2 : decode bc_Nt_alwaysSo 2 = .ok (.getfield 33, 3) := by decide +kernel
theorem d_Nt_alwaysSo_5 : decode bc_Nt_alwaysSo 5 = .ok (.ishl, 1) := by decide +kernel
theorem d_Nt_alwaysSo_6 : decode bc_Nt_alwaysSo 6 = .ok (.iconst 1, 1) := by decide +kernel
theorem d_Nt_alwaysSo_7 : decode bc_Nt_alwaysSo 7 = .ok (.isub, 1) := by decide +kernel
theorem d_Nt_alwaysSo_8 : decode bc_Nt_alwaysSo 8 = .ok (.istore 4, 2) := by decide +kernel
theorem d_Nt_alwaysSo_10 : decode bc_Nt_alwaysSo 10 = .ok (.iload 4, 2) := by decide +kernel
theorem d_Nt_alwaysSo_12 : decode bc_Nt_alwaysSo 12 = .ok (.istore 5, 2) := by decide +kernel
theorem d_Nt_alwaysSo_14 : decode bc_Nt_alwaysSo 14 = .ok (.iconst 0, 1) := by decide +kernel
theorem d_Nt_alwaysSo_15 : decode bc_Nt_alwaysSo 15 = .ok (.istore 6, 2) := by decide +kernel
theorem d_Nt_alwaysSo_17 : decode bc_Nt_alwaysSo 17 = .ok (.iconst 0, 1) := by decide +kernel
theorem d_Nt_alwaysSo_18 : decode bc_Nt_alwaysSo 18 = .ok (.istore 7, 2) := by decide +kernel
theorem d_Nt_alwaysSo_20 : decode bc_Nt_alwaysSo 20 = .ok (.iload 7, 2) := by decide +kernel
theorem d_Nt_alwaysSo_22 : decode bc_Nt_alwaysSo 22 = .ok (.iload 4, 2) := by decide +kernel
theorem d_Nt_alwaysSo_24 : decode bc_Nt_alwaysSo 24 = .ok (.if_icmp .gt 41, 3) := by decide +kernel
theorem d_Nt_alwaysSo_27 : decode bc_Nt_alwaysSo 27 = .ok (.aload_n 0, 1) := by decide +kernel
theorem d_Nt_alwaysSo_28 : decode bc_Nt_alwaysSo 28 = .ok (.aload_n 1, 1) := by decide +kernel
theorem d_Nt_alwaysSo_29 : decode bc_Nt_alwaysSo 29 = .ok (.iload_n 2, 1) := by decide +kernel
theorem d_Nt_alwaysSo_30 : decode bc_Nt_alwaysSo 30 = .ok (.iload 7, 2) := by decide +kernel
theorem d_Nt_alwaysSo_32 : decode bc_Nt_alwaysSo 32 = .ok (.invokevirtual 39, 3) := by decide +kernel
theorem d_Nt_alwaysSo_35 : decode bc_Nt_alwaysSo 35 = .ok (.ifCond .eq 24, 3) := by decide +kernel
theorem d_Nt_alwaysSo_38 : decode bc_Nt_alwaysSo 38 = .ok (.iconst 1, 1) := by decide +kernel
theorem d_Nt_alwaysSo_39 : decode bc_Nt_alwaysSo 39 = .ok (.istore 6, 2) := by decide +kernel
theorem d_Nt_alwaysSo_41 : decode bc_Nt_alwaysSo 41 = .ok (.iload 5, 2) := by decide +kernel
theorem d_Nt_alwaysSo_43 : decode bc_Nt_alwaysSo 43 = .ok (.iload_n 3, 1) := by decide +kernel
theorem d_Nt_alwaysSo_44 : decode bc_Nt_alwaysSo 44 = .ok (.ifCond .eq 10, 3) := by decide +kernel
theorem d_Nt_alwaysSo_47 : decode bc_Nt_alwaysSo 47 = .ok (.iload 7, 2) := by decide +kernel
theorem d_Nt_alwaysSo_49 : decode bc_Nt_alwaysSo 49 = .ok (.iconst (-1), 1) := by decide +kernel
theorem d_Nt_alwaysSo_50 : decode bc_Nt_alwaysSo 50 = .ok (.ixor, 1) := by decide +kernel
theorem d_Nt_alwaysSo_51 : decode bc_Nt_alwaysSo 51 = .ok (.goto 5, 3) := by decide +kernel
theorem d_Nt_alwaysSo_54 : decode bc_Nt_alwaysSo 54 = .ok (.iload 7, 2) := by decide +kernel
theorem d_Nt_alwaysSo_56 : decode bc_Nt_alwaysSo 56 = .ok (.iand, 1) := by decide +kernel
theorem d_Nt_alwaysSo_57 : decode bc_Nt_alwaysSo 57 = .ok (.istore 5, 2) := by decide +kernel
theorem d_Nt_alwaysSo_59 : decode bc_Nt_alwaysSo 59 = .ok (.iinc 7 1, 3) := by decide +kernel
theorem d_Nt_alwaysSo_62 : decode bc_Nt_alwaysSo 62 = .ok (.goto (-42), 3) := by decide +kernel
theorem d_Nt_alwaysSo_65 : decode bc_Nt_alwaysSo 65 = .ok (.iload 6, 2) := by decide +kernel
theorem d_Nt_alwaysSo_67 : decode bc_Nt_alwaysSo 67 = .ok (.ifCond .eq 8, 3) := by decide +kernel
theorem d_Nt_alwaysSo_70 : decode bc_Nt_alwaysSo 70 = .ok (.iload 5, 2) := by decide +kernel
theorem d_Nt_alwaysSo_72 : decode bc_Nt_alwaysSo 72 = .ok (.goto 4, 3) := by decide +kernel
theorem d_Nt_alwaysSo_75 : decode bc_Nt_alwaysSo 75 = .ok (.iconst 0, 1) := by decide +kernel
theorem d_Nt_alwaysSo_76 : decode bc_Nt_alwaysSo 76 = .ok (.ireturn, 1) := by decide +kernel
set_option maxRecDepth 20000 in
theorem w_Nt_alwaysSo_b56 {X : CX} {V : WV} {tx : Nat} (hV : IsC V) (htx : isTx tx) {S : Mem} {z : Int32} (hC : Ck X V bc_Nt_alwaysSo 8 "SecretWells$Notes" (some .int) 1 27) (k20 : Int32 → Int32 → Int32 → Int32 → Int32 → Int32 → Option (Int32)) (hk20 : ∀ (x2 : Int32) (x3 : Int32) (x4 : Int32) (x5 : Int32) (x6 : Int32) (x7 : Int32), k20 x2 x3 x4 x5 x6 x7 = some z → G X V 8 (QI X V z S) 20 [some (.ref (V.2.2.1 9 0)), some (.ref (V.2.2.1 tx 0)), some (.int x2), some (.int x3), some (.int x4), some (.int x5), some (.int x6), some (.int x7)] [] S) (x2 : Int32) (x3 : Int32) (x4 : Int32) (x6 : Int32) (x7 : Int32) (s0 : Int32) (s1 : Int32) (h : f_Nt_alwaysSo_b56 tx S k20 x2 x3 x4 x6 x7 s0 s1 = some z) : G X V 8 (QI X V z S) 56 [some (.ref (V.2.2.1 9 0)), some (.ref (V.2.2.1 tx 0)), some (.int x2), some (.int x3), some (.int x4), none, some (.int x6), some (.int x7)] [.int s0, .int s1] S := by
  unfold f_Nt_alwaysSo_b56 at h
  refine g_iand (pc := 56) hC d_Nt_alwaysSo_56 ?_
  refine g_leti h (fun y57 h => ?_)
  refine s_istore (pc := 57) hC (i := 5) (by decide) d_Nt_alwaysSo_57 (lv2 := [some (.ref (V.2.2.1 9 0)), some (.ref (V.2.2.1 tx 0)), some (.int x2), some (.int x3), some (.int x4), some (.int y57), some (.int x6), some (.int x7)]) rfl ?_
  refine s_iinc (pc := 59) hC (i := 7) (x := x7) (v := x7 + 1) rfl (by rw [kc_1]) (by decide) d_Nt_alwaysSo_59 (lv2 := [some (.ref (V.2.2.1 9 0)), some (.ref (V.2.2.1 tx 0)), some (.int x2), some (.int x3), some (.int x4), some (.int y57), some (.int x6), some (.int (x7 + 1))]) rfl ?_
  refine g_goto (pc := 62) hC (tgt := 20) (by decide) d_Nt_alwaysSo_62 ?_
  exact hk20 x2 x3 x4 y57 x6 (x7 + 1) h
set_option maxRecDepth 20000 in
theorem w_Nt_alwaysSo_b20 {X : CX} {V : WV} {tx : Nat} (hV : IsC V) (htx : isTx tx) {S : Mem} {z : Int32} (hC : Ck X V bc_Nt_alwaysSo 8 "SecretWells$Notes" (some .int) 1 27) (k20 : Int32 → Int32 → Int32 → Int32 → Int32 → Int32 → Option (Int32)) (hk20 : ∀ (x2 : Int32) (x3 : Int32) (x4 : Int32) (x5 : Int32) (x6 : Int32) (x7 : Int32), k20 x2 x3 x4 x5 x6 x7 = some z → G X V 8 (QI X V z S) 20 [some (.ref (V.2.2.1 9 0)), some (.ref (V.2.2.1 tx 0)), some (.int x2), some (.int x3), some (.int x4), some (.int x5), some (.int x6), some (.int x7)] [] S) (x2 : Int32) (x3 : Int32) (x4 : Int32) (x5 : Int32) (x6 : Int32) (x7 : Int32) (h : f_Nt_alwaysSo_b20 tx S k20 x2 x3 x4 x5 x6 x7 = some z) : G X V 8 (QI X V z S) 20 [some (.ref (V.2.2.1 9 0)), some (.ref (V.2.2.1 tx 0)), some (.int x2), some (.int x3), some (.int x4), some (.int x5), some (.int x6), some (.int x7)] [] S := by
  unfold f_Nt_alwaysSo_b20 at h
  refine g_iload (pc := 20) hC (i := 7) (x := x7) rfl d_Nt_alwaysSo_20 ?_
  refine g_iload (pc := 22) hC (i := 4) (x := x4) rfl d_Nt_alwaysSo_22 ?_
  refine g_icmp_gt (pc := 24) hC (tgt := 65) (by decide) d_Nt_alwaysSo_24 h (fun h => ?_) (fun h => ?_)
  · refine g_iload (pc := 65) hC (i := 6) (x := x6) rfl d_Nt_alwaysSo_65 ?_
    refine g_if_eq (pc := 67) hC (tgt := 75) (by decide) d_Nt_alwaysSo_67 h (fun h => ?_) (fun h => ?_)
    · refine g_iconst (pc := 75) hC kc_0 d_Nt_alwaysSo_75 ?_
      exact g_iN (pc := 76) hC rfl d_Nt_alwaysSo_76 h
    · refine g_iload (pc := 70) hC (i := 5) (x := x5) rfl d_Nt_alwaysSo_70 ?_
      refine g_goto (pc := 72) hC (tgt := 76) (by decide) d_Nt_alwaysSo_72 ?_
      exact g_iN (pc := 76) hC rfl d_Nt_alwaysSo_76 h
  · refine g_aload_n (pc := 27) hC (i := 0) (x := (V.2.2.1 9 0)) rfl rfl d_Nt_alwaysSo_27 ?_
    refine g_aload_n (pc := 28) hC (i := 1) (x := (V.2.2.1 tx 0)) rfl rfl d_Nt_alwaysSo_28 ?_
    refine g_iload_n (pc := 29) hC (i := 2) (x := x2) rfl rfl d_Nt_alwaysSo_29 ?_
    refine g_iload (pc := 30) hC (i := 7) (x := x7) rfl d_Nt_alwaysSo_30 ?_
    obtain ⟨q32, hq32, h⟩ := Option.bind_eq_some_iff.mp h
    refine g_vi (pc := 32) hC (As := [.ref (V.2.2.1 tx 0), .int x2, .int x7]) (st := []) mt_Nt_fits lk_Nt_39 rfl (ob_Nt hV) (Nat.le_of_ble_eq_true rfl) ⟨Nat.le_of_ble_eq_true rfl, Nat.le_of_ble_eq_true rfl⟩ rfl d_Nt_alwaysSo_32 (c_Nt_fits hV htx hq32) ?_
    refine g_if_eq (pc := 35) hC (tgt := 59) (by decide) d_Nt_alwaysSo_35 h (fun h => ?_) (fun h => ?_)
    · refine s_iinc (pc := 59) hC (i := 7) (x := x7) (v := x7 + 1) rfl (by rw [kc_1]) (by decide) d_Nt_alwaysSo_59 (lv2 := [some (.ref (V.2.2.1 9 0)), some (.ref (V.2.2.1 tx 0)), some (.int x2), some (.int x3), some (.int x4), some (.int x5), some (.int x6), some (.int (x7 + 1))]) rfl ?_
      refine g_goto (pc := 62) hC (tgt := 20) (by decide) d_Nt_alwaysSo_62 ?_
      exact hk20 x2 x3 x4 x5 x6 (x7 + 1) h
    · refine g_iconst (pc := 38) hC kc_1 d_Nt_alwaysSo_38 ?_
      refine s_istore (pc := 39) hC (i := 6) (by decide) d_Nt_alwaysSo_39 (lv2 := [some (.ref (V.2.2.1 9 0)), some (.ref (V.2.2.1 tx 0)), some (.int x2), some (.int x3), some (.int x4), some (.int x5), some (.int 1), some (.int x7)]) rfl ?_
      refine g_iload (pc := 41) hC (i := 5) (x := x5) rfl d_Nt_alwaysSo_41 ?_
      refine g_iload_n (pc := 43) hC (i := 3) (x := x3) rfl rfl d_Nt_alwaysSo_43 ?_
      refine g_if_eq (pc := 44) hC (tgt := 54) (by decide) d_Nt_alwaysSo_44 h (fun h => ?_) (fun h => ?_)
      · refine g_iload (pc := 54) hC (i := 7) (x := x7) rfl d_Nt_alwaysSo_54 ?_
        refine g_le (lv2 := [some (.ref (V.2.2.1 9 0)), some (.ref (V.2.2.1 tx 0)), some (.int x2), some (.int x3), some (.int x4), none, some (.int 1), some (.int x7)]) (⟨rfl, ⟨rfl, ⟨rfl, ⟨rfl, ⟨rfl, ⟨rfl, ⟨rfl, trivial⟩⟩⟩⟩⟩⟩⟩) ?_
        exact w_Nt_alwaysSo_b56 hV htx hC k20 hk20 x2 x3 x4 1 x7 x7 x5 h
      · refine g_iload (pc := 47) hC (i := 7) (x := x7) rfl d_Nt_alwaysSo_47 ?_
        refine g_iconst (pc := 49) hC kc_m1 d_Nt_alwaysSo_49 ?_
        refine g_ixor (pc := 50) hC d_Nt_alwaysSo_50 ?_
        refine g_goto (pc := 51) hC (tgt := 56) (by decide) d_Nt_alwaysSo_51 ?_
        refine g_le (lv2 := [some (.ref (V.2.2.1 9 0)), some (.ref (V.2.2.1 tx 0)), some (.int x2), some (.int x3), some (.int x4), none, some (.int 1), some (.int x7)]) (⟨rfl, ⟨rfl, ⟨rfl, ⟨rfl, ⟨rfl, ⟨rfl, ⟨rfl, trivial⟩⟩⟩⟩⟩⟩⟩) ?_
        exact w_Nt_alwaysSo_b56 hV htx hC k20 hk20 x2 x3 x4 1 x7 (x7 ^^^ (-1)) x5 h
theorem w_Nt_alwaysSo_l20 {X : CX} {V : WV} {tx : Nat} (hV : IsC V) (htx : isTx tx) {S : Mem} {z : Int32} (hC : Ck X V bc_Nt_alwaysSo 8 "SecretWells$Notes" (some .int) 1 27) : ∀ (n : Nat) (x2 : Int32) (x3 : Int32) (x4 : Int32) (x5 : Int32) (x6 : Int32) (x7 : Int32), f_Nt_alwaysSo_l20 tx S n x2 x3 x4 x5 x6 x7 = some z → G X V 8 (QI X V z S) 20 [some (.ref (V.2.2.1 9 0)), some (.ref (V.2.2.1 tx 0)), some (.int x2), some (.int x3), some (.int x4), some (.int x5), some (.int x6), some (.int x7)] [] S := by
  intro n
  induction n with
  | zero =>
    intro x2 x3 x4 x5 x6 x7 h
    have h : (none : Option (Int32)) = some z := h
    cases h
  | succ n ih =>
    intro x2 x3 x4 x5 x6 x7 h
    exact w_Nt_alwaysSo_b20 hV htx hC (f_Nt_alwaysSo_l20 tx S n) ih x2 x3 x4 x5 x6 x7 h
set_option maxRecDepth 20000 in
theorem w_Nt_alwaysSo_b0 {X : CX} {V : WV} {tx : Nat} (hV : IsC V) (htx : isTx tx) {S : Mem} {z : Int32} (hC : Ck X V bc_Nt_alwaysSo 8 "SecretWells$Notes" (some .int) 1 27) (x2 : Int32) (x3 : Int32) (h : f_Nt_alwaysSo_b0 tx S x2 x3 = some z) : G X V 8 (QI X V z S) 0 [some (.ref (V.2.2.1 9 0)), some (.ref (V.2.2.1 tx 0)), some (.int x2), some (.int x3), none, none, none, none] [] S := by
  unfold f_Nt_alwaysSo_b0 at h
  refine g_iconst (pc := 0) hC kc_1 d_Nt_alwaysSo_0 ?_
  refine g_aload_n (pc := 1) hC (i := 1) (x := (V.2.2.1 tx 0)) rfl rfl d_Nt_alwaysSo_1 ?_
  refine g_getI (pc := 2) hC fo_Nt_33 (ob_Tx hV htx) rfl d_Nt_alwaysSo_2 ?_
  refine g_ishl (pc := 5) hC d_Nt_alwaysSo_5 ?_
  refine g_iconst (pc := 6) hC kc_1 d_Nt_alwaysSo_6 ?_
  refine g_isub (pc := 7) hC d_Nt_alwaysSo_7 ?_
  refine g_leti h (fun y8 h => ?_)
  refine s_istore (pc := 8) hC (i := 4) (by decide) d_Nt_alwaysSo_8 (lv2 := [some (.ref (V.2.2.1 9 0)), some (.ref (V.2.2.1 tx 0)), some (.int x2), some (.int x3), some (.int y8), none, none, none]) rfl ?_
  refine g_iload (pc := 10) hC (i := 4) (x := y8) rfl d_Nt_alwaysSo_10 ?_
  refine s_istore (pc := 12) hC (i := 5) (by decide) d_Nt_alwaysSo_12 (lv2 := [some (.ref (V.2.2.1 9 0)), some (.ref (V.2.2.1 tx 0)), some (.int x2), some (.int x3), some (.int y8), some (.int y8), none, none]) rfl ?_
  refine g_iconst (pc := 14) hC kc_0 d_Nt_alwaysSo_14 ?_
  refine s_istore (pc := 15) hC (i := 6) (by decide) d_Nt_alwaysSo_15 (lv2 := [some (.ref (V.2.2.1 9 0)), some (.ref (V.2.2.1 tx 0)), some (.int x2), some (.int x3), some (.int y8), some (.int y8), some (.int 0), none]) rfl ?_
  refine g_iconst (pc := 17) hC kc_0 d_Nt_alwaysSo_17 ?_
  refine s_istore (pc := 18) hC (i := 7) (by decide) d_Nt_alwaysSo_18 (lv2 := [some (.ref (V.2.2.1 9 0)), some (.ref (V.2.2.1 tx 0)), some (.int x2), some (.int x3), some (.int y8), some (.int y8), some (.int 0), some (.int 0)]) rfl ?_
  exact w_Nt_alwaysSo_l20 hV htx hC 5000 x2 x3 y8 y8 0 0 h
theorem c_Nt_alwaysSo {V : WV} {l : Launch} (hV : IsC V) {tx : Nat} (htx : isTx tx) {x2 : Int32} {x3 : Int32} {S : Mem} {z : Int32} (h : f_Nt_alwaysSo tx x2 x3 S = some z) : CI V l y_Nt_alwaysSo bc_Nt_alwaysSo 8 (some .int) 1 27 [.ref (V.2.2.1 9 0), .ref (V.2.2.1 tx 0), .int x2, .int x3] S z S :=
  ct_i rfl (IsC.ok hV) (Nat.le_of_ble_eq_true rfl) (fun _ _ hC => w_Nt_alwaysSo_b0 hV htx hC x2 x3 h)
def f_Nt_countDeeper_b44 (tx : Nat) (k13 : Int32 → Int32 → Int32 → Mem → Option (Int32 × Mem)) (k44 : Int32 → Int32 → Int32 → Int32 → Mem → Option (Int32 × Mem)) (x2 : Int32) (x3 : Int32) (x4 : Int32) (x5 : Int32) (S : Mem) : Option (Int32 × Mem) :=
  if (S.1 tx 2) ≤ x5 then
    k13 x2 x3 (x4 + 1) S
  else
    if ((x4 >>> (x5 &&& 31)) &&& 1) = 0 then
      k44 x2 x3 x4 (x5 + 1) S
    else
      gIn x5 8 (
      if (S.2.1 tx 14 x5.toNatClampNeg) ≤ 0 then
        k44 x2 x3 x4 (x5 + 1) S
      else
        gIn x5 8 (
        gIn x5 8 (letS (sA S 9 4 x5 ((S.2.1 9 4 x5.toNatClampNeg) + 1)) (fun S83 =>
        k44 x2 x3 x4 (x5 + 1) S83))))
def f_Nt_countDeeper_l44 (tx : Nat) (k13 : Int32 → Int32 → Int32 → Mem → Option (Int32 × Mem)) : Nat → Int32 → Int32 → Int32 → Int32 → Mem → Option (Int32 × Mem)
  | 0 => fun _ _ _ _ _ => none
  | n + 1 => f_Nt_countDeeper_b44 tx k13 (f_Nt_countDeeper_l44 tx k13 n)
def f_Nt_countDeeper_b13 (tx : Nat) (k13 : Int32 → Int32 → Int32 → Mem → Option (Int32 × Mem)) (x2 : Int32) (x3 : Int32) (x4 : Int32) (S : Mem) : Option (Int32 × Mem) :=
  if ((1 : Int32) <<< ((S.1 tx 2) &&& 31)) ≤ x4 then
    some (x3, S)
  else
    Option.bind (f_Nt_fits tx x2 x4 S) (fun q29 =>
    if q29 = 0 then
      k13 x2 x3 (x4 + 1) S
    else
      f_Nt_countDeeper_l44 tx k13 5000 x2 (x3 + 1) x4 0 S)
def f_Nt_countDeeper_l13 (tx : Nat) : Nat → Int32 → Int32 → Int32 → Mem → Option (Int32 × Mem)
  | 0 => fun _ _ _ _ => none
  | n + 1 => f_Nt_countDeeper_b13 tx (f_Nt_countDeeper_l13 tx n)
def f_Nt_countDeeper_b0 (tx : Nat) (x2 : Int32) (S : Mem) : Option (Int32 × Mem) :=
  Option.bind (f_JArr_fill 9 4 8 0 S) (fun q7 =>
  f_Nt_countDeeper_l13 tx 5000 x2 0 0 q7)
def f_Nt_countDeeper (tx : Nat) (x2 : Int32) (S : Mem) : Option (Int32 × Mem) := f_Nt_countDeeper_b0 tx x2 S
theorem d_Nt_countDeeper_0 : decode bc_Nt_countDeeper 0 = .ok (.iconst 0, 1) := by decide +kernel
theorem d_Nt_countDeeper_1 : decode bc_Nt_countDeeper 1 = .ok (.istore_n 3, 1) := by decide +kernel
theorem d_Nt_countDeeper_2 : decode bc_Nt_countDeeper 2 = .ok (.aload_n 0, 1) := by decide +kernel
theorem d_Nt_countDeeper_3 : decode bc_Nt_countDeeper 3 = .ok (.getfield 25, 3) := by decide +kernel
theorem d_Nt_countDeeper_6 : decode bc_Nt_countDeeper 6 = .ok (.iconst 0, 1) := by decide +kernel
theorem d_Nt_countDeeper_7 : decode bc_Nt_countDeeper 7 = .ok (.invokestatic 53, 3) := by decide +kernel
theorem d_Nt_countDeeper_10 : decode bc_Nt_countDeeper 10 = .ok (.iconst 0, 1) := by decide +kernel
theorem d_Nt_countDeeper_11 : decode bc_Nt_countDeeper 11 = .ok (.istore 4, 2) := by decide +kernel
theorem d_Nt_countDeeper_13 : decode bc_Nt_countDeeper 13 = .ok (.iload 4, 2) := by decide +kernel
theorem d_Nt_countDeeper_15 : decode bc_Nt_countDeeper 15 = .ok (.iconst 1, 1) := by decide +kernel
theorem d_Nt_countDeeper_16 : decode bc_Nt_countDeeper 16 = .ok (.aload_n 1, 1) := by decide +kernel
theorem d_Nt_countDeeper_17 : decode bc_Nt_countDeeper 17 = .ok (.getfield 33, 3) := by decide +kernel
theorem d_Nt_countDeeper_20 : decode bc_Nt_countDeeper 20 = .ok (.ishl, 1) := by decide +kernel
theorem d_Nt_countDeeper_21 : decode bc_Nt_countDeeper 21 = .ok (.if_icmp .ge 75, 3) := by decide +kernel
theorem d_Nt_countDeeper_24 : decode bc_Nt_countDeeper 24 = .ok (.aload_n 0, 1) := by decide +kernel
theorem d_Nt_countDeeper_25 : decode bc_Nt_countDeeper 25 = .ok (.aload_n 1, 1) := by decide +kernel
theorem d_Nt_countDeeper_26 : decode bc_Nt_countDeeper 26 = .ok (.iload_n 2, 1) := by decide +kernel
theorem d_Nt_countDeeper_27 : decode bc_Nt_countDeeper 27 = .ok (.iload 4, 2) := by decide +kernel
theorem d_Nt_countDeeper_29 : decode bc_Nt_countDeeper 29 = .ok (.invokevirtual 39, 3) := by decide +kernel
theorem d_Nt_countDeeper_32 : decode bc_Nt_countDeeper 32 = .ok (.ifCond .ne 6, 3) := by decide +kernel
theorem d_Nt_countDeeper_35 : decode bc_Nt_countDeeper 35 = .ok (.goto 55, 3) := by decide +kernel
theorem d_Nt_countDeeper_38 : decode bc_Nt_countDeeper 38 = .ok (.iinc 3 1, 3) := by decide +kernel
theorem d_Nt_countDeeper_41 : decode bc_Nt_countDeeper 41 = .ok (.iconst 0, 1) := by decide +kernel
theorem d_Nt_countDeeper_42 : decode bc_Nt_countDeeper 42 = .ok (.istore 5, 2) := by decide +kernel
theorem d_Nt_countDeeper_44 : decode bc_Nt_countDeeper 44 = .ok (.iload 5, 2) := by decide +kernel
theorem d_Nt_countDeeper_46 : decode bc_Nt_countDeeper 46 = .ok (.aload_n 1, 1) := by decide +kernel
theorem d_Nt_countDeeper_47 : decode bc_Nt_countDeeper 47 = .ok (.getfield 33, 3) := by decide +kernel
theorem d_Nt_countDeeper_50 : decode bc_Nt_countDeeper 50 = .ok (.if_icmp .ge 40, 3) := by decide +kernel
theorem d_Nt_countDeeper_53 : decode bc_Nt_countDeeper 53 = .ok (.iload 4, 2) := by decide +kernel
theorem d_Nt_countDeeper_55 : decode bc_Nt_countDeeper 55 = .ok (.iload 5, 2) := by decide +kernel
theorem d_Nt_countDeeper_57 : decode bc_Nt_countDeeper 57 = .ok (.ishr, 1) := by decide +kernel
theorem d_Nt_countDeeper_58 : decode bc_Nt_countDeeper 58 = .ok (.iconst 1, 1) := by decide +kernel
theorem d_Nt_countDeeper_59 : decode bc_Nt_countDeeper 59 = .ok (.iand, 1) := by decide +kernel
theorem d_Nt_countDeeper_60 : decode bc_Nt_countDeeper 60 = .ok (.ifCond .eq 24, 3) := by decide +kernel
theorem d_Nt_countDeeper_63 : decode bc_Nt_countDeeper 63 = .ok (.aload_n 1, 1) := by decide +kernel
theorem d_Nt_countDeeper_64 : decode bc_Nt_countDeeper 64 = .ok (.getfield 36, 3) := by decide +kernel
theorem d_Nt_countDeeper_67 : decode bc_Nt_countDeeper 67 = .ok (.iload 5, 2) := by decide +kernel
theorem d_Nt_countDeeper_69 : decode bc_Nt_countDeeper 69 = .ok (.iaload, 1) := by decide +kernel
theorem d_Nt_countDeeper_70 : decode bc_Nt_countDeeper 70 = .ok (.ifCond .le 14, 3) := by decide +kernel
theorem d_Nt_countDeeper_73 : decode bc_Nt_countDeeper 73 = .ok (.aload_n 0, 1) := by decide +kernel
theorem d_Nt_countDeeper_74 : decode bc_Nt_countDeeper 74 = .ok (.getfield 25, 3) := by decide +kernel
theorem d_Nt_countDeeper_77 : decode bc_Nt_countDeeper 77 = .ok (.iload 5, 2) := by decide +kernel
theorem d_Nt_countDeeper_79 : decode bc_Nt_countDeeper 79 = .ok (.dup2, 1) := by decide +kernel
theorem d_Nt_countDeeper_80 : decode bc_Nt_countDeeper 80 = .ok (.iaload, 1) := by decide +kernel
theorem d_Nt_countDeeper_81 : decode bc_Nt_countDeeper 81 = .ok (.iconst 1, 1) := by decide +kernel
theorem d_Nt_countDeeper_82 : decode bc_Nt_countDeeper 82 = .ok (.iadd, 1) := by decide +kernel
theorem d_Nt_countDeeper_83 : decode bc_Nt_countDeeper 83 = .ok (.iastore, 1) := by decide +kernel
theorem d_Nt_countDeeper_84 : decode bc_Nt_countDeeper 84 = .ok (.iinc 5 1, 3) := by decide +kernel
theorem d_Nt_countDeeper_87 : decode bc_Nt_countDeeper 87 = .ok (.goto (-43), 3) := by decide +kernel
theorem d_Nt_countDeeper_90 : decode bc_Nt_countDeeper 90 = .ok (.iinc 4 1, 3) := by decide +kernel
theorem d_Nt_countDeeper_93 : decode bc_Nt_countDeeper 93 = .ok (.goto (-80), 3) := by decide +kernel
theorem d_Nt_countDeeper_96 : decode bc_Nt_countDeeper 96 = .ok (.iload_n 3, 1) := by decide +kernel
theorem d_Nt_countDeeper_97 : decode bc_Nt_countDeeper 97 = .ok (.ireturn, 1) := by decide +kernel
set_option maxRecDepth 20000 in
theorem w_Nt_countDeeper_b44 {X : CX} {V : WV} {tx : Nat} (hV : IsC V) (htx : isTx tx) {z : Int32 × Mem} (hC : Ck X V bc_Nt_countDeeper 6 "SecretWells$Notes" (some .int) 1 27) (k13 : Int32 → Int32 → Int32 → Mem → Option (Int32 × Mem)) (hk13 : ∀ (x2 : Int32) (x3 : Int32) (x4 : Int32) (S : Mem), k13 x2 x3 x4 S = some z → G X V 6 (QI X V z.1 z.2) 13 [some (.ref (V.2.2.1 9 0)), some (.ref (V.2.2.1 tx 0)), some (.int x2), some (.int x3), some (.int x4), none] [] S) (k44 : Int32 → Int32 → Int32 → Int32 → Mem → Option (Int32 × Mem)) (hk44 : ∀ (x2 : Int32) (x3 : Int32) (x4 : Int32) (x5 : Int32) (S : Mem), k44 x2 x3 x4 x5 S = some z → G X V 6 (QI X V z.1 z.2) 44 [some (.ref (V.2.2.1 9 0)), some (.ref (V.2.2.1 tx 0)), some (.int x2), some (.int x3), some (.int x4), some (.int x5)] [] S) (x2 : Int32) (x3 : Int32) (x4 : Int32) (x5 : Int32) (S : Mem) (h : f_Nt_countDeeper_b44 tx k13 k44 x2 x3 x4 x5 S = some z) : G X V 6 (QI X V z.1 z.2) 44 [some (.ref (V.2.2.1 9 0)), some (.ref (V.2.2.1 tx 0)), some (.int x2), some (.int x3), some (.int x4), some (.int x5)] [] S := by
  unfold f_Nt_countDeeper_b44 at h
  refine g_iload (pc := 44) hC (i := 5) (x := x5) rfl d_Nt_countDeeper_44 ?_
  refine g_aload_n (pc := 46) hC (i := 1) (x := (V.2.2.1 tx 0)) rfl rfl d_Nt_countDeeper_46 ?_
  refine g_getI (pc := 47) hC fo_Nt_33 (ob_Tx hV htx) rfl d_Nt_countDeeper_47 ?_
  refine g_icmp_ge (pc := 50) hC (tgt := 90) (by decide) d_Nt_countDeeper_50 h (fun h => ?_) (fun h => ?_)
  · refine s_iinc (pc := 90) hC (i := 4) (x := x4) (v := x4 + 1) rfl (by rw [kc_1]) (by decide) d_Nt_countDeeper_90 (lv2 := [some (.ref (V.2.2.1 9 0)), some (.ref (V.2.2.1 tx 0)), some (.int x2), some (.int x3), some (.int (x4 + 1)), some (.int x5)]) rfl ?_
    refine g_goto (pc := 93) hC (tgt := 13) (by decide) d_Nt_countDeeper_93 ?_
    refine g_le (lv2 := [some (.ref (V.2.2.1 9 0)), some (.ref (V.2.2.1 tx 0)), some (.int x2), some (.int x3), some (.int (x4 + 1)), none]) (⟨rfl, ⟨rfl, ⟨rfl, ⟨rfl, ⟨rfl, trivial⟩⟩⟩⟩⟩) ?_
    exact hk13 x2 x3 (x4 + 1) S h
  · refine g_iload (pc := 53) hC (i := 4) (x := x4) rfl d_Nt_countDeeper_53 ?_
    refine g_iload (pc := 55) hC (i := 5) (x := x5) rfl d_Nt_countDeeper_55 ?_
    refine g_ishr (pc := 57) hC d_Nt_countDeeper_57 ?_
    refine g_iconst (pc := 58) hC kc_1 d_Nt_countDeeper_58 ?_
    refine g_iand (pc := 59) hC d_Nt_countDeeper_59 ?_
    refine g_if_eq (pc := 60) hC (tgt := 84) (by decide) d_Nt_countDeeper_60 h (fun h => ?_) (fun h => ?_)
    · refine s_iinc (pc := 84) hC (i := 5) (x := x5) (v := x5 + 1) rfl (by rw [kc_1]) (by decide) d_Nt_countDeeper_84 (lv2 := [some (.ref (V.2.2.1 9 0)), some (.ref (V.2.2.1 tx 0)), some (.int x2), some (.int x3), some (.int x4), some (.int (x5 + 1))]) rfl ?_
      refine g_goto (pc := 87) hC (tgt := 44) (by decide) d_Nt_countDeeper_87 ?_
      exact hk44 x2 x3 x4 (x5 + 1) S h
    · refine g_aload_n (pc := 63) hC (i := 1) (x := (V.2.2.1 tx 0)) rfl rfl d_Nt_countDeeper_63 ?_
      refine g_getA (pc := 64) hC fo_Nt_36 (ob_Tx hV htx) rfl d_Nt_countDeeper_64 ?_
      refine g_iload (pc := 67) hC (i := 5) (x := x5) rfl d_Nt_countDeeper_67 ?_
      refine g_iald (pc := 69) hC (ar_Tx_14 hV htx) d_Nt_countDeeper_69 h (fun h => ?_)
      refine g_if_le (pc := 70) hC (tgt := 84) (by decide) d_Nt_countDeeper_70 h (fun h => ?_) (fun h => ?_)
      · refine s_iinc (pc := 84) hC (i := 5) (x := x5) (v := x5 + 1) rfl (by rw [kc_1]) (by decide) d_Nt_countDeeper_84 (lv2 := [some (.ref (V.2.2.1 9 0)), some (.ref (V.2.2.1 tx 0)), some (.int x2), some (.int x3), some (.int x4), some (.int (x5 + 1))]) rfl ?_
        refine g_goto (pc := 87) hC (tgt := 44) (by decide) d_Nt_countDeeper_87 ?_
        exact hk44 x2 x3 x4 (x5 + 1) S h
      · refine g_aload_n (pc := 73) hC (i := 0) (x := (V.2.2.1 9 0)) rfl rfl d_Nt_countDeeper_73 ?_
        refine g_getA (pc := 74) hC fo_Nt_25 (ob_Nt hV) rfl d_Nt_countDeeper_74 ?_
        refine g_iload (pc := 77) hC (i := 5) (x := x5) rfl d_Nt_countDeeper_77 ?_
        refine g_dup2 (pc := 79) hC rfl rfl d_Nt_countDeeper_79 ?_
        refine g_iald (pc := 80) hC (ar_Nt_4 hV) d_Nt_countDeeper_80 h (fun h => ?_)
        refine g_iconst (pc := 81) hC kc_1 d_Nt_countDeeper_81 ?_
        refine g_iadd (pc := 82) hC d_Nt_countDeeper_82 ?_
        refine g_iast (pc := 83) hC (ar_Nt_4 hV) d_Nt_countDeeper_83 h (fun h => ?_)
        refine g_letS h (fun S83 h => ?_)
        refine s_iinc (pc := 84) hC (i := 5) (x := x5) (v := x5 + 1) rfl (by rw [kc_1]) (by decide) d_Nt_countDeeper_84 (lv2 := [some (.ref (V.2.2.1 9 0)), some (.ref (V.2.2.1 tx 0)), some (.int x2), some (.int x3), some (.int x4), some (.int (x5 + 1))]) rfl ?_
        refine g_goto (pc := 87) hC (tgt := 44) (by decide) d_Nt_countDeeper_87 ?_
        exact hk44 x2 x3 x4 (x5 + 1) S83 h
theorem w_Nt_countDeeper_l44 {X : CX} {V : WV} {tx : Nat} (hV : IsC V) (htx : isTx tx) {z : Int32 × Mem} (hC : Ck X V bc_Nt_countDeeper 6 "SecretWells$Notes" (some .int) 1 27) (k13 : Int32 → Int32 → Int32 → Mem → Option (Int32 × Mem)) (hk13 : ∀ (x2 : Int32) (x3 : Int32) (x4 : Int32) (S : Mem), k13 x2 x3 x4 S = some z → G X V 6 (QI X V z.1 z.2) 13 [some (.ref (V.2.2.1 9 0)), some (.ref (V.2.2.1 tx 0)), some (.int x2), some (.int x3), some (.int x4), none] [] S) : ∀ (n : Nat) (x2 : Int32) (x3 : Int32) (x4 : Int32) (x5 : Int32) (S : Mem), f_Nt_countDeeper_l44 tx k13 n x2 x3 x4 x5 S = some z → G X V 6 (QI X V z.1 z.2) 44 [some (.ref (V.2.2.1 9 0)), some (.ref (V.2.2.1 tx 0)), some (.int x2), some (.int x3), some (.int x4), some (.int x5)] [] S := by
  intro n
  induction n with
  | zero =>
    intro x2 x3 x4 x5 S h
    have h : (none : Option (Int32 × Mem)) = some z := h
    cases h
  | succ n ih =>
    intro x2 x3 x4 x5 S h
    exact w_Nt_countDeeper_b44 hV htx hC k13 hk13 (f_Nt_countDeeper_l44 tx k13 n) ih x2 x3 x4 x5 S h
set_option maxRecDepth 20000 in
theorem w_Nt_countDeeper_b13 {X : CX} {V : WV} {tx : Nat} (hV : IsC V) (htx : isTx tx) {z : Int32 × Mem} (hC : Ck X V bc_Nt_countDeeper 6 "SecretWells$Notes" (some .int) 1 27) (k13 : Int32 → Int32 → Int32 → Mem → Option (Int32 × Mem)) (hk13 : ∀ (x2 : Int32) (x3 : Int32) (x4 : Int32) (S : Mem), k13 x2 x3 x4 S = some z → G X V 6 (QI X V z.1 z.2) 13 [some (.ref (V.2.2.1 9 0)), some (.ref (V.2.2.1 tx 0)), some (.int x2), some (.int x3), some (.int x4), none] [] S) (x2 : Int32) (x3 : Int32) (x4 : Int32) (S : Mem) (h : f_Nt_countDeeper_b13 tx k13 x2 x3 x4 S = some z) : G X V 6 (QI X V z.1 z.2) 13 [some (.ref (V.2.2.1 9 0)), some (.ref (V.2.2.1 tx 0)), some (.int x2), some (.int x3), some (.int x4), none] [] S := by
  unfold f_Nt_countDeeper_b13 at h
  refine g_iload (pc := 13) hC (i := 4) (x := x4) rfl d_Nt_countDeeper_13 ?_
  refine g_iconst (pc := 15) hC kc_1 d_Nt_countDeeper_15 ?_
  refine g_aload_n (pc := 16) hC (i := 1) (x := (V.2.2.1 tx 0)) rfl rfl d_Nt_countDeeper_16 ?_
  refine g_getI (pc := 17) hC fo_Nt_33 (ob_Tx hV htx) rfl d_Nt_countDeeper_17 ?_
  refine g_ishl (pc := 20) hC d_Nt_countDeeper_20 ?_
  refine g_icmp_ge (pc := 21) hC (tgt := 96) (by decide) d_Nt_countDeeper_21 h (fun h => ?_) (fun h => ?_)
  · refine g_iload_n (pc := 96) hC (i := 3) (x := x3) rfl rfl d_Nt_countDeeper_96 ?_
    exact g_iW (pc := 97) hC rfl d_Nt_countDeeper_97 h
  · refine g_aload_n (pc := 24) hC (i := 0) (x := (V.2.2.1 9 0)) rfl rfl d_Nt_countDeeper_24 ?_
    refine g_aload_n (pc := 25) hC (i := 1) (x := (V.2.2.1 tx 0)) rfl rfl d_Nt_countDeeper_25 ?_
    refine g_iload_n (pc := 26) hC (i := 2) (x := x2) rfl rfl d_Nt_countDeeper_26 ?_
    refine g_iload (pc := 27) hC (i := 4) (x := x4) rfl d_Nt_countDeeper_27 ?_
    obtain ⟨q29, hq29, h⟩ := Option.bind_eq_some_iff.mp h
    refine g_vi (pc := 29) hC (As := [.ref (V.2.2.1 tx 0), .int x2, .int x4]) (st := []) mt_Nt_fits lk_Nt_39 rfl (ob_Nt hV) (Nat.le_of_ble_eq_true rfl) ⟨Nat.le_of_ble_eq_true rfl, Nat.le_of_ble_eq_true rfl⟩ rfl d_Nt_countDeeper_29 (c_Nt_fits hV htx hq29) ?_
    refine g_if_ne (pc := 32) hC (tgt := 38) (by decide) d_Nt_countDeeper_32 h (fun h => ?_) (fun h => ?_)
    · refine s_iinc (pc := 38) hC (i := 3) (x := x3) (v := x3 + 1) rfl (by rw [kc_1]) (by decide) d_Nt_countDeeper_38 (lv2 := [some (.ref (V.2.2.1 9 0)), some (.ref (V.2.2.1 tx 0)), some (.int x2), some (.int (x3 + 1)), some (.int x4), none]) rfl ?_
      refine g_iconst (pc := 41) hC kc_0 d_Nt_countDeeper_41 ?_
      refine s_istore (pc := 42) hC (i := 5) (by decide) d_Nt_countDeeper_42 (lv2 := [some (.ref (V.2.2.1 9 0)), some (.ref (V.2.2.1 tx 0)), some (.int x2), some (.int (x3 + 1)), some (.int x4), some (.int 0)]) rfl ?_
      exact w_Nt_countDeeper_l44 hV htx hC k13 hk13 5000 x2 (x3 + 1) x4 0 S h
    · refine g_goto (pc := 35) hC (tgt := 90) (by decide) d_Nt_countDeeper_35 ?_
      refine s_iinc (pc := 90) hC (i := 4) (x := x4) (v := x4 + 1) rfl (by rw [kc_1]) (by decide) d_Nt_countDeeper_90 (lv2 := [some (.ref (V.2.2.1 9 0)), some (.ref (V.2.2.1 tx 0)), some (.int x2), some (.int x3), some (.int (x4 + 1)), none]) rfl ?_
      refine g_goto (pc := 93) hC (tgt := 13) (by decide) d_Nt_countDeeper_93 ?_
      exact hk13 x2 x3 (x4 + 1) S h
theorem w_Nt_countDeeper_l13 {X : CX} {V : WV} {tx : Nat} (hV : IsC V) (htx : isTx tx) {z : Int32 × Mem} (hC : Ck X V bc_Nt_countDeeper 6 "SecretWells$Notes" (some .int) 1 27) : ∀ (n : Nat) (x2 : Int32) (x3 : Int32) (x4 : Int32) (S : Mem), f_Nt_countDeeper_l13 tx n x2 x3 x4 S = some z → G X V 6 (QI X V z.1 z.2) 13 [some (.ref (V.2.2.1 9 0)), some (.ref (V.2.2.1 tx 0)), some (.int x2), some (.int x3), some (.int x4), none] [] S := by
  intro n
  induction n with
  | zero =>
    intro x2 x3 x4 S h
    have h : (none : Option (Int32 × Mem)) = some z := h
    cases h
  | succ n ih =>
    intro x2 x3 x4 S h
    exact w_Nt_countDeeper_b13 hV htx hC (f_Nt_countDeeper_l13 tx n) ih x2 x3 x4 S h
set_option maxRecDepth 20000 in
theorem w_Nt_countDeeper_b0 {X : CX} {V : WV} {tx : Nat} (hV : IsC V) (htx : isTx tx) {z : Int32 × Mem} (hC : Ck X V bc_Nt_countDeeper 6 "SecretWells$Notes" (some .int) 1 27) (x2 : Int32) (S : Mem) (h : f_Nt_countDeeper_b0 tx x2 S = some z) : G X V 6 (QI X V z.1 z.2) 0 [some (.ref (V.2.2.1 9 0)), some (.ref (V.2.2.1 tx 0)), some (.int x2), none, none, none] [] S := by
  unfold f_Nt_countDeeper_b0 at h
  refine g_iconst (pc := 0) hC kc_0 d_Nt_countDeeper_0 ?_
  refine s_istore_n (pc := 1) hC (i := 3) rfl (by decide) d_Nt_countDeeper_1 (lv2 := [some (.ref (V.2.2.1 9 0)), some (.ref (V.2.2.1 tx 0)), some (.int x2), some (.int 0), none, none]) rfl ?_
  refine g_aload_n (pc := 2) hC (i := 0) (x := (V.2.2.1 9 0)) rfl rfl d_Nt_countDeeper_2 ?_
  refine g_getA (pc := 3) hC fo_Nt_25 (ob_Nt hV) rfl d_Nt_countDeeper_3 ?_
  refine g_iconst (pc := 6) hC kc_0 d_Nt_countDeeper_6 ?_
  obtain ⟨q7, hq7, h⟩ := Option.bind_eq_some_iff.mp h
  refine g_sv (pc := 7) hC (As := [.ref (V.2.2.1 9 (4 + 1)), .int 0]) (st := []) mt_JArr_fill lk_Nt_53 (Nat.le_of_ble_eq_true rfl) ⟨Nat.le_of_ble_eq_true rfl, Nat.le_of_ble_eq_true rfl⟩ rfl d_Nt_countDeeper_7 (c_JArr_fill (IsC.ok hV) (ar_Nt_4 hV) hq7) ?_
  refine g_iconst (pc := 10) hC kc_0 d_Nt_countDeeper_10 ?_
  refine s_istore (pc := 11) hC (i := 4) (by decide) d_Nt_countDeeper_11 (lv2 := [some (.ref (V.2.2.1 9 0)), some (.ref (V.2.2.1 tx 0)), some (.int x2), some (.int 0), some (.int 0), none]) rfl ?_
  exact w_Nt_countDeeper_l13 hV htx hC 5000 x2 0 0 q7 h
theorem c_Nt_countDeeper {V : WV} {l : Launch} (hV : IsC V) {tx : Nat} (htx : isTx tx) {x2 : Int32} {S : Mem} {z : Int32 × Mem} (h : f_Nt_countDeeper tx x2 S = some z) : CI V l y_Nt_countDeeper bc_Nt_countDeeper 6 (some .int) 1 27 [.ref (V.2.2.1 9 0), .ref (V.2.2.1 tx 0), .int x2] S z.1 z.2 :=
  ct_i rfl (IsC.ok hV) (Nat.le_of_ble_eq_true rfl) (fun _ _ hC => w_Nt_countDeeper_b0 hV htx hC x2 S h)
def f_Nt_tellsMost_b25 (tx : Nat) (k25 : Int32 → Int32 → Int32 → Int32 → Int32 → Mem → Option (Int32 × Mem)) (x3 : Int32) (x4 : Int32) (x5 : Int32) (x6 : Int32) (x7 : Int32) (S : Mem) : Option (Int32 × Mem) :=
  if (S.1 tx 2) ≤ x7 then
    if x5 = (-1) then
      some ((-2), S)
    else
      if x3 = 0 then
        some (x5, S)
      else
        some (x6, S)
  else
    gIn x7 8 (
    gIn x7 8 (
    letS (jMmax (S.2.1 9 4 x7.toNatClampNeg) (x4 - (S.2.1 9 4 x7.toNatClampNeg))) (fun y54 =>
    if x5 = (-1) then
      k25 x3 x4 x7 y54 (x7 + 1) S
    else
      if x6 ≤ y54 then
        k25 x3 x4 x5 x6 (x7 + 1) S
      else
        k25 x3 x4 x7 y54 (x7 + 1) S)))
def f_Nt_tellsMost_l25 (tx : Nat) : Nat → Int32 → Int32 → Int32 → Int32 → Int32 → Mem → Option (Int32 × Mem)
  | 0 => fun _ _ _ _ _ _ => none
  | n + 1 => f_Nt_tellsMost_b25 tx (f_Nt_tellsMost_l25 tx n)
def f_Nt_tellsMost_b0 (tx : Nat) (x2 : Int32) (x3 : Int32) (S : Mem) : Option (Int32 × Mem) :=
  Option.bind (f_Nt_countDeeper tx x2 S) (fun q3 =>
  letS q3.1 (fun y6 =>
  if y6 = 0 then
    some ((-2), q3.2)
  else
    f_Nt_tellsMost_l25 tx 5000 x3 y6 (-1) 0 0 q3.2))
def f_Nt_tellsMost (tx : Nat) (x2 : Int32) (x3 : Int32) (S : Mem) : Option (Int32 × Mem) := f_Nt_tellsMost_b0 tx x2 x3 S
theorem d_Nt_tellsMost_0 : decode bc_Nt_tellsMost 0 = .ok (.aload_n 0, 1) := by decide +kernel
theorem d_Nt_tellsMost_1 : decode bc_Nt_tellsMost 1 = .ok (.aload_n 1, 1) := by decide +kernel
theorem d_Nt_tellsMost_2 : decode bc_Nt_tellsMost 2 = .ok (.iload_n 2, 1) := by decide +kernel
theorem d_Nt_tellsMost_3 : decode bc_Nt_tellsMost 3 = .ok (.invokevirtual 43, 3) := by decide +kernel
theorem d_Nt_tellsMost_6 : decode bc_Nt_tellsMost 6 = .ok (.istore 4, 2) := by decide +kernel
theorem d_Nt_tellsMost_8 : decode bc_Nt_tellsMost 8 = .ok (.iload 4, 2) := by decide +kernel
theorem d_Nt_tellsMost_10 : decode bc_Nt_tellsMost 10 = .ok (.ifCond .ne 6, 3) := by decide +kernel
theorem d_Nt_tellsMost_13 : decode bc_Nt_tellsMost 13 = .ok (.bipush (-2), 2) := by decide +kernel
theorem d_Nt_tellsMost_15 : decode bc_Nt_tellsMost 15 = .ok (.ireturn, 1) := by decide +kernel
theorem d_Nt_tellsMost_16 : decode bc_Nt_tellsMost 16 = .ok (.iconst (-1), 1) := by decide +kernel
theorem d_Nt_tellsMost_17 : decode bc_Nt_tellsMost 17 = .ok (.istore 5, 2) := by decide +kernel
theorem d_Nt_tellsMost_19 : decode bc_Nt_tellsMost 19 = .ok (.iconst 0, 1) := by decide +kernel
theorem d_Nt_tellsMost_20 : decode bc_Nt_tellsMost 20 = .ok (.istore 6, 2) := by decide +kernel
theorem d_Nt_tellsMost_22 : decode bc_Nt_tellsMost 22 = .ok (.iconst 0, 1) := by decide +kernel
theorem d_Nt_tellsMost_23 : decode bc_Nt_tellsMost 23 = .ok (.istore 7, 2) := by decide +kernel
theorem d_Nt_tellsMost_25 : decode bc_Nt_tellsMost 25 = .ok (.iload 7, 2) := by decide +kernel
theorem d_Nt_tellsMost_27 : decode bc_Nt_tellsMost 27 = .ok (.aload_n 1, 1) := by decide +kernel
theorem d_Nt_tellsMost_28 : decode bc_Nt_tellsMost 28 = .ok (.getfield 33, 3) := by decide +kernel
theorem d_Nt_tellsMost_31 : decode bc_Nt_tellsMost 31 = .ok (.if_icmp .ge 52, 3) := by decide +kernel
theorem d_Nt_tellsMost_34 : decode bc_Nt_tellsMost 34 = .ok (.aload_n 0, 1) := by decide +kernel
theorem d_Nt_tellsMost_35 : decode bc_Nt_tellsMost 35 = .ok (.getfield 25, 3) := by decide +kernel
theorem d_Nt_tellsMost_38 : decode bc_Nt_tellsMost 38 = .ok (.iload 7, 2) := by decide +kernel
theorem d_Nt_tellsMost_40 : decode bc_Nt_tellsMost 40 = .ok (.iaload, 1) := by decide +kernel
theorem d_Nt_tellsMost_41 : decode bc_Nt_tellsMost 41 = .ok (.iload 4, 2) := by decide +kernel
theorem d_Nt_tellsMost_43 : decode bc_Nt_tellsMost 43 = .ok (.aload_n 0, 1) := by decide +kernel
theorem d_Nt_tellsMost_44 : decode bc_Nt_tellsMost 44 = .ok (.getfield 25, 3) := by decide +kernel
theorem d_Nt_tellsMost_47 : decode bc_Nt_tellsMost 47 = .ok (.iload 7, 2) := by decide +kernel
theorem d_Nt_tellsMost_49 : decode bc_Nt_tellsMost 49 = .ok (.iaload, 1) := by decide +kernel
theorem d_Nt_tellsMost_50 : decode bc_Nt_tellsMost 50 = .ok (.isub, 1) := by decide +kernel
theorem d_Nt_tellsMost_51 : decode bc_Nt_tellsMost 51 = .ok (.invokestatic 47, 3) := by decide +kernel
theorem d_Nt_tellsMost_54 : decode bc_Nt_tellsMost 54 = .ok (.istore 8, 2) := by decide +kernel
theorem d_Nt_tellsMost_56 : decode bc_Nt_tellsMost 56 = .ok (.iload 5, 2) := by decide +kernel
theorem d_Nt_tellsMost_58 : decode bc_Nt_tellsMost 58 = .ok (.iconst (-1), 1) := by decide +kernel
theorem d_Nt_tellsMost_59 : decode bc_Nt_tellsMost 59 = .ok (.if_icmp .eq 10, 3) := by decide +kernel
theorem d_Nt_tellsMost_62 : decode bc_Nt_tellsMost 62 = .ok (.iload 8, 2) := by decide +kernel
theorem d_Nt_tellsMost_64 : decode bc_Nt_tellsMost 64 = .ok (.iload 6, 2) := by decide +kernel
theorem d_Nt_tellsMost_66 : decode bc_Nt_tellsMost 66 = .ok (.if_icmp .ge 11, 3) := by decide +kernel
theorem d_Nt_tellsMost_69 : decode bc_Nt_tellsMost 69 = .ok (.iload 7, 2) := by decide +kernel
theorem d_Nt_tellsMost_71 : decode bc_Nt_tellsMost 71 = .ok (.istore 5, 2) := by decide +kernel
theorem d_Nt_tellsMost_73 : decode bc_Nt_tellsMost 73 = .ok (.iload 8, 2) := by decide +kernel
theorem d_Nt_tellsMost_75 : decode bc_Nt_tellsMost 75 = .ok (.istore 6, 2) := by decide +kernel
theorem d_Nt_tellsMost_77 : decode bc_Nt_tellsMost 77 = .ok (.iinc 7 1, 3) := by decide +kernel
theorem d_Nt_tellsMost_80 : decode bc_Nt_tellsMost 80 = .ok (.goto (-55), 3) := by decide +kernel
theorem d_Nt_tellsMost_83 : decode bc_Nt_tellsMost 83 = .ok (.iload 5, 2) := by decide +kernel
theorem d_Nt_tellsMost_85 : decode bc_Nt_tellsMost 85 = .ok (.iconst (-1), 1) := by decide +kernel
theorem d_Nt_tellsMost_86 : decode bc_Nt_tellsMost 86 = .ok (.if_icmp .ne 6, 3) := by decide +kernel
theorem d_Nt_tellsMost_89 : decode bc_Nt_tellsMost 89 = .ok (.bipush (-2), 2) := by decide +kernel
theorem d_Nt_tellsMost_91 : decode bc_Nt_tellsMost 91 = .ok (.ireturn, 1) := by decide +kernel
theorem d_Nt_tellsMost_92 : decode bc_Nt_tellsMost 92 = .ok (.iload_n 3, 1) := by decide +kernel
theorem d_Nt_tellsMost_93 : decode bc_Nt_tellsMost 93 = .ok (.ifCond .ne 8, 3) := by decide +kernel
theorem d_Nt_tellsMost_96 : decode bc_Nt_tellsMost 96 = .ok (.iload 5, 2) := by decide +kernel
theorem d_Nt_tellsMost_98 : decode bc_Nt_tellsMost 98 = .ok (.goto 5, 3) := by decide +kernel
theorem d_Nt_tellsMost_101 : decode bc_Nt_tellsMost 101 = .ok (.iload 6, 2) := by decide +kernel
theorem d_Nt_tellsMost_103 : decode bc_Nt_tellsMost 103 = .ok (.ireturn, 1) := by decide +kernel
set_option maxRecDepth 20000 in
theorem w_Nt_tellsMost_b25 {X : CX} {V : WV} {tx : Nat} (hV : IsC V) (htx : isTx tx) {z : Int32 × Mem} (hC : Ck X V bc_Nt_tellsMost 9 "SecretWells$Notes" (some .int) 2 52) (k25 : Int32 → Int32 → Int32 → Int32 → Int32 → Mem → Option (Int32 × Mem)) (hk25 : ∀ (x3 : Int32) (x4 : Int32) (x5 : Int32) (x6 : Int32) (x7 : Int32) (S : Mem), k25 x3 x4 x5 x6 x7 S = some z → G X V 9 (QI X V z.1 z.2) 25 [some (.ref (V.2.2.1 9 0)), some (.ref (V.2.2.1 tx 0)), none, some (.int x3), some (.int x4), some (.int x5), some (.int x6), some (.int x7), none] [] S) (x3 : Int32) (x4 : Int32) (x5 : Int32) (x6 : Int32) (x7 : Int32) (S : Mem) (h : f_Nt_tellsMost_b25 tx k25 x3 x4 x5 x6 x7 S = some z) : G X V 9 (QI X V z.1 z.2) 25 [some (.ref (V.2.2.1 9 0)), some (.ref (V.2.2.1 tx 0)), none, some (.int x3), some (.int x4), some (.int x5), some (.int x6), some (.int x7), none] [] S := by
  unfold f_Nt_tellsMost_b25 at h
  refine g_iload (pc := 25) hC (i := 7) (x := x7) rfl d_Nt_tellsMost_25 ?_
  refine g_aload_n (pc := 27) hC (i := 1) (x := (V.2.2.1 tx 0)) rfl rfl d_Nt_tellsMost_27 ?_
  refine g_getI (pc := 28) hC fo_Nt_33 (ob_Tx hV htx) rfl d_Nt_tellsMost_28 ?_
  refine g_icmp_ge (pc := 31) hC (tgt := 83) (by decide) d_Nt_tellsMost_31 h (fun h => ?_) (fun h => ?_)
  · refine g_iload (pc := 83) hC (i := 5) (x := x5) rfl d_Nt_tellsMost_83 ?_
    refine g_iconst (pc := 85) hC kc_m1 d_Nt_tellsMost_85 ?_
    refine g_icmp_ne (pc := 86) hC (tgt := 92) (by decide) d_Nt_tellsMost_86 h (fun h => ?_) (fun h => ?_)
    · refine g_iload_n (pc := 92) hC (i := 3) (x := x3) rfl rfl d_Nt_tellsMost_92 ?_
      refine g_if_ne (pc := 93) hC (tgt := 101) (by decide) d_Nt_tellsMost_93 h (fun h => ?_) (fun h => ?_)
      · refine g_iload (pc := 101) hC (i := 6) (x := x6) rfl d_Nt_tellsMost_101 ?_
        exact g_iW (pc := 103) hC rfl d_Nt_tellsMost_103 h
      · refine g_iload (pc := 96) hC (i := 5) (x := x5) rfl d_Nt_tellsMost_96 ?_
        refine g_goto (pc := 98) hC (tgt := 103) (by decide) d_Nt_tellsMost_98 ?_
        exact g_iW (pc := 103) hC rfl d_Nt_tellsMost_103 h
    · refine g_bipush (pc := 89) hC kb_m2 d_Nt_tellsMost_89 ?_
      exact g_iW (pc := 91) hC rfl d_Nt_tellsMost_91 h
  · refine g_aload_n (pc := 34) hC (i := 0) (x := (V.2.2.1 9 0)) rfl rfl d_Nt_tellsMost_34 ?_
    refine g_getA (pc := 35) hC fo_Nt_25 (ob_Nt hV) rfl d_Nt_tellsMost_35 ?_
    refine g_iload (pc := 38) hC (i := 7) (x := x7) rfl d_Nt_tellsMost_38 ?_
    refine g_iald (pc := 40) hC (ar_Nt_4 hV) d_Nt_tellsMost_40 h (fun h => ?_)
    refine g_iload (pc := 41) hC (i := 4) (x := x4) rfl d_Nt_tellsMost_41 ?_
    refine g_aload_n (pc := 43) hC (i := 0) (x := (V.2.2.1 9 0)) rfl rfl d_Nt_tellsMost_43 ?_
    refine g_getA (pc := 44) hC fo_Nt_25 (ob_Nt hV) rfl d_Nt_tellsMost_44 ?_
    refine g_iload (pc := 47) hC (i := 7) (x := x7) rfl d_Nt_tellsMost_47 ?_
    refine g_iald (pc := 49) hC (ar_Nt_4 hV) d_Nt_tellsMost_49 h (fun h => ?_)
    refine g_isub (pc := 50) hC d_Nt_tellsMost_50 ?_
    refine g_mmax (pc := 51) hC lk_Nt_47 (Nat.le_of_ble_eq_true rfl) ⟨Nat.le_of_ble_eq_true rfl, Nat.le_of_ble_eq_true rfl⟩ d_Nt_tellsMost_51 ?_
    refine g_leti h (fun y54 h => ?_)
    refine s_istore (pc := 54) hC (i := 8) (by decide) d_Nt_tellsMost_54 (lv2 := [some (.ref (V.2.2.1 9 0)), some (.ref (V.2.2.1 tx 0)), none, some (.int x3), some (.int x4), some (.int x5), some (.int x6), some (.int x7), some (.int y54)]) rfl ?_
    refine g_iload (pc := 56) hC (i := 5) (x := x5) rfl d_Nt_tellsMost_56 ?_
    refine g_iconst (pc := 58) hC kc_m1 d_Nt_tellsMost_58 ?_
    refine g_icmp_eq (pc := 59) hC (tgt := 69) (by decide) d_Nt_tellsMost_59 h (fun h => ?_) (fun h => ?_)
    · refine g_iload (pc := 69) hC (i := 7) (x := x7) rfl d_Nt_tellsMost_69 ?_
      refine s_istore (pc := 71) hC (i := 5) (by decide) d_Nt_tellsMost_71 (lv2 := [some (.ref (V.2.2.1 9 0)), some (.ref (V.2.2.1 tx 0)), none, some (.int x3), some (.int x4), some (.int x7), some (.int x6), some (.int x7), some (.int y54)]) rfl ?_
      refine g_iload (pc := 73) hC (i := 8) (x := y54) rfl d_Nt_tellsMost_73 ?_
      refine s_istore (pc := 75) hC (i := 6) (by decide) d_Nt_tellsMost_75 (lv2 := [some (.ref (V.2.2.1 9 0)), some (.ref (V.2.2.1 tx 0)), none, some (.int x3), some (.int x4), some (.int x7), some (.int y54), some (.int x7), some (.int y54)]) rfl ?_
      refine s_iinc (pc := 77) hC (i := 7) (x := x7) (v := x7 + 1) rfl (by rw [kc_1]) (by decide) d_Nt_tellsMost_77 (lv2 := [some (.ref (V.2.2.1 9 0)), some (.ref (V.2.2.1 tx 0)), none, some (.int x3), some (.int x4), some (.int x7), some (.int y54), some (.int (x7 + 1)), some (.int y54)]) rfl ?_
      refine g_goto (pc := 80) hC (tgt := 25) (by decide) d_Nt_tellsMost_80 ?_
      refine g_le (lv2 := [some (.ref (V.2.2.1 9 0)), some (.ref (V.2.2.1 tx 0)), none, some (.int x3), some (.int x4), some (.int x7), some (.int y54), some (.int (x7 + 1)), none]) (⟨rfl, ⟨rfl, ⟨rfl, ⟨rfl, ⟨rfl, ⟨rfl, ⟨rfl, trivial⟩⟩⟩⟩⟩⟩⟩) ?_
      exact hk25 x3 x4 x7 y54 (x7 + 1) S h
    · refine g_iload (pc := 62) hC (i := 8) (x := y54) rfl d_Nt_tellsMost_62 ?_
      refine g_iload (pc := 64) hC (i := 6) (x := x6) rfl d_Nt_tellsMost_64 ?_
      refine g_icmp_ge (pc := 66) hC (tgt := 77) (by decide) d_Nt_tellsMost_66 h (fun h => ?_) (fun h => ?_)
      · refine s_iinc (pc := 77) hC (i := 7) (x := x7) (v := x7 + 1) rfl (by rw [kc_1]) (by decide) d_Nt_tellsMost_77 (lv2 := [some (.ref (V.2.2.1 9 0)), some (.ref (V.2.2.1 tx 0)), none, some (.int x3), some (.int x4), some (.int x5), some (.int x6), some (.int (x7 + 1)), some (.int y54)]) rfl ?_
        refine g_goto (pc := 80) hC (tgt := 25) (by decide) d_Nt_tellsMost_80 ?_
        refine g_le (lv2 := [some (.ref (V.2.2.1 9 0)), some (.ref (V.2.2.1 tx 0)), none, some (.int x3), some (.int x4), some (.int x5), some (.int x6), some (.int (x7 + 1)), none]) (⟨rfl, ⟨rfl, ⟨rfl, ⟨rfl, ⟨rfl, ⟨rfl, ⟨rfl, trivial⟩⟩⟩⟩⟩⟩⟩) ?_
        exact hk25 x3 x4 x5 x6 (x7 + 1) S h
      · refine g_iload (pc := 69) hC (i := 7) (x := x7) rfl d_Nt_tellsMost_69 ?_
        refine s_istore (pc := 71) hC (i := 5) (by decide) d_Nt_tellsMost_71 (lv2 := [some (.ref (V.2.2.1 9 0)), some (.ref (V.2.2.1 tx 0)), none, some (.int x3), some (.int x4), some (.int x7), some (.int x6), some (.int x7), some (.int y54)]) rfl ?_
        refine g_iload (pc := 73) hC (i := 8) (x := y54) rfl d_Nt_tellsMost_73 ?_
        refine s_istore (pc := 75) hC (i := 6) (by decide) d_Nt_tellsMost_75 (lv2 := [some (.ref (V.2.2.1 9 0)), some (.ref (V.2.2.1 tx 0)), none, some (.int x3), some (.int x4), some (.int x7), some (.int y54), some (.int x7), some (.int y54)]) rfl ?_
        refine s_iinc (pc := 77) hC (i := 7) (x := x7) (v := x7 + 1) rfl (by rw [kc_1]) (by decide) d_Nt_tellsMost_77 (lv2 := [some (.ref (V.2.2.1 9 0)), some (.ref (V.2.2.1 tx 0)), none, some (.int x3), some (.int x4), some (.int x7), some (.int y54), some (.int (x7 + 1)), some (.int y54)]) rfl ?_
        refine g_goto (pc := 80) hC (tgt := 25) (by decide) d_Nt_tellsMost_80 ?_
        refine g_le (lv2 := [some (.ref (V.2.2.1 9 0)), some (.ref (V.2.2.1 tx 0)), none, some (.int x3), some (.int x4), some (.int x7), some (.int y54), some (.int (x7 + 1)), none]) (⟨rfl, ⟨rfl, ⟨rfl, ⟨rfl, ⟨rfl, ⟨rfl, ⟨rfl, trivial⟩⟩⟩⟩⟩⟩⟩) ?_
        exact hk25 x3 x4 x7 y54 (x7 + 1) S h
theorem w_Nt_tellsMost_l25 {X : CX} {V : WV} {tx : Nat} (hV : IsC V) (htx : isTx tx) {z : Int32 × Mem} (hC : Ck X V bc_Nt_tellsMost 9 "SecretWells$Notes" (some .int) 2 52) : ∀ (n : Nat) (x3 : Int32) (x4 : Int32) (x5 : Int32) (x6 : Int32) (x7 : Int32) (S : Mem), f_Nt_tellsMost_l25 tx n x3 x4 x5 x6 x7 S = some z → G X V 9 (QI X V z.1 z.2) 25 [some (.ref (V.2.2.1 9 0)), some (.ref (V.2.2.1 tx 0)), none, some (.int x3), some (.int x4), some (.int x5), some (.int x6), some (.int x7), none] [] S := by
  intro n
  induction n with
  | zero =>
    intro x3 x4 x5 x6 x7 S h
    have h : (none : Option (Int32 × Mem)) = some z := h
    cases h
  | succ n ih =>
    intro x3 x4 x5 x6 x7 S h
    exact w_Nt_tellsMost_b25 hV htx hC (f_Nt_tellsMost_l25 tx n) ih x3 x4 x5 x6 x7 S h
set_option maxRecDepth 20000 in
theorem w_Nt_tellsMost_b0 {X : CX} {V : WV} {tx : Nat} (hV : IsC V) (htx : isTx tx) {z : Int32 × Mem} (hC : Ck X V bc_Nt_tellsMost 9 "SecretWells$Notes" (some .int) 2 52) (x2 : Int32) (x3 : Int32) (S : Mem) (h : f_Nt_tellsMost_b0 tx x2 x3 S = some z) : G X V 9 (QI X V z.1 z.2) 0 [some (.ref (V.2.2.1 9 0)), some (.ref (V.2.2.1 tx 0)), some (.int x2), some (.int x3), none, none, none, none, none] [] S := by
  unfold f_Nt_tellsMost_b0 at h
  refine g_aload_n (pc := 0) hC (i := 0) (x := (V.2.2.1 9 0)) rfl rfl d_Nt_tellsMost_0 ?_
  refine g_aload_n (pc := 1) hC (i := 1) (x := (V.2.2.1 tx 0)) rfl rfl d_Nt_tellsMost_1 ?_
  refine g_iload_n (pc := 2) hC (i := 2) (x := x2) rfl rfl d_Nt_tellsMost_2 ?_
  obtain ⟨q3, hq3, h⟩ := Option.bind_eq_some_iff.mp h
  refine g_vi (pc := 3) hC (As := [.ref (V.2.2.1 tx 0), .int x2]) (st := []) mt_Nt_countDeeper lk_Nt_43 rfl (ob_Nt hV) (Nat.le_of_ble_eq_true rfl) ⟨Nat.le_of_ble_eq_true rfl, Nat.le_of_ble_eq_true rfl⟩ rfl d_Nt_tellsMost_3 (c_Nt_countDeeper hV htx hq3) ?_
  refine g_leti h (fun y6 h => ?_)
  refine s_istore (pc := 6) hC (i := 4) (by decide) d_Nt_tellsMost_6 (lv2 := [some (.ref (V.2.2.1 9 0)), some (.ref (V.2.2.1 tx 0)), some (.int x2), some (.int x3), some (.int y6), none, none, none, none]) rfl ?_
  refine g_iload (pc := 8) hC (i := 4) (x := y6) rfl d_Nt_tellsMost_8 ?_
  refine g_if_ne (pc := 10) hC (tgt := 16) (by decide) d_Nt_tellsMost_10 h (fun h => ?_) (fun h => ?_)
  · refine g_iconst (pc := 16) hC kc_m1 d_Nt_tellsMost_16 ?_
    refine s_istore (pc := 17) hC (i := 5) (by decide) d_Nt_tellsMost_17 (lv2 := [some (.ref (V.2.2.1 9 0)), some (.ref (V.2.2.1 tx 0)), some (.int x2), some (.int x3), some (.int y6), some (.int (-1)), none, none, none]) rfl ?_
    refine g_iconst (pc := 19) hC kc_0 d_Nt_tellsMost_19 ?_
    refine s_istore (pc := 20) hC (i := 6) (by decide) d_Nt_tellsMost_20 (lv2 := [some (.ref (V.2.2.1 9 0)), some (.ref (V.2.2.1 tx 0)), some (.int x2), some (.int x3), some (.int y6), some (.int (-1)), some (.int 0), none, none]) rfl ?_
    refine g_iconst (pc := 22) hC kc_0 d_Nt_tellsMost_22 ?_
    refine s_istore (pc := 23) hC (i := 7) (by decide) d_Nt_tellsMost_23 (lv2 := [some (.ref (V.2.2.1 9 0)), some (.ref (V.2.2.1 tx 0)), some (.int x2), some (.int x3), some (.int y6), some (.int (-1)), some (.int 0), some (.int 0), none]) rfl ?_
    refine g_le (lv2 := [some (.ref (V.2.2.1 9 0)), some (.ref (V.2.2.1 tx 0)), none, some (.int x3), some (.int y6), some (.int (-1)), some (.int 0), some (.int 0), none]) (⟨rfl, ⟨rfl, ⟨rfl, ⟨rfl, ⟨rfl, ⟨rfl, ⟨rfl, trivial⟩⟩⟩⟩⟩⟩⟩) ?_
    exact w_Nt_tellsMost_l25 hV htx hC 5000 x3 y6 (-1) 0 0 q3.2 h
  · refine g_bipush (pc := 13) hC kb_m2 d_Nt_tellsMost_13 ?_
    exact g_iW (pc := 15) hC rfl d_Nt_tellsMost_15 h
theorem c_Nt_tellsMost {V : WV} {l : Launch} (hV : IsC V) {tx : Nat} (htx : isTx tx) {x2 : Int32} {x3 : Int32} {S : Mem} {z : Int32 × Mem} (h : f_Nt_tellsMost tx x2 x3 S = some z) : CI V l y_Nt_tellsMost bc_Nt_tellsMost 9 (some .int) 2 52 [.ref (V.2.2.1 9 0), .ref (V.2.2.1 tx 0), .int x2, .int x3] S z.1 z.2 :=
  ct_i rfl (IsC.ok hV) (Nat.le_of_ble_eq_true rfl) (fun _ _ hC => w_Nt_tellsMost_b0 hV htx hC x2 x3 S h)
def f_Pe_openTies_b47 (tx : Nat) (st : Nat) (S : Mem) (k5 : Int32 → Int32 → Option (Int32)) (x3 : Int32) (x4 : Int32) (s0 : Int32) : Option (Int32) :=
  if s0 = 0 then
    k5 x3 (x4 + 1)
  else
    Option.bind (f_St_isCut st x4 S) (fun q57 =>
    if q57 = 0 then
      letS (x3 ||| ((1 : Int32) <<< (x4 &&& 31))) (fun y69 =>
      k5 y69 (x4 + 1))
    else
      k5 x3 (x4 + 1))
def f_Pe_openTies_b5 (tx : Nat) (st : Nat) (S : Mem) (k5 : Int32 → Int32 → Option (Int32)) (x3 : Int32) (x4 : Int32) : Option (Int32) :=
  if (S.1 tx 3) ≤ x4 then
    some x3
  else
    gIn x4 12 (
    Option.bind (f_St_isAlive st (S.2.1 tx 15 x4.toNatClampNeg) S) (fun q22 =>
    if q22 = 0 then
      f_Pe_openTies_b47 tx st S k5 x3 x4 0
    else
      gIn x4 12 (
      Option.bind (f_St_isAlive st (S.2.1 tx 16 x4.toNatClampNeg) S) (fun q36 =>
      if q36 = 0 then
        f_Pe_openTies_b47 tx st S k5 x3 x4 0
      else
        f_Pe_openTies_b47 tx st S k5 x3 x4 1))))
def f_Pe_openTies_l5 (tx : Nat) (st : Nat) (S : Mem) : Nat → Int32 → Int32 → Option (Int32)
  | 0 => fun _ _ => none
  | n + 1 => f_Pe_openTies_b5 tx st S (f_Pe_openTies_l5 tx st S n)
def f_Pe_openTies_b0 (tx : Nat) (st : Nat) (S : Mem) : Option (Int32) :=
  f_Pe_openTies_l5 tx st S 5000 0 0
def f_Pe_openTies (tx : Nat) (st : Nat) (S : Mem) : Option (Int32) := f_Pe_openTies_b0 tx st S
theorem d_Pe_openTies_0 : decode bc_Pe_openTies 0 = .ok (.iconst 0, 1) := by decide +kernel
theorem d_Pe_openTies_1 : decode bc_Pe_openTies 1 = .ok (.istore_n 3, 1) := by decide +kernel
theorem d_Pe_openTies_2 : decode bc_Pe_openTies 2 = .ok (.iconst 0, 1) := by decide +kernel
theorem d_Pe_openTies_3 : decode bc_Pe_openTies 3 = .ok (.istore 4, 2) := by decide +kernel
theorem d_Pe_openTies_5 : decode bc_Pe_openTies 5 = .ok (.iload 4, 2) := by decide +kernel
theorem d_Pe_openTies_7 : decode bc_Pe_openTies 7 = .ok (.aload_n 1, 1) := by decide +kernel
theorem d_Pe_openTies_8 : decode bc_Pe_openTies 8 = .ok (.getfield 19, 3) := by decide +kernel
theorem d_Pe_openTies_11 : decode bc_Pe_openTies 11 = .ok (.if_icmp .ge 65, 3) := by decide +kernel
theorem d_Pe_openTies_14 : decode bc_Pe_openTies 14 = .ok (.aload_n 2, 1) := by decide +kernel
theorem d_Pe_openTies_15 : decode bc_Pe_openTies 15 = .ok (.aload_n 1, 1) := by decide +kernel
theorem d_Pe_openTies_16 : decode bc_Pe_openTies 16 = .ok (.getfield 24, 3) := by decide +kernel
theorem d_Pe_openTies_19 : decode bc_Pe_openTies 19 = .ok (.iload 4, 2) := by decide +kernel
theorem d_Pe_openTies_21 : decode bc_Pe_openTies 21 = .ok (.iaload, 1) := by decide +kernel
theorem d_Pe_openTies_22 : decode bc_Pe_openTies 22 = .ok (.invokevirtual 27, 3) := by decide +kernel
theorem d_Pe_openTies_25 : decode bc_Pe_openTies 25 = .ok (.ifCond .eq 21, 3) := by decide +kernel
theorem d_Pe_openTies_28 : decode bc_Pe_openTies 28 = .ok (.aload_n 2, 1) := by decide +kernel
theorem d_Pe_openTies_29 : decode bc_Pe_openTies 29 = .ok (.aload_n 1, 1) := by decide +kernel
theorem d_Pe_openTies_30 : decode bc_Pe_openTies 30 = .ok (.getfield 33, 3) := by decide +kernel
theorem d_Pe_openTies_33 : decode bc_Pe_openTies 33 = .ok (.iload 4, 2) := by decide +kernel
theorem d_Pe_openTies_35 : decode bc_Pe_openTies 35 = .ok (.iaload, 1) := by decide +kernel
theorem d_Pe_openTies_36 : decode bc_Pe_openTies 36 = .ok (.invokevirtual 27, 3) := by decide +kernel
theorem d_Pe_openTies_39 : decode bc_Pe_openTies 39 = .ok (.ifCond .eq 7, 3) := by decide +kernel
theorem d_Pe_openTies_42 : decode bc_Pe_openTies 42 = .ok (.iconst 1, 1) := by decide +kernel
theorem d_Pe_openTies_43 : decode bc_Pe_openTies 43 = .ok (.goto 4, 3) := by decide +kernel
theorem d_Pe_openTies_46 : decode bc_Pe_openTies 46 = .ok (.iconst 0, 1) := by decide +kernel
theorem d_Pe_openTies_47 : decode bc_Pe_openTies 47 = .ok (.istore 5, 2) := by decide +kernel
theorem d_Pe_openTies_49 : decode bc_Pe_openTies 49 = .ok (.iload 5, 2) := by decide +kernel
theorem d_Pe_openTies_51 : decode bc_Pe_openTies 51 = .ok (.ifCond .eq 19, 3) := by decide +kernel
theorem d_Pe_openTies_54 : decode bc_Pe_openTies 54 = .ok (.aload_n 2, 1) := by decide +kernel
theorem d_Pe_openTies_55 : decode bc_Pe_openTies 55 = .ok (.iload 4, 2) := by decide +kernel
theorem d_Pe_openTies_57 : decode bc_Pe_openTies 57 = .ok (.invokevirtual 36, 3) := by decide +kernel
theorem d_Pe_openTies_60 : decode bc_Pe_openTies 60 = .ok (.ifCond .ne 10, 3) := by decide +kernel
theorem d_Pe_openTies_63 : decode bc_Pe_openTies 63 = .ok (.iload_n 3, 1) := by decide +kernel
theorem d_Pe_openTies_64 : decode bc_Pe_openTies 64 = .ok (.iconst 1, 1) := by decide +kernel
theorem d_Pe_openTies_65 : decode bc_Pe_openTies 65 = .ok (.iload 4, 2) := by decide +kernel
theorem d_Pe_openTies_67 : decode bc_Pe_openTies 67 = .ok (.ishl, 1) := by decide +kernel
theorem d_Pe_openTies_68 : decode bc_Pe_openTies 68 = .ok (.ior, 1) := by decide +kernel
theorem d_Pe_openTies_69 : decode bc_Pe_openTies 69 = .ok (.istore_n 3, 1) := by decide +kernel
theorem d_Pe_openTies_70 : decode bc_Pe_openTies 70 = .ok (.iinc 4 1, 3) := by decide +kernel
theorem d_Pe_openTies_73 : decode bc_Pe_openTies 73 = .ok (.goto (-68), 3) := by decide +kernel
theorem d_Pe_openTies_76 : decode bc_Pe_openTies 76 = .ok (.iload_n 3, 1) := by decide +kernel
theorem d_Pe_openTies_77 : decode bc_Pe_openTies 77 = .ok (.ireturn, 1) := by decide +kernel
set_option maxRecDepth 20000 in
theorem w_Pe_openTies_b47 {X : CX} {V : WV} {tx : Nat} {st : Nat} (hV : IsC V) (htx : isTx tx) (hst : isSt st) {S : Mem} {z : Int32} (hC : Ck X V bc_Pe_openTies 6 "SecretWells$People" (some .int) 1 21) (k5 : Int32 → Int32 → Option (Int32)) (hk5 : ∀ (x3 : Int32) (x4 : Int32), k5 x3 x4 = some z → G X V 6 (QI X V z S) 5 [some (.ref (V.2.2.1 8 0)), some (.ref (V.2.2.1 tx 0)), some (.ref (V.2.2.1 st 0)), some (.int x3), some (.int x4), none] [] S) (x3 : Int32) (x4 : Int32) (s0 : Int32) (h : f_Pe_openTies_b47 tx st S k5 x3 x4 s0 = some z) : G X V 6 (QI X V z S) 47 [some (.ref (V.2.2.1 8 0)), some (.ref (V.2.2.1 tx 0)), some (.ref (V.2.2.1 st 0)), some (.int x3), some (.int x4), none] [.int s0] S := by
  unfold f_Pe_openTies_b47 at h
  refine s_istore (pc := 47) hC (i := 5) (by decide) d_Pe_openTies_47 (lv2 := [some (.ref (V.2.2.1 8 0)), some (.ref (V.2.2.1 tx 0)), some (.ref (V.2.2.1 st 0)), some (.int x3), some (.int x4), some (.int s0)]) rfl ?_
  refine g_iload (pc := 49) hC (i := 5) (x := s0) rfl d_Pe_openTies_49 ?_
  refine g_if_eq (pc := 51) hC (tgt := 70) (by decide) d_Pe_openTies_51 h (fun h => ?_) (fun h => ?_)
  · refine s_iinc (pc := 70) hC (i := 4) (x := x4) (v := x4 + 1) rfl (by rw [kc_1]) (by decide) d_Pe_openTies_70 (lv2 := [some (.ref (V.2.2.1 8 0)), some (.ref (V.2.2.1 tx 0)), some (.ref (V.2.2.1 st 0)), some (.int x3), some (.int (x4 + 1)), some (.int s0)]) rfl ?_
    refine g_goto (pc := 73) hC (tgt := 5) (by decide) d_Pe_openTies_73 ?_
    refine g_le (lv2 := [some (.ref (V.2.2.1 8 0)), some (.ref (V.2.2.1 tx 0)), some (.ref (V.2.2.1 st 0)), some (.int x3), some (.int (x4 + 1)), none]) (⟨rfl, ⟨rfl, ⟨rfl, ⟨rfl, ⟨rfl, trivial⟩⟩⟩⟩⟩) ?_
    exact hk5 x3 (x4 + 1) h
  · refine g_aload_n (pc := 54) hC (i := 2) (x := (V.2.2.1 st 0)) rfl rfl d_Pe_openTies_54 ?_
    refine g_iload (pc := 55) hC (i := 4) (x := x4) rfl d_Pe_openTies_55 ?_
    obtain ⟨q57, hq57, h⟩ := Option.bind_eq_some_iff.mp h
    refine g_vi (pc := 57) hC (As := [.int x4]) (st := []) mt_St_isCut lk_Pe_36 rfl (ob_St hV hst) (Nat.le_of_ble_eq_true rfl) ⟨Nat.le_of_ble_eq_true rfl, Nat.le_of_ble_eq_true rfl⟩ rfl d_Pe_openTies_57 (c_St_isCut hV hst hq57) ?_
    refine g_if_ne (pc := 60) hC (tgt := 70) (by decide) d_Pe_openTies_60 h (fun h => ?_) (fun h => ?_)
    · refine s_iinc (pc := 70) hC (i := 4) (x := x4) (v := x4 + 1) rfl (by rw [kc_1]) (by decide) d_Pe_openTies_70 (lv2 := [some (.ref (V.2.2.1 8 0)), some (.ref (V.2.2.1 tx 0)), some (.ref (V.2.2.1 st 0)), some (.int x3), some (.int (x4 + 1)), some (.int s0)]) rfl ?_
      refine g_goto (pc := 73) hC (tgt := 5) (by decide) d_Pe_openTies_73 ?_
      refine g_le (lv2 := [some (.ref (V.2.2.1 8 0)), some (.ref (V.2.2.1 tx 0)), some (.ref (V.2.2.1 st 0)), some (.int x3), some (.int (x4 + 1)), none]) (⟨rfl, ⟨rfl, ⟨rfl, ⟨rfl, ⟨rfl, trivial⟩⟩⟩⟩⟩) ?_
      exact hk5 x3 (x4 + 1) h
    · refine g_iload_n (pc := 63) hC (i := 3) (x := x3) rfl rfl d_Pe_openTies_63 ?_
      refine g_iconst (pc := 64) hC kc_1 d_Pe_openTies_64 ?_
      refine g_iload (pc := 65) hC (i := 4) (x := x4) rfl d_Pe_openTies_65 ?_
      refine g_ishl (pc := 67) hC d_Pe_openTies_67 ?_
      refine g_ior (pc := 68) hC d_Pe_openTies_68 ?_
      refine g_leti h (fun y69 h => ?_)
      refine s_istore_n (pc := 69) hC (i := 3) rfl (by decide) d_Pe_openTies_69 (lv2 := [some (.ref (V.2.2.1 8 0)), some (.ref (V.2.2.1 tx 0)), some (.ref (V.2.2.1 st 0)), some (.int y69), some (.int x4), some (.int s0)]) rfl ?_
      refine s_iinc (pc := 70) hC (i := 4) (x := x4) (v := x4 + 1) rfl (by rw [kc_1]) (by decide) d_Pe_openTies_70 (lv2 := [some (.ref (V.2.2.1 8 0)), some (.ref (V.2.2.1 tx 0)), some (.ref (V.2.2.1 st 0)), some (.int y69), some (.int (x4 + 1)), some (.int s0)]) rfl ?_
      refine g_goto (pc := 73) hC (tgt := 5) (by decide) d_Pe_openTies_73 ?_
      refine g_le (lv2 := [some (.ref (V.2.2.1 8 0)), some (.ref (V.2.2.1 tx 0)), some (.ref (V.2.2.1 st 0)), some (.int y69), some (.int (x4 + 1)), none]) (⟨rfl, ⟨rfl, ⟨rfl, ⟨rfl, ⟨rfl, trivial⟩⟩⟩⟩⟩) ?_
      exact hk5 y69 (x4 + 1) h
set_option maxRecDepth 20000 in
theorem w_Pe_openTies_b5 {X : CX} {V : WV} {tx : Nat} {st : Nat} (hV : IsC V) (htx : isTx tx) (hst : isSt st) {S : Mem} {z : Int32} (hC : Ck X V bc_Pe_openTies 6 "SecretWells$People" (some .int) 1 21) (k5 : Int32 → Int32 → Option (Int32)) (hk5 : ∀ (x3 : Int32) (x4 : Int32), k5 x3 x4 = some z → G X V 6 (QI X V z S) 5 [some (.ref (V.2.2.1 8 0)), some (.ref (V.2.2.1 tx 0)), some (.ref (V.2.2.1 st 0)), some (.int x3), some (.int x4), none] [] S) (x3 : Int32) (x4 : Int32) (h : f_Pe_openTies_b5 tx st S k5 x3 x4 = some z) : G X V 6 (QI X V z S) 5 [some (.ref (V.2.2.1 8 0)), some (.ref (V.2.2.1 tx 0)), some (.ref (V.2.2.1 st 0)), some (.int x3), some (.int x4), none] [] S := by
  unfold f_Pe_openTies_b5 at h
  refine g_iload (pc := 5) hC (i := 4) (x := x4) rfl d_Pe_openTies_5 ?_
  refine g_aload_n (pc := 7) hC (i := 1) (x := (V.2.2.1 tx 0)) rfl rfl d_Pe_openTies_7 ?_
  refine g_getI (pc := 8) hC fo_Pe_19 (ob_Tx hV htx) rfl d_Pe_openTies_8 ?_
  refine g_icmp_ge (pc := 11) hC (tgt := 76) (by decide) d_Pe_openTies_11 h (fun h => ?_) (fun h => ?_)
  · refine g_iload_n (pc := 76) hC (i := 3) (x := x3) rfl rfl d_Pe_openTies_76 ?_
    exact g_iN (pc := 77) hC rfl d_Pe_openTies_77 h
  · refine g_aload_n (pc := 14) hC (i := 2) (x := (V.2.2.1 st 0)) rfl rfl d_Pe_openTies_14 ?_
    refine g_aload_n (pc := 15) hC (i := 1) (x := (V.2.2.1 tx 0)) rfl rfl d_Pe_openTies_15 ?_
    refine g_getA (pc := 16) hC fo_Pe_24 (ob_Tx hV htx) rfl d_Pe_openTies_16 ?_
    refine g_iload (pc := 19) hC (i := 4) (x := x4) rfl d_Pe_openTies_19 ?_
    refine g_iald (pc := 21) hC (ar_Tx_15 hV htx) d_Pe_openTies_21 h (fun h => ?_)
    obtain ⟨q22, hq22, h⟩ := Option.bind_eq_some_iff.mp h
    refine g_vi (pc := 22) hC (As := [.int (S.2.1 tx 15 x4.toNatClampNeg)]) (st := []) mt_St_isAlive lk_Pe_27 rfl (ob_St hV hst) (Nat.le_of_ble_eq_true rfl) ⟨Nat.le_of_ble_eq_true rfl, Nat.le_of_ble_eq_true rfl⟩ rfl d_Pe_openTies_22 (c_St_isAlive hV hst hq22) ?_
    refine g_if_eq (pc := 25) hC (tgt := 46) (by decide) d_Pe_openTies_25 h (fun h => ?_) (fun h => ?_)
    · refine g_iconst (pc := 46) hC kc_0 d_Pe_openTies_46 ?_
      exact w_Pe_openTies_b47 hV htx hst hC k5 hk5 x3 x4 0 h
    · refine g_aload_n (pc := 28) hC (i := 2) (x := (V.2.2.1 st 0)) rfl rfl d_Pe_openTies_28 ?_
      refine g_aload_n (pc := 29) hC (i := 1) (x := (V.2.2.1 tx 0)) rfl rfl d_Pe_openTies_29 ?_
      refine g_getA (pc := 30) hC fo_Pe_33 (ob_Tx hV htx) rfl d_Pe_openTies_30 ?_
      refine g_iload (pc := 33) hC (i := 4) (x := x4) rfl d_Pe_openTies_33 ?_
      refine g_iald (pc := 35) hC (ar_Tx_16 hV htx) d_Pe_openTies_35 h (fun h => ?_)
      obtain ⟨q36, hq36, h⟩ := Option.bind_eq_some_iff.mp h
      refine g_vi (pc := 36) hC (As := [.int (S.2.1 tx 16 x4.toNatClampNeg)]) (st := []) mt_St_isAlive lk_Pe_27 rfl (ob_St hV hst) (Nat.le_of_ble_eq_true rfl) ⟨Nat.le_of_ble_eq_true rfl, Nat.le_of_ble_eq_true rfl⟩ rfl d_Pe_openTies_36 (c_St_isAlive hV hst hq36) ?_
      refine g_if_eq (pc := 39) hC (tgt := 46) (by decide) d_Pe_openTies_39 h (fun h => ?_) (fun h => ?_)
      · refine g_iconst (pc := 46) hC kc_0 d_Pe_openTies_46 ?_
        exact w_Pe_openTies_b47 hV htx hst hC k5 hk5 x3 x4 0 h
      · refine g_iconst (pc := 42) hC kc_1 d_Pe_openTies_42 ?_
        refine g_goto (pc := 43) hC (tgt := 47) (by decide) d_Pe_openTies_43 ?_
        exact w_Pe_openTies_b47 hV htx hst hC k5 hk5 x3 x4 1 h
theorem w_Pe_openTies_l5 {X : CX} {V : WV} {tx : Nat} {st : Nat} (hV : IsC V) (htx : isTx tx) (hst : isSt st) {S : Mem} {z : Int32} (hC : Ck X V bc_Pe_openTies 6 "SecretWells$People" (some .int) 1 21) : ∀ (n : Nat) (x3 : Int32) (x4 : Int32), f_Pe_openTies_l5 tx st S n x3 x4 = some z → G X V 6 (QI X V z S) 5 [some (.ref (V.2.2.1 8 0)), some (.ref (V.2.2.1 tx 0)), some (.ref (V.2.2.1 st 0)), some (.int x3), some (.int x4), none] [] S := by
  intro n
  induction n with
  | zero =>
    intro x3 x4 h
    have h : (none : Option (Int32)) = some z := h
    cases h
  | succ n ih =>
    intro x3 x4 h
    exact w_Pe_openTies_b5 hV htx hst hC (f_Pe_openTies_l5 tx st S n) ih x3 x4 h
set_option maxRecDepth 20000 in
theorem w_Pe_openTies_b0 {X : CX} {V : WV} {tx : Nat} {st : Nat} (hV : IsC V) (htx : isTx tx) (hst : isSt st) {S : Mem} {z : Int32} (hC : Ck X V bc_Pe_openTies 6 "SecretWells$People" (some .int) 1 21) (h : f_Pe_openTies_b0 tx st S = some z) : G X V 6 (QI X V z S) 0 [some (.ref (V.2.2.1 8 0)), some (.ref (V.2.2.1 tx 0)), some (.ref (V.2.2.1 st 0)), none, none, none] [] S := by
  unfold f_Pe_openTies_b0 at h
  refine g_iconst (pc := 0) hC kc_0 d_Pe_openTies_0 ?_
  refine s_istore_n (pc := 1) hC (i := 3) rfl (by decide) d_Pe_openTies_1 (lv2 := [some (.ref (V.2.2.1 8 0)), some (.ref (V.2.2.1 tx 0)), some (.ref (V.2.2.1 st 0)), some (.int 0), none, none]) rfl ?_
  refine g_iconst (pc := 2) hC kc_0 d_Pe_openTies_2 ?_
  refine s_istore (pc := 3) hC (i := 4) (by decide) d_Pe_openTies_3 (lv2 := [some (.ref (V.2.2.1 8 0)), some (.ref (V.2.2.1 tx 0)), some (.ref (V.2.2.1 st 0)), some (.int 0), some (.int 0), none]) rfl ?_
  exact w_Pe_openTies_l5 hV htx hst hC 5000 0 0 h
theorem c_Pe_openTies {V : WV} {l : Launch} (hV : IsC V) {tx : Nat} {st : Nat} (htx : isTx tx) (hst : isSt st) {S : Mem} {z : Int32} (h : f_Pe_openTies tx st S = some z) : CI V l y_Pe_openTies bc_Pe_openTies 6 (some .int) 1 21 [.ref (V.2.2.1 8 0), .ref (V.2.2.1 tx 0), .ref (V.2.2.1 st 0)] S z S :=
  ct_i rfl (IsC.ok hV) (Nat.le_of_ble_eq_true rfl) (fun _ _ hC => w_Pe_openTies_b0 hV htx hst hC h)
def f_Pe_spread_b30 (tx : Nat) (S : Mem) (k9 : Int32 → Int32 → Int32 → Int32 → Option (Int32)) (k30 : Int32 → Int32 → Int32 → Int32 → Int32 → Option (Int32)) (x3 : Int32) (x4 : Int32) (x5 : Int32) (x6 : Int32) (x7 : Int32) : Option (Int32) :=
  if (S.1 tx 3) ≤ x7 then
    k9 x3 x4 x5 (x6 + 1)
  else
    if ((x3 >>> (x7 &&& 31)) &&& 1) = 0 then
      k30 x3 x4 x5 x6 (x7 + 1)
    else
      gIn x7 12 (
      if ((x4 >>> ((S.2.1 tx 15 x7.toNatClampNeg) &&& 31)) &&& 1) = 0 then
        k30 x3 x4 x5 x6 (x7 + 1)
      else
        gIn x7 12 (
        letS (x4 ||| ((1 : Int32) <<< ((S.2.1 tx 16 x7.toNatClampNeg) &&& 31))) (fun y75 =>
        k30 x3 y75 x5 x6 (x7 + 1))))
def f_Pe_spread_l30 (tx : Nat) (S : Mem) (k9 : Int32 → Int32 → Int32 → Int32 → Option (Int32)) : Nat → Int32 → Int32 → Int32 → Int32 → Int32 → Option (Int32)
  | 0 => fun _ _ _ _ _ => none
  | n + 1 => f_Pe_spread_b30 tx S k9 (f_Pe_spread_l30 tx S k9 n)
def f_Pe_spread_b9 (tx : Nat) (S : Mem) (k9 : Int32 → Int32 → Int32 → Int32 → Option (Int32)) (x3 : Int32) (x4 : Int32) (x5 : Int32) (x6 : Int32) : Option (Int32) :=
  if 7 < x6 then
    some x4
  else
    if x5 = x4 then
      some x4
    else
      f_Pe_spread_l30 tx S k9 5000 x3 x4 x4 x6 0
def f_Pe_spread_l9 (tx : Nat) (S : Mem) : Nat → Int32 → Int32 → Int32 → Int32 → Option (Int32)
  | 0 => fun _ _ _ _ => none
  | n + 1 => f_Pe_spread_b9 tx S (f_Pe_spread_l9 tx S n)
def f_Pe_spread_b0 (tx : Nat) (S : Mem) (x2 : Int32) (x3 : Int32) : Option (Int32) :=
  f_Pe_spread_l9 tx S 5000 x3 x2 0 0
def f_Pe_spread (tx : Nat) (x2 : Int32) (x3 : Int32) (S : Mem) : Option (Int32) := f_Pe_spread_b0 tx S x2 x3
theorem d_Pe_spread_0 : decode bc_Pe_spread 0 = .ok (.iload_n 2, 1) := by decide +kernel
theorem d_Pe_spread_1 : decode bc_Pe_spread 1 = .ok (.istore 4, 2) := by decide +kernel
theorem d_Pe_spread_3 : decode bc_Pe_spread 3 = .ok (.iconst 0, 1) := by decide +kernel
theorem d_Pe_spread_4 : decode bc_Pe_spread 4 = .ok (.istore 5, 2) := by decide +kernel
theorem d_Pe_spread_6 : decode bc_Pe_spread 6 = .ok (.iconst 0, 1) := by decide +kernel
theorem d_Pe_spread_7 : decode bc_Pe_spread 7 = .ok (.istore 6, 2) := by decide +kernel
theorem d_Pe_spread_9 : decode bc_Pe_spread 9 = .ok (.iload 6, 2) := by decide +kernel
theorem d_Pe_spread_11 : decode bc_Pe_spread 11 = .ok (.bipush 7, 2) := by decide +kernel
theorem d_Pe_spread_13 : decode bc_Pe_spread 13 = .ok (.if_icmp .gt 76, 3) := by decide +kernel
theorem d_Pe_spread_16 : decode bc_Pe_spread 16 = .ok (.iload 5, 2) := by decide +kernel
theorem d_Pe_spread_18 : decode bc_Pe_spread 18 = .ok (.iload 4, 2) := by decide +kernel
theorem d_Pe_spread_20 : decode bc_Pe_spread 20 = .ok (.if_icmp .eq 69, 3) := by decide +kernel
theorem d_Pe_spread_23 : decode bc_Pe_spread 23 = .ok (.iload 4, 2) := by decide +kernel
theorem d_Pe_spread_25 : decode bc_Pe_spread 25 = .ok (.istore 5, 2) := by decide +kernel
theorem d_Pe_spread_27 : decode bc_Pe_spread 27 = .ok (.iconst 0, 1) := by decide +kernel
theorem d_Pe_spread_28 : decode bc_Pe_spread 28 = .ok (.istore 7, 2) := by decide +kernel
theorem d_Pe_spread_30 : decode bc_Pe_spread 30 = .ok (.iload 7, 2) := by decide +kernel
theorem d_Pe_spread_32 : decode bc_Pe_spread 32 = .ok (.aload_n 1, 1) := by decide +kernel
theorem d_Pe_spread_33 : decode bc_Pe_spread 33 = .ok (.getfield 19, 3) := by decide +kernel
theorem d_Pe_spread_36 : decode bc_Pe_spread 36 = .ok (.if_icmp .ge 47, 3) := by decide +kernel
theorem d_Pe_spread_39 : decode bc_Pe_spread 39 = .ok (.iload_n 3, 1) := by decide +kernel
theorem d_Pe_spread_40 : decode bc_Pe_spread 40 = .ok (.iload 7, 2) := by decide +kernel
theorem d_Pe_spread_42 : decode bc_Pe_spread 42 = .ok (.ishr, 1) := by decide +kernel
theorem d_Pe_spread_43 : decode bc_Pe_spread 43 = .ok (.iconst 1, 1) := by decide +kernel
theorem d_Pe_spread_44 : decode bc_Pe_spread 44 = .ok (.iand, 1) := by decide +kernel
theorem d_Pe_spread_45 : decode bc_Pe_spread 45 = .ok (.ifCond .eq 32, 3) := by decide +kernel
theorem d_Pe_spread_48 : decode bc_Pe_spread 48 = .ok (.iload 4, 2) := by decide +kernel
theorem d_Pe_spread_50 : decode bc_Pe_spread 50 = .ok (.aload_n 1, 1) := by decide +kernel
theorem d_Pe_spread_51 : decode bc_Pe_spread 51 = .ok (.getfield 24, 3) := by decide +kernel
theorem d_Pe_spread_54 : decode bc_Pe_spread 54 = .ok (.iload 7, 2) := by decide +kernel
theorem d_Pe_spread_56 : decode bc_Pe_spread 56 = .ok (.iaload, 1) := by decide +kernel
theorem d_Pe_spread_57 : decode bc_Pe_spread 57 = .ok (.ishr, 1) := by decide +kernel
theorem d_Pe_spread_58 : decode bc_Pe_spread 58 = .ok (.iconst 1, 1) := by decide +kernel
theorem d_Pe_spread_59 : decode bc_Pe_spread 59 = .ok (.iand, 1) := by decide +kernel
theorem d_Pe_spread_60 : decode bc_Pe_spread 60 = .ok (.ifCond .eq 17, 3) := by decide +kernel
theorem d_Pe_spread_63 : decode bc_Pe_spread 63 = .ok (.iload 4, 2) := by decide +kernel
theorem d_Pe_spread_65 : decode bc_Pe_spread 65 = .ok (.iconst 1, 1) := by decide +kernel
theorem d_Pe_spread_66 : decode bc_Pe_spread 66 = .ok (.aload_n 1, 1) := by decide +kernel
theorem d_Pe_spread_67 : decode bc_Pe_spread 67 = .ok (.getfield 33, 3) := by decide +kernel
theorem d_Pe_spread_70 : decode bc_Pe_spread 70 = .ok (.iload 7, 2) := by decide +kernel
theorem d_Pe_spread_72 : decode bc_Pe_spread 72 = .ok (.iaload, 1) := by decide +kernel
theorem d_Pe_spread_73 : decode bc_Pe_spread 73 = .ok (.ishl, 1) := by decide +kernel
theorem d_Pe_spread_74 : decode bc_Pe_spread 74 = .ok (.ior, 1) := by decide +kernel
theorem d_Pe_spread_75 : decode bc_Pe_spread 75 = .ok (.istore 4, 2) := by decide +kernel
theorem d_Pe_spread_77 : decode bc_Pe_spread 77 = .ok (.iinc 7 1, 3) := by decide +kernel
theorem d_Pe_spread_80 : decode bc_Pe_spread 80 = .ok (.goto (-50), 3) := by decide +kernel
theorem d_Pe_spread_83 : decode bc_Pe_spread 83 = .ok (.iinc 6 1, 3) := by decide +kernel
theorem d_Pe_spread_86 : decode bc_Pe_spread 86 = .ok (.goto (-77), 3) := by decide +kernel
theorem d_Pe_spread_89 : decode bc_Pe_spread 89 = .ok (.iload 4, 2) := by decide +kernel
theorem d_Pe_spread_91 : decode bc_Pe_spread 91 = .ok (.ireturn, 1) := by decide +kernel
set_option maxRecDepth 20000 in
theorem w_Pe_spread_b30 {X : CX} {V : WV} {tx : Nat} (hV : IsC V) (htx : isTx tx) {S : Mem} {z : Int32} (hC : Ck X V bc_Pe_spread 8 "SecretWells$People" (some .int) 0 0) (k9 : Int32 → Int32 → Int32 → Int32 → Option (Int32)) (hk9 : ∀ (x3 : Int32) (x4 : Int32) (x5 : Int32) (x6 : Int32), k9 x3 x4 x5 x6 = some z → G X V 8 (QI X V z S) 9 [some (.ref (V.2.2.1 8 0)), some (.ref (V.2.2.1 tx 0)), none, some (.int x3), some (.int x4), some (.int x5), some (.int x6), none] [] S) (k30 : Int32 → Int32 → Int32 → Int32 → Int32 → Option (Int32)) (hk30 : ∀ (x3 : Int32) (x4 : Int32) (x5 : Int32) (x6 : Int32) (x7 : Int32), k30 x3 x4 x5 x6 x7 = some z → G X V 8 (QI X V z S) 30 [some (.ref (V.2.2.1 8 0)), some (.ref (V.2.2.1 tx 0)), none, some (.int x3), some (.int x4), some (.int x5), some (.int x6), some (.int x7)] [] S) (x3 : Int32) (x4 : Int32) (x5 : Int32) (x6 : Int32) (x7 : Int32) (h : f_Pe_spread_b30 tx S k9 k30 x3 x4 x5 x6 x7 = some z) : G X V 8 (QI X V z S) 30 [some (.ref (V.2.2.1 8 0)), some (.ref (V.2.2.1 tx 0)), none, some (.int x3), some (.int x4), some (.int x5), some (.int x6), some (.int x7)] [] S := by
  unfold f_Pe_spread_b30 at h
  refine g_iload (pc := 30) hC (i := 7) (x := x7) rfl d_Pe_spread_30 ?_
  refine g_aload_n (pc := 32) hC (i := 1) (x := (V.2.2.1 tx 0)) rfl rfl d_Pe_spread_32 ?_
  refine g_getI (pc := 33) hC fo_Pe_19 (ob_Tx hV htx) rfl d_Pe_spread_33 ?_
  refine g_icmp_ge (pc := 36) hC (tgt := 83) (by decide) d_Pe_spread_36 h (fun h => ?_) (fun h => ?_)
  · refine s_iinc (pc := 83) hC (i := 6) (x := x6) (v := x6 + 1) rfl (by rw [kc_1]) (by decide) d_Pe_spread_83 (lv2 := [some (.ref (V.2.2.1 8 0)), some (.ref (V.2.2.1 tx 0)), none, some (.int x3), some (.int x4), some (.int x5), some (.int (x6 + 1)), some (.int x7)]) rfl ?_
    refine g_goto (pc := 86) hC (tgt := 9) (by decide) d_Pe_spread_86 ?_
    refine g_le (lv2 := [some (.ref (V.2.2.1 8 0)), some (.ref (V.2.2.1 tx 0)), none, some (.int x3), some (.int x4), some (.int x5), some (.int (x6 + 1)), none]) (⟨rfl, ⟨rfl, ⟨rfl, ⟨rfl, ⟨rfl, ⟨rfl, trivial⟩⟩⟩⟩⟩⟩) ?_
    exact hk9 x3 x4 x5 (x6 + 1) h
  · refine g_iload_n (pc := 39) hC (i := 3) (x := x3) rfl rfl d_Pe_spread_39 ?_
    refine g_iload (pc := 40) hC (i := 7) (x := x7) rfl d_Pe_spread_40 ?_
    refine g_ishr (pc := 42) hC d_Pe_spread_42 ?_
    refine g_iconst (pc := 43) hC kc_1 d_Pe_spread_43 ?_
    refine g_iand (pc := 44) hC d_Pe_spread_44 ?_
    refine g_if_eq (pc := 45) hC (tgt := 77) (by decide) d_Pe_spread_45 h (fun h => ?_) (fun h => ?_)
    · refine s_iinc (pc := 77) hC (i := 7) (x := x7) (v := x7 + 1) rfl (by rw [kc_1]) (by decide) d_Pe_spread_77 (lv2 := [some (.ref (V.2.2.1 8 0)), some (.ref (V.2.2.1 tx 0)), none, some (.int x3), some (.int x4), some (.int x5), some (.int x6), some (.int (x7 + 1))]) rfl ?_
      refine g_goto (pc := 80) hC (tgt := 30) (by decide) d_Pe_spread_80 ?_
      exact hk30 x3 x4 x5 x6 (x7 + 1) h
    · refine g_iload (pc := 48) hC (i := 4) (x := x4) rfl d_Pe_spread_48 ?_
      refine g_aload_n (pc := 50) hC (i := 1) (x := (V.2.2.1 tx 0)) rfl rfl d_Pe_spread_50 ?_
      refine g_getA (pc := 51) hC fo_Pe_24 (ob_Tx hV htx) rfl d_Pe_spread_51 ?_
      refine g_iload (pc := 54) hC (i := 7) (x := x7) rfl d_Pe_spread_54 ?_
      refine g_iald (pc := 56) hC (ar_Tx_15 hV htx) d_Pe_spread_56 h (fun h => ?_)
      refine g_ishr (pc := 57) hC d_Pe_spread_57 ?_
      refine g_iconst (pc := 58) hC kc_1 d_Pe_spread_58 ?_
      refine g_iand (pc := 59) hC d_Pe_spread_59 ?_
      refine g_if_eq (pc := 60) hC (tgt := 77) (by decide) d_Pe_spread_60 h (fun h => ?_) (fun h => ?_)
      · refine s_iinc (pc := 77) hC (i := 7) (x := x7) (v := x7 + 1) rfl (by rw [kc_1]) (by decide) d_Pe_spread_77 (lv2 := [some (.ref (V.2.2.1 8 0)), some (.ref (V.2.2.1 tx 0)), none, some (.int x3), some (.int x4), some (.int x5), some (.int x6), some (.int (x7 + 1))]) rfl ?_
        refine g_goto (pc := 80) hC (tgt := 30) (by decide) d_Pe_spread_80 ?_
        exact hk30 x3 x4 x5 x6 (x7 + 1) h
      · refine g_iload (pc := 63) hC (i := 4) (x := x4) rfl d_Pe_spread_63 ?_
        refine g_iconst (pc := 65) hC kc_1 d_Pe_spread_65 ?_
        refine g_aload_n (pc := 66) hC (i := 1) (x := (V.2.2.1 tx 0)) rfl rfl d_Pe_spread_66 ?_
        refine g_getA (pc := 67) hC fo_Pe_33 (ob_Tx hV htx) rfl d_Pe_spread_67 ?_
        refine g_iload (pc := 70) hC (i := 7) (x := x7) rfl d_Pe_spread_70 ?_
        refine g_iald (pc := 72) hC (ar_Tx_16 hV htx) d_Pe_spread_72 h (fun h => ?_)
        refine g_ishl (pc := 73) hC d_Pe_spread_73 ?_
        refine g_ior (pc := 74) hC d_Pe_spread_74 ?_
        refine g_leti h (fun y75 h => ?_)
        refine s_istore (pc := 75) hC (i := 4) (by decide) d_Pe_spread_75 (lv2 := [some (.ref (V.2.2.1 8 0)), some (.ref (V.2.2.1 tx 0)), none, some (.int x3), some (.int y75), some (.int x5), some (.int x6), some (.int x7)]) rfl ?_
        refine s_iinc (pc := 77) hC (i := 7) (x := x7) (v := x7 + 1) rfl (by rw [kc_1]) (by decide) d_Pe_spread_77 (lv2 := [some (.ref (V.2.2.1 8 0)), some (.ref (V.2.2.1 tx 0)), none, some (.int x3), some (.int y75), some (.int x5), some (.int x6), some (.int (x7 + 1))]) rfl ?_
        refine g_goto (pc := 80) hC (tgt := 30) (by decide) d_Pe_spread_80 ?_
        exact hk30 x3 y75 x5 x6 (x7 + 1) h
theorem w_Pe_spread_l30 {X : CX} {V : WV} {tx : Nat} (hV : IsC V) (htx : isTx tx) {S : Mem} {z : Int32} (hC : Ck X V bc_Pe_spread 8 "SecretWells$People" (some .int) 0 0) (k9 : Int32 → Int32 → Int32 → Int32 → Option (Int32)) (hk9 : ∀ (x3 : Int32) (x4 : Int32) (x5 : Int32) (x6 : Int32), k9 x3 x4 x5 x6 = some z → G X V 8 (QI X V z S) 9 [some (.ref (V.2.2.1 8 0)), some (.ref (V.2.2.1 tx 0)), none, some (.int x3), some (.int x4), some (.int x5), some (.int x6), none] [] S) : ∀ (n : Nat) (x3 : Int32) (x4 : Int32) (x5 : Int32) (x6 : Int32) (x7 : Int32), f_Pe_spread_l30 tx S k9 n x3 x4 x5 x6 x7 = some z → G X V 8 (QI X V z S) 30 [some (.ref (V.2.2.1 8 0)), some (.ref (V.2.2.1 tx 0)), none, some (.int x3), some (.int x4), some (.int x5), some (.int x6), some (.int x7)] [] S := by
  intro n
  induction n with
  | zero =>
    intro x3 x4 x5 x6 x7 h
    have h : (none : Option (Int32)) = some z := h
    cases h
  | succ n ih =>
    intro x3 x4 x5 x6 x7 h
    exact w_Pe_spread_b30 hV htx hC k9 hk9 (f_Pe_spread_l30 tx S k9 n) ih x3 x4 x5 x6 x7 h
set_option maxRecDepth 20000 in
theorem w_Pe_spread_b9 {X : CX} {V : WV} {tx : Nat} (hV : IsC V) (htx : isTx tx) {S : Mem} {z : Int32} (hC : Ck X V bc_Pe_spread 8 "SecretWells$People" (some .int) 0 0) (k9 : Int32 → Int32 → Int32 → Int32 → Option (Int32)) (hk9 : ∀ (x3 : Int32) (x4 : Int32) (x5 : Int32) (x6 : Int32), k9 x3 x4 x5 x6 = some z → G X V 8 (QI X V z S) 9 [some (.ref (V.2.2.1 8 0)), some (.ref (V.2.2.1 tx 0)), none, some (.int x3), some (.int x4), some (.int x5), some (.int x6), none] [] S) (x3 : Int32) (x4 : Int32) (x5 : Int32) (x6 : Int32) (h : f_Pe_spread_b9 tx S k9 x3 x4 x5 x6 = some z) : G X V 8 (QI X V z S) 9 [some (.ref (V.2.2.1 8 0)), some (.ref (V.2.2.1 tx 0)), none, some (.int x3), some (.int x4), some (.int x5), some (.int x6), none] [] S := by
  unfold f_Pe_spread_b9 at h
  refine g_iload (pc := 9) hC (i := 6) (x := x6) rfl d_Pe_spread_9 ?_
  refine g_bipush (pc := 11) hC kb_7 d_Pe_spread_11 ?_
  refine g_icmp_gt (pc := 13) hC (tgt := 89) (by decide) d_Pe_spread_13 h (fun h => ?_) (fun h => ?_)
  · refine g_iload (pc := 89) hC (i := 4) (x := x4) rfl d_Pe_spread_89 ?_
    exact g_iN (pc := 91) hC rfl d_Pe_spread_91 h
  · refine g_iload (pc := 16) hC (i := 5) (x := x5) rfl d_Pe_spread_16 ?_
    refine g_iload (pc := 18) hC (i := 4) (x := x4) rfl d_Pe_spread_18 ?_
    refine g_icmp_eq (pc := 20) hC (tgt := 89) (by decide) d_Pe_spread_20 h (fun h => ?_) (fun h => ?_)
    · refine g_iload (pc := 89) hC (i := 4) (x := x4) rfl d_Pe_spread_89 ?_
      exact g_iN (pc := 91) hC rfl d_Pe_spread_91 h
    · refine g_iload (pc := 23) hC (i := 4) (x := x4) rfl d_Pe_spread_23 ?_
      refine s_istore (pc := 25) hC (i := 5) (by decide) d_Pe_spread_25 (lv2 := [some (.ref (V.2.2.1 8 0)), some (.ref (V.2.2.1 tx 0)), none, some (.int x3), some (.int x4), some (.int x4), some (.int x6), none]) rfl ?_
      refine g_iconst (pc := 27) hC kc_0 d_Pe_spread_27 ?_
      refine s_istore (pc := 28) hC (i := 7) (by decide) d_Pe_spread_28 (lv2 := [some (.ref (V.2.2.1 8 0)), some (.ref (V.2.2.1 tx 0)), none, some (.int x3), some (.int x4), some (.int x4), some (.int x6), some (.int 0)]) rfl ?_
      exact w_Pe_spread_l30 hV htx hC k9 hk9 5000 x3 x4 x4 x6 0 h
theorem w_Pe_spread_l9 {X : CX} {V : WV} {tx : Nat} (hV : IsC V) (htx : isTx tx) {S : Mem} {z : Int32} (hC : Ck X V bc_Pe_spread 8 "SecretWells$People" (some .int) 0 0) : ∀ (n : Nat) (x3 : Int32) (x4 : Int32) (x5 : Int32) (x6 : Int32), f_Pe_spread_l9 tx S n x3 x4 x5 x6 = some z → G X V 8 (QI X V z S) 9 [some (.ref (V.2.2.1 8 0)), some (.ref (V.2.2.1 tx 0)), none, some (.int x3), some (.int x4), some (.int x5), some (.int x6), none] [] S := by
  intro n
  induction n with
  | zero =>
    intro x3 x4 x5 x6 h
    have h : (none : Option (Int32)) = some z := h
    cases h
  | succ n ih =>
    intro x3 x4 x5 x6 h
    exact w_Pe_spread_b9 hV htx hC (f_Pe_spread_l9 tx S n) ih x3 x4 x5 x6 h
set_option maxRecDepth 20000 in
theorem w_Pe_spread_b0 {X : CX} {V : WV} {tx : Nat} (hV : IsC V) (htx : isTx tx) {S : Mem} {z : Int32} (hC : Ck X V bc_Pe_spread 8 "SecretWells$People" (some .int) 0 0) (x2 : Int32) (x3 : Int32) (h : f_Pe_spread_b0 tx S x2 x3 = some z) : G X V 8 (QI X V z S) 0 [some (.ref (V.2.2.1 8 0)), some (.ref (V.2.2.1 tx 0)), some (.int x2), some (.int x3), none, none, none, none] [] S := by
  unfold f_Pe_spread_b0 at h
  refine g_iload_n (pc := 0) hC (i := 2) (x := x2) rfl rfl d_Pe_spread_0 ?_
  refine s_istore (pc := 1) hC (i := 4) (by decide) d_Pe_spread_1 (lv2 := [some (.ref (V.2.2.1 8 0)), some (.ref (V.2.2.1 tx 0)), some (.int x2), some (.int x3), some (.int x2), none, none, none]) rfl ?_
  refine g_iconst (pc := 3) hC kc_0 d_Pe_spread_3 ?_
  refine s_istore (pc := 4) hC (i := 5) (by decide) d_Pe_spread_4 (lv2 := [some (.ref (V.2.2.1 8 0)), some (.ref (V.2.2.1 tx 0)), some (.int x2), some (.int x3), some (.int x2), some (.int 0), none, none]) rfl ?_
  refine g_iconst (pc := 6) hC kc_0 d_Pe_spread_6 ?_
  refine s_istore (pc := 7) hC (i := 6) (by decide) d_Pe_spread_7 (lv2 := [some (.ref (V.2.2.1 8 0)), some (.ref (V.2.2.1 tx 0)), some (.int x2), some (.int x3), some (.int x2), some (.int 0), some (.int 0), none]) rfl ?_
  refine g_le (lv2 := [some (.ref (V.2.2.1 8 0)), some (.ref (V.2.2.1 tx 0)), none, some (.int x3), some (.int x2), some (.int 0), some (.int 0), none]) (⟨rfl, ⟨rfl, ⟨rfl, ⟨rfl, ⟨rfl, ⟨rfl, trivial⟩⟩⟩⟩⟩⟩) ?_
  exact w_Pe_spread_l9 hV htx hC 5000 x3 x2 0 0 h
theorem c_Pe_spread {V : WV} {l : Launch} (hV : IsC V) {tx : Nat} (htx : isTx tx) {x2 : Int32} {x3 : Int32} {S : Mem} {z : Int32} (h : f_Pe_spread tx x2 x3 S = some z) : CI V l y_Pe_spread bc_Pe_spread 8 (some .int) 0 0 [.ref (V.2.2.1 8 0), .ref (V.2.2.1 tx 0), .int x2, .int x3] S z S :=
  ct_i rfl (IsC.ok hV) (Nat.le_of_ble_eq_true rfl) (fun _ _ hC => w_Pe_spread_b0 hV htx hC x2 x3 h)
def f_Pe_fewestCuts_b32 (tx : Nat) (st : Nat) (S : Mem) (k32 : Int32 → Int32 → Int32 → Int32 → Int32 → Int32 → Option (Int32)) (x4 : Int32) (x5 : Int32) (x6 : Int32) (x7 : Int32) (x8 : Int32) (x9 : Int32) : Option (Int32) :=
  if ((1 : Int32) <<< ((S.1 tx 3) &&& 31)) ≤ x9 then
    some x7
  else
    if (x9 &&& (x6 ^^^ (-1))) = 0 then
      Option.bind (f_JInt_bitCount x9) (fun q55 =>
      if q55 < x8 then
        Option.bind (f_Pe_spread tx x5 (x6 &&& (x9 ^^^ (-1))) S) (fun q77 =>
        if ((q77 >>> (x4 &&& 31)) &&& 1) = 0 then
          Option.bind (f_JInt_bitCount x9) (fun q94 =>
          k32 x4 x5 x6 x9 q94 (x9 + 1))
        else
          k32 x4 x5 x6 x7 x8 (x9 + 1))
      else
        k32 x4 x5 x6 x7 x8 (x9 + 1))
    else
      k32 x4 x5 x6 x7 x8 (x9 + 1)
def f_Pe_fewestCuts_l32 (tx : Nat) (st : Nat) (S : Mem) : Nat → Int32 → Int32 → Int32 → Int32 → Int32 → Int32 → Option (Int32)
  | 0 => fun _ _ _ _ _ _ => none
  | n + 1 => f_Pe_fewestCuts_b32 tx st S (f_Pe_fewestCuts_l32 tx st S n)
def f_Pe_fewestCuts_b0 (tx : Nat) (st : Nat) (S : Mem) (x3 : Int32) (x4 : Int32) : Option (Int32) :=
  Option.bind (f_St_knowers st tx x3 S) (fun q3 =>
  letS (q3 &&& (S.1 st 1)) (fun y11 =>
  Option.bind (f_Pe_openTies tx st S) (fun q16 =>
  f_Pe_fewestCuts_l32 tx st S 5000 x4 y11 q16 q16 13 0)))
def f_Pe_fewestCuts (tx : Nat) (st : Nat) (x3 : Int32) (x4 : Int32) (S : Mem) : Option (Int32) := f_Pe_fewestCuts_b0 tx st S x3 x4
theorem d_Pe_fewestCuts_0 : decode bc_Pe_fewestCuts 0 = .ok (.aload_n 2, 1) := by decide +kernel
theorem d_Pe_fewestCuts_1 : decode bc_Pe_fewestCuts 1 = .ok (.aload_n 1, 1) := by decide +kernel
theorem d_Pe_fewestCuts_2 : decode bc_Pe_fewestCuts 2 = .ok (.iload_n 3, 1) := by decide +kernel
theorem d_Pe_fewestCuts_3 : decode bc_Pe_fewestCuts 3 = .ok (.invokevirtual 39, 3) := by decide +kernel
theorem d_Pe_fewestCuts_6 : decode bc_Pe_fewestCuts 6 = .ok (.aload_n 2, 1) := by decide +kernel
theorem d_Pe_fewestCuts_7 : decode bc_Pe_fewestCuts 7 = .ok (.getfield 43, 3) := by decide +kernel
theorem d_Pe_fewestCuts_10 : decode bc_Pe_fewestCuts 10 = .ok (.iand, 1) := by decide +kernel
theorem d_Pe_fewestCuts_11 : decode bc_Pe_fewestCuts 11 = .ok (.istore 5, 2) := by decide +kernel
theorem d_Pe_fewestCuts_13 : decode bc_Pe_fewestCuts 13 = .ok (.aload_n 0, 1) := by decide +kernel
theorem d_Pe_fewestCuts_14 : decode bc_Pe_fewestCuts 14 = .ok (.aload_n 1, 1) := by decide +kernel
theorem d_Pe_fewestCuts_15 : decode bc_Pe_fewestCuts 15 = .ok (.aload_n 2, 1) := by decide +kernel
theorem d_Pe_fewestCuts_16 : decode bc_Pe_fewestCuts 16 = .ok (.invokevirtual 46, 3) := by decide +kernel
theorem d_Pe_fewestCuts_19 : decode bc_Pe_fewestCuts 19 = .ok (.istore 6, 2) := by decide +kernel
theorem d_Pe_fewestCuts_21 : decode bc_Pe_fewestCuts 21 = .ok (.iload 6, 2) := by decide +kernel
theorem d_Pe_fewestCuts_23 : decode bc_Pe_fewestCuts 23 = .ok (.istore 7, 2) := by decide +kernel
theorem d_Pe_fewestCuts_25 : decode bc_Pe_fewestCuts 25 = .ok (.bipush 13, 2) := by decide +kernel
theorem d_Pe_fewestCuts_27 : decode bc_Pe_fewestCuts 27 = .ok (.istore 8, 2) := by decide +kernel
theorem d_Pe_fewestCuts_29 : decode bc_Pe_fewestCuts 29 = .ok (.iconst 0, 1) := by decide +kernel
theorem d_Pe_fewestCuts_30 : decode bc_Pe_fewestCuts 30 = .ok (.istore 9, 2) := by decide +kernel
theorem d_Pe_fewestCuts_32 : decode bc_Pe_fewestCuts 32 = .ok (.iload 9, 2) := by decide +kernel
theorem d_Pe_fewestCuts_34 : decode bc_Pe_fewestCuts 34 = .ok (.iconst 1, 1) := by decide +kernel
theorem d_Pe_fewestCuts_35 : decode bc_Pe_fewestCuts 35 = .ok (.aload_n 1, 1) := by decide +kernel
theorem d_Pe_fewestCuts_36 : decode bc_Pe_fewestCuts 36 = .ok (.getfield 19, 3) := by decide +kernel
theorem d_Pe_fewestCuts_39 : decode bc_Pe_fewestCuts 39 = .ok (.ishl, 1) := by decide +kernel
theorem d_Pe_fewestCuts_40 : decode bc_Pe_fewestCuts 40 = .ok (.if_icmp .ge 65, 3) := by decide +kernel
theorem d_Pe_fewestCuts_43 : decode bc_Pe_fewestCuts 43 = .ok (.iload 9, 2) := by decide +kernel
theorem d_Pe_fewestCuts_45 : decode bc_Pe_fewestCuts 45 = .ok (.iload 6, 2) := by decide +kernel
theorem d_Pe_fewestCuts_47 : decode bc_Pe_fewestCuts 47 = .ok (.iconst (-1), 1) := by decide +kernel
theorem d_Pe_fewestCuts_48 : decode bc_Pe_fewestCuts 48 = .ok (.ixor, 1) := by decide +kernel
theorem d_Pe_fewestCuts_49 : decode bc_Pe_fewestCuts 49 = .ok (.iand, 1) := by decide +kernel
theorem d_Pe_fewestCuts_50 : decode bc_Pe_fewestCuts 50 = .ok (.ifCond .ne 49, 3) := by decide +kernel
theorem d_Pe_fewestCuts_53 : decode bc_Pe_fewestCuts 53 = .ok (.iload 9, 2) := by decide +kernel
theorem d_Pe_fewestCuts_55 : decode bc_Pe_fewestCuts 55 = .ok (.invokestatic 50, 3) := by decide +kernel
theorem d_Pe_fewestCuts_58 : decode bc_Pe_fewestCuts 58 = .ok (.iload 8, 2) := by decide +kernel
theorem d_Pe_fewestCuts_60 : decode bc_Pe_fewestCuts 60 = .ok (.if_icmp .lt 6, 3) := by decide +kernel
theorem d_Pe_fewestCuts_63 : decode bc_Pe_fewestCuts 63 = .ok (.goto 36, 3) := by decide +kernel
theorem d_Pe_fewestCuts_66 : decode bc_Pe_fewestCuts 66 = .ok (.aload_n 0, 1) := by decide +kernel
theorem d_Pe_fewestCuts_67 : decode bc_Pe_fewestCuts 67 = .ok (.aload_n 1, 1) := by decide +kernel
theorem d_Pe_fewestCuts_68 : decode bc_Pe_fewestCuts 68 = .ok (.iload 5, 2) := by decide +kernel
theorem d_Pe_fewestCuts_70 : decode bc_Pe_fewestCuts 70 = .ok (.iload 6, 2) := by decide +kernel
theorem d_Pe_fewestCuts_72 : decode bc_Pe_fewestCuts 72 = .ok (.iload 9, 2) := by decide +kernel
theorem d_Pe_fewestCuts_74 : decode bc_Pe_fewestCuts 74 = .ok (.iconst (-1), 1) := by decide +kernel
theorem d_Pe_fewestCuts_75 : decode bc_Pe_fewestCuts 75 = .ok (.ixor, 1) := by decide +kernel
theorem d_Pe_fewestCuts_76 : decode bc_Pe_fewestCuts 76 = .ok (.iand, 1) := by decide +kernel
theorem d_Pe_fewestCuts_77 : decode bc_Pe_fewestCuts 77 = .ok (.invokevirtual 56, 3) := by decide +kernel
theorem d_Pe_fewestCuts_80 : decode bc_Pe_fewestCuts 80 = .ok (.iload 4, 2) := by decide +kernel
theorem d_Pe_fewestCuts_82 : decode bc_Pe_fewestCuts 82 = .ok (.ishr, 1) := by decide +kernel
theorem d_Pe_fewestCuts_83 : decode bc_Pe_fewestCuts 83 = .ok (.iconst 1, 1) := by decide +kernel
theorem d_Pe_fewestCuts_84 : decode bc_Pe_fewestCuts 84 = .ok (.iand, 1) := by decide +kernel
theorem d_Pe_fewestCuts_85 : decode bc_Pe_fewestCuts 85 = .ok (.ifCond .ne 14, 3) := by decide +kernel
theorem d_Pe_fewestCuts_88 : decode bc_Pe_fewestCuts 88 = .ok (.iload 9, 2) := by decide +kernel
theorem d_Pe_fewestCuts_90 : decode bc_Pe_fewestCuts 90 = .ok (.istore 7, 2) := by decide +kernel
theorem d_Pe_fewestCuts_92 : decode bc_Pe_fewestCuts 92 = .ok (.iload 9, 2) := by decide +kernel
theorem d_Pe_fewestCuts_94 : decode bc_Pe_fewestCuts 94 = .ok (.invokestatic 50, 3) := by decide +kernel
theorem d_Pe_fewestCuts_97 : decode bc_Pe_fewestCuts 97 = .ok (.istore 8, 2) := by decide +kernel
theorem d_Pe_fewestCuts_99 : decode bc_Pe_fewestCuts 99 = .ok (.iinc 9 1, 3) := by decide +kernel
theorem d_Pe_fewestCuts_102 : decode bc_Pe_fewestCuts 102 = .ok (.goto (-70), 3) := by decide +kernel
theorem d_Pe_fewestCuts_105 : decode bc_Pe_fewestCuts 105 = .ok (.iload 7, 2) := by decide +kernel
theorem d_Pe_fewestCuts_107 : decode bc_Pe_fewestCuts 107 = .ok (.ireturn, 1) := by decide +kernel
set_option maxRecDepth 20000 in
theorem w_Pe_fewestCuts_b32 {X : CX} {V : WV} {tx : Nat} {st : Nat} (hV : IsC V) (htx : isTx tx) (hst : isSt st) {S : Mem} {z : Int32} (hC : Ck X V bc_Pe_fewestCuts 10 "SecretWells$People" (some .int) 2 46) (k32 : Int32 → Int32 → Int32 → Int32 → Int32 → Int32 → Option (Int32)) (hk32 : ∀ (x4 : Int32) (x5 : Int32) (x6 : Int32) (x7 : Int32) (x8 : Int32) (x9 : Int32), k32 x4 x5 x6 x7 x8 x9 = some z → G X V 10 (QI X V z S) 32 [some (.ref (V.2.2.1 8 0)), some (.ref (V.2.2.1 tx 0)), some (.ref (V.2.2.1 st 0)), none, some (.int x4), some (.int x5), some (.int x6), some (.int x7), some (.int x8), some (.int x9)] [] S) (x4 : Int32) (x5 : Int32) (x6 : Int32) (x7 : Int32) (x8 : Int32) (x9 : Int32) (h : f_Pe_fewestCuts_b32 tx st S k32 x4 x5 x6 x7 x8 x9 = some z) : G X V 10 (QI X V z S) 32 [some (.ref (V.2.2.1 8 0)), some (.ref (V.2.2.1 tx 0)), some (.ref (V.2.2.1 st 0)), none, some (.int x4), some (.int x5), some (.int x6), some (.int x7), some (.int x8), some (.int x9)] [] S := by
  unfold f_Pe_fewestCuts_b32 at h
  refine g_iload (pc := 32) hC (i := 9) (x := x9) rfl d_Pe_fewestCuts_32 ?_
  refine g_iconst (pc := 34) hC kc_1 d_Pe_fewestCuts_34 ?_
  refine g_aload_n (pc := 35) hC (i := 1) (x := (V.2.2.1 tx 0)) rfl rfl d_Pe_fewestCuts_35 ?_
  refine g_getI (pc := 36) hC fo_Pe_19 (ob_Tx hV htx) rfl d_Pe_fewestCuts_36 ?_
  refine g_ishl (pc := 39) hC d_Pe_fewestCuts_39 ?_
  refine g_icmp_ge (pc := 40) hC (tgt := 105) (by decide) d_Pe_fewestCuts_40 h (fun h => ?_) (fun h => ?_)
  · refine g_iload (pc := 105) hC (i := 7) (x := x7) rfl d_Pe_fewestCuts_105 ?_
    exact g_iN (pc := 107) hC rfl d_Pe_fewestCuts_107 h
  · refine g_iload (pc := 43) hC (i := 9) (x := x9) rfl d_Pe_fewestCuts_43 ?_
    refine g_iload (pc := 45) hC (i := 6) (x := x6) rfl d_Pe_fewestCuts_45 ?_
    refine g_iconst (pc := 47) hC kc_m1 d_Pe_fewestCuts_47 ?_
    refine g_ixor (pc := 48) hC d_Pe_fewestCuts_48 ?_
    refine g_iand (pc := 49) hC d_Pe_fewestCuts_49 ?_
    refine g_if_ne (pc := 50) hC (tgt := 99) (by decide) d_Pe_fewestCuts_50 h (fun h => ?_) (fun h => ?_)
    · refine s_iinc (pc := 99) hC (i := 9) (x := x9) (v := x9 + 1) rfl (by rw [kc_1]) (by decide) d_Pe_fewestCuts_99 (lv2 := [some (.ref (V.2.2.1 8 0)), some (.ref (V.2.2.1 tx 0)), some (.ref (V.2.2.1 st 0)), none, some (.int x4), some (.int x5), some (.int x6), some (.int x7), some (.int x8), some (.int (x9 + 1))]) rfl ?_
      refine g_goto (pc := 102) hC (tgt := 32) (by decide) d_Pe_fewestCuts_102 ?_
      exact hk32 x4 x5 x6 x7 x8 (x9 + 1) h
    · refine g_iload (pc := 53) hC (i := 9) (x := x9) rfl d_Pe_fewestCuts_53 ?_
      obtain ⟨q55, hq55, h⟩ := Option.bind_eq_some_iff.mp h
      refine g_si (pc := 55) hC (As := [.int x9]) (st := []) mt_JInt_bitCount lk_Pe_50 (Nat.le_of_ble_eq_true rfl) ⟨Nat.le_of_ble_eq_true rfl, Nat.le_of_ble_eq_true rfl⟩ rfl d_Pe_fewestCuts_55 (c_JInt_bitCount (IsC.ok hV) hq55) ?_
      refine g_iload (pc := 58) hC (i := 8) (x := x8) rfl d_Pe_fewestCuts_58 ?_
      refine g_icmp_lt (pc := 60) hC (tgt := 66) (by decide) d_Pe_fewestCuts_60 h (fun h => ?_) (fun h => ?_)
      · refine g_aload_n (pc := 66) hC (i := 0) (x := (V.2.2.1 8 0)) rfl rfl d_Pe_fewestCuts_66 ?_
        refine g_aload_n (pc := 67) hC (i := 1) (x := (V.2.2.1 tx 0)) rfl rfl d_Pe_fewestCuts_67 ?_
        refine g_iload (pc := 68) hC (i := 5) (x := x5) rfl d_Pe_fewestCuts_68 ?_
        refine g_iload (pc := 70) hC (i := 6) (x := x6) rfl d_Pe_fewestCuts_70 ?_
        refine g_iload (pc := 72) hC (i := 9) (x := x9) rfl d_Pe_fewestCuts_72 ?_
        refine g_iconst (pc := 74) hC kc_m1 d_Pe_fewestCuts_74 ?_
        refine g_ixor (pc := 75) hC d_Pe_fewestCuts_75 ?_
        refine g_iand (pc := 76) hC d_Pe_fewestCuts_76 ?_
        obtain ⟨q77, hq77, h⟩ := Option.bind_eq_some_iff.mp h
        refine g_vi (pc := 77) hC (As := [.ref (V.2.2.1 tx 0), .int x5, .int (x6 &&& (x9 ^^^ (-1)))]) (st := []) mt_Pe_spread lk_Pe_56 rfl (ob_Pe hV) (Nat.le_of_ble_eq_true rfl) ⟨Nat.le_of_ble_eq_true rfl, Nat.le_of_ble_eq_true rfl⟩ rfl d_Pe_fewestCuts_77 (c_Pe_spread hV htx hq77) ?_
        refine g_iload (pc := 80) hC (i := 4) (x := x4) rfl d_Pe_fewestCuts_80 ?_
        refine g_ishr (pc := 82) hC d_Pe_fewestCuts_82 ?_
        refine g_iconst (pc := 83) hC kc_1 d_Pe_fewestCuts_83 ?_
        refine g_iand (pc := 84) hC d_Pe_fewestCuts_84 ?_
        refine g_if_ne (pc := 85) hC (tgt := 99) (by decide) d_Pe_fewestCuts_85 h (fun h => ?_) (fun h => ?_)
        · refine s_iinc (pc := 99) hC (i := 9) (x := x9) (v := x9 + 1) rfl (by rw [kc_1]) (by decide) d_Pe_fewestCuts_99 (lv2 := [some (.ref (V.2.2.1 8 0)), some (.ref (V.2.2.1 tx 0)), some (.ref (V.2.2.1 st 0)), none, some (.int x4), some (.int x5), some (.int x6), some (.int x7), some (.int x8), some (.int (x9 + 1))]) rfl ?_
          refine g_goto (pc := 102) hC (tgt := 32) (by decide) d_Pe_fewestCuts_102 ?_
          exact hk32 x4 x5 x6 x7 x8 (x9 + 1) h
        · refine g_iload (pc := 88) hC (i := 9) (x := x9) rfl d_Pe_fewestCuts_88 ?_
          refine s_istore (pc := 90) hC (i := 7) (by decide) d_Pe_fewestCuts_90 (lv2 := [some (.ref (V.2.2.1 8 0)), some (.ref (V.2.2.1 tx 0)), some (.ref (V.2.2.1 st 0)), none, some (.int x4), some (.int x5), some (.int x6), some (.int x9), some (.int x8), some (.int x9)]) rfl ?_
          refine g_iload (pc := 92) hC (i := 9) (x := x9) rfl d_Pe_fewestCuts_92 ?_
          obtain ⟨q94, hq94, h⟩ := Option.bind_eq_some_iff.mp h
          refine g_si (pc := 94) hC (As := [.int x9]) (st := []) mt_JInt_bitCount lk_Pe_50 (Nat.le_of_ble_eq_true rfl) ⟨Nat.le_of_ble_eq_true rfl, Nat.le_of_ble_eq_true rfl⟩ rfl d_Pe_fewestCuts_94 (c_JInt_bitCount (IsC.ok hV) hq94) ?_
          refine s_istore (pc := 97) hC (i := 8) (by decide) d_Pe_fewestCuts_97 (lv2 := [some (.ref (V.2.2.1 8 0)), some (.ref (V.2.2.1 tx 0)), some (.ref (V.2.2.1 st 0)), none, some (.int x4), some (.int x5), some (.int x6), some (.int x9), some (.int q94), some (.int x9)]) rfl ?_
          refine s_iinc (pc := 99) hC (i := 9) (x := x9) (v := x9 + 1) rfl (by rw [kc_1]) (by decide) d_Pe_fewestCuts_99 (lv2 := [some (.ref (V.2.2.1 8 0)), some (.ref (V.2.2.1 tx 0)), some (.ref (V.2.2.1 st 0)), none, some (.int x4), some (.int x5), some (.int x6), some (.int x9), some (.int q94), some (.int (x9 + 1))]) rfl ?_
          refine g_goto (pc := 102) hC (tgt := 32) (by decide) d_Pe_fewestCuts_102 ?_
          exact hk32 x4 x5 x6 x9 q94 (x9 + 1) h
      · refine g_goto (pc := 63) hC (tgt := 99) (by decide) d_Pe_fewestCuts_63 ?_
        refine s_iinc (pc := 99) hC (i := 9) (x := x9) (v := x9 + 1) rfl (by rw [kc_1]) (by decide) d_Pe_fewestCuts_99 (lv2 := [some (.ref (V.2.2.1 8 0)), some (.ref (V.2.2.1 tx 0)), some (.ref (V.2.2.1 st 0)), none, some (.int x4), some (.int x5), some (.int x6), some (.int x7), some (.int x8), some (.int (x9 + 1))]) rfl ?_
        refine g_goto (pc := 102) hC (tgt := 32) (by decide) d_Pe_fewestCuts_102 ?_
        exact hk32 x4 x5 x6 x7 x8 (x9 + 1) h
theorem w_Pe_fewestCuts_l32 {X : CX} {V : WV} {tx : Nat} {st : Nat} (hV : IsC V) (htx : isTx tx) (hst : isSt st) {S : Mem} {z : Int32} (hC : Ck X V bc_Pe_fewestCuts 10 "SecretWells$People" (some .int) 2 46) : ∀ (n : Nat) (x4 : Int32) (x5 : Int32) (x6 : Int32) (x7 : Int32) (x8 : Int32) (x9 : Int32), f_Pe_fewestCuts_l32 tx st S n x4 x5 x6 x7 x8 x9 = some z → G X V 10 (QI X V z S) 32 [some (.ref (V.2.2.1 8 0)), some (.ref (V.2.2.1 tx 0)), some (.ref (V.2.2.1 st 0)), none, some (.int x4), some (.int x5), some (.int x6), some (.int x7), some (.int x8), some (.int x9)] [] S := by
  intro n
  induction n with
  | zero =>
    intro x4 x5 x6 x7 x8 x9 h
    have h : (none : Option (Int32)) = some z := h
    cases h
  | succ n ih =>
    intro x4 x5 x6 x7 x8 x9 h
    exact w_Pe_fewestCuts_b32 hV htx hst hC (f_Pe_fewestCuts_l32 tx st S n) ih x4 x5 x6 x7 x8 x9 h
set_option maxRecDepth 20000 in
theorem w_Pe_fewestCuts_b0 {X : CX} {V : WV} {tx : Nat} {st : Nat} (hV : IsC V) (htx : isTx tx) (hst : isSt st) {S : Mem} {z : Int32} (hC : Ck X V bc_Pe_fewestCuts 10 "SecretWells$People" (some .int) 2 46) (x3 : Int32) (x4 : Int32) (h : f_Pe_fewestCuts_b0 tx st S x3 x4 = some z) : G X V 10 (QI X V z S) 0 [some (.ref (V.2.2.1 8 0)), some (.ref (V.2.2.1 tx 0)), some (.ref (V.2.2.1 st 0)), some (.int x3), some (.int x4), none, none, none, none, none] [] S := by
  unfold f_Pe_fewestCuts_b0 at h
  refine g_aload_n (pc := 0) hC (i := 2) (x := (V.2.2.1 st 0)) rfl rfl d_Pe_fewestCuts_0 ?_
  refine g_aload_n (pc := 1) hC (i := 1) (x := (V.2.2.1 tx 0)) rfl rfl d_Pe_fewestCuts_1 ?_
  refine g_iload_n (pc := 2) hC (i := 3) (x := x3) rfl rfl d_Pe_fewestCuts_2 ?_
  obtain ⟨q3, hq3, h⟩ := Option.bind_eq_some_iff.mp h
  refine g_vi (pc := 3) hC (As := [.ref (V.2.2.1 tx 0), .int x3]) (st := []) mt_St_knowers lk_Pe_39 rfl (ob_St hV hst) (Nat.le_of_ble_eq_true rfl) ⟨Nat.le_of_ble_eq_true rfl, Nat.le_of_ble_eq_true rfl⟩ rfl d_Pe_fewestCuts_3 (c_St_knowers hV hst htx hq3) ?_
  refine g_aload_n (pc := 6) hC (i := 2) (x := (V.2.2.1 st 0)) rfl rfl d_Pe_fewestCuts_6 ?_
  refine g_getI (pc := 7) hC fo_Pe_43 (ob_St hV hst) rfl d_Pe_fewestCuts_7 ?_
  refine g_iand (pc := 10) hC d_Pe_fewestCuts_10 ?_
  refine g_leti h (fun y11 h => ?_)
  refine s_istore (pc := 11) hC (i := 5) (by decide) d_Pe_fewestCuts_11 (lv2 := [some (.ref (V.2.2.1 8 0)), some (.ref (V.2.2.1 tx 0)), some (.ref (V.2.2.1 st 0)), some (.int x3), some (.int x4), some (.int y11), none, none, none, none]) rfl ?_
  refine g_aload_n (pc := 13) hC (i := 0) (x := (V.2.2.1 8 0)) rfl rfl d_Pe_fewestCuts_13 ?_
  refine g_aload_n (pc := 14) hC (i := 1) (x := (V.2.2.1 tx 0)) rfl rfl d_Pe_fewestCuts_14 ?_
  refine g_aload_n (pc := 15) hC (i := 2) (x := (V.2.2.1 st 0)) rfl rfl d_Pe_fewestCuts_15 ?_
  obtain ⟨q16, hq16, h⟩ := Option.bind_eq_some_iff.mp h
  refine g_vi (pc := 16) hC (As := [.ref (V.2.2.1 tx 0), .ref (V.2.2.1 st 0)]) (st := []) mt_Pe_openTies lk_Pe_46 rfl (ob_Pe hV) (Nat.le_of_ble_eq_true rfl) ⟨Nat.le_of_ble_eq_true rfl, Nat.le_of_ble_eq_true rfl⟩ rfl d_Pe_fewestCuts_16 (c_Pe_openTies hV htx hst hq16) ?_
  refine s_istore (pc := 19) hC (i := 6) (by decide) d_Pe_fewestCuts_19 (lv2 := [some (.ref (V.2.2.1 8 0)), some (.ref (V.2.2.1 tx 0)), some (.ref (V.2.2.1 st 0)), some (.int x3), some (.int x4), some (.int y11), some (.int q16), none, none, none]) rfl ?_
  refine g_iload (pc := 21) hC (i := 6) (x := q16) rfl d_Pe_fewestCuts_21 ?_
  refine s_istore (pc := 23) hC (i := 7) (by decide) d_Pe_fewestCuts_23 (lv2 := [some (.ref (V.2.2.1 8 0)), some (.ref (V.2.2.1 tx 0)), some (.ref (V.2.2.1 st 0)), some (.int x3), some (.int x4), some (.int y11), some (.int q16), some (.int q16), none, none]) rfl ?_
  refine g_bipush (pc := 25) hC kb_13 d_Pe_fewestCuts_25 ?_
  refine s_istore (pc := 27) hC (i := 8) (by decide) d_Pe_fewestCuts_27 (lv2 := [some (.ref (V.2.2.1 8 0)), some (.ref (V.2.2.1 tx 0)), some (.ref (V.2.2.1 st 0)), some (.int x3), some (.int x4), some (.int y11), some (.int q16), some (.int q16), some (.int 13), none]) rfl ?_
  refine g_iconst (pc := 29) hC kc_0 d_Pe_fewestCuts_29 ?_
  refine s_istore (pc := 30) hC (i := 9) (by decide) d_Pe_fewestCuts_30 (lv2 := [some (.ref (V.2.2.1 8 0)), some (.ref (V.2.2.1 tx 0)), some (.ref (V.2.2.1 st 0)), some (.int x3), some (.int x4), some (.int y11), some (.int q16), some (.int q16), some (.int 13), some (.int 0)]) rfl ?_
  refine g_le (lv2 := [some (.ref (V.2.2.1 8 0)), some (.ref (V.2.2.1 tx 0)), some (.ref (V.2.2.1 st 0)), none, some (.int x4), some (.int y11), some (.int q16), some (.int q16), some (.int 13), some (.int 0)]) (⟨rfl, ⟨rfl, ⟨rfl, ⟨rfl, ⟨rfl, ⟨rfl, ⟨rfl, ⟨rfl, ⟨rfl, trivial⟩⟩⟩⟩⟩⟩⟩⟩⟩) ?_
  exact w_Pe_fewestCuts_l32 hV htx hst hC 5000 x4 y11 q16 q16 13 0 h
theorem c_Pe_fewestCuts {V : WV} {l : Launch} (hV : IsC V) {tx : Nat} {st : Nat} (htx : isTx tx) (hst : isSt st) {x3 : Int32} {x4 : Int32} {S : Mem} {z : Int32} (h : f_Pe_fewestCuts tx st x3 x4 S = some z) : CI V l y_Pe_fewestCuts bc_Pe_fewestCuts 10 (some .int) 2 46 [.ref (V.2.2.1 8 0), .ref (V.2.2.1 tx 0), .ref (V.2.2.1 st 0), .int x3, .int x4] S z S :=
  ct_i rfl (IsC.ok hV) (Nat.le_of_ble_eq_true rfl) (fun _ _ hC => w_Pe_fewestCuts_b0 hV htx hst hC x3 x4 h)
def f_Pe_sharedByTwo_b38 (tx : Nat) (st : Nat) (S : Mem) (k38 : Int32 → Int32 → Int32 → Int32 → Option (Int32)) (x3 : Int32) (x4 : Int32) (x5 : Int32) (x6 : Int32) : Option (Int32) :=
  if (S.1 tx 1) ≤ x6 then
    Option.bind (f_JInt_bitCount x5) (fun q91 =>
    some q91)
  else
    if x6 = x3 then
      k38 x3 x4 x5 (x6 + 1)
    else
      if x6 = x4 then
        k38 x3 x4 x5 (x6 + 1)
      else
        Option.bind (f_St_isAlive st x6 S) (fun q63 =>
        if q63 = 0 then
          k38 x3 x4 x5 (x6 + 1)
        else
          gIn x6 7 (
          letS (x5 &&& ((S.2.1 st 7 x6.toNatClampNeg) ^^^ (-1))) (fun y81 =>
          k38 x3 x4 y81 (x6 + 1))))
def f_Pe_sharedByTwo_l38 (tx : Nat) (st : Nat) (S : Mem) : Nat → Int32 → Int32 → Int32 → Int32 → Option (Int32)
  | 0 => fun _ _ _ _ => none
  | n + 1 => f_Pe_sharedByTwo_b38 tx st S (f_Pe_sharedByTwo_l38 tx st S n)
def f_Pe_sharedByTwo_b0 (tx : Nat) (st : Nat) (S : Mem) (x3 : Int32) (x4 : Int32) : Option (Int32) :=
  Option.bind (f_St_isAlive st x3 S) (fun q2 =>
  if q2 = 0 then
    some 0
  else
    Option.bind (f_St_isAlive st x4 S) (fun q11 =>
    if q11 = 0 then
      some 0
    else
      gIn x3 7 (
      gIn x4 7 (
      letS ((S.2.1 st 7 x3.toNatClampNeg) &&& (S.2.1 st 7 x4.toNatClampNeg)) (fun y33 =>
      f_Pe_sharedByTwo_l38 tx st S 5000 x3 x4 y33 0)))))
def f_Pe_sharedByTwo (tx : Nat) (st : Nat) (x3 : Int32) (x4 : Int32) (S : Mem) : Option (Int32) := f_Pe_sharedByTwo_b0 tx st S x3 x4
theorem d_Pe_sharedByTwo_0 : decode bc_Pe_sharedByTwo 0 = .ok (.aload_n 2, 1) := by decide +kernel
theorem d_Pe_sharedByTwo_1 : decode bc_Pe_sharedByTwo 1 = .ok (.iload_n 3, 1) := by decide +kernel
theorem d_Pe_sharedByTwo_2 : decode bc_Pe_sharedByTwo 2 = .ok (.invokevirtual 27, 3) := by decide +kernel
theorem d_Pe_sharedByTwo_5 : decode bc_Pe_sharedByTwo 5 = .ok (.ifCond .eq 12, 3) := by decide +kernel
theorem d_Pe_sharedByTwo_8 : decode bc_Pe_sharedByTwo 8 = .ok (.aload_n 2, 1) := by decide +kernel
theorem d_Pe_sharedByTwo_9 : decode bc_Pe_sharedByTwo 9 = .ok (.iload 4, 2) := by decide +kernel
theorem d_Pe_sharedByTwo_11 : decode bc_Pe_sharedByTwo 11 = .ok (.invokevirtual 27, 3) := by decide +kernel
theorem d_Pe_sharedByTwo_14 : decode bc_Pe_sharedByTwo 14 = .ok (.ifCond .ne 5, 3) := by decide +kernel
theorem d_Pe_sharedByTwo_17 : decode bc_Pe_sharedByTwo 17 = .ok (.iconst 0, 1) := by decide +kernel
theorem d_Pe_sharedByTwo_18 : decode bc_Pe_sharedByTwo 18 = .ok (.ireturn, 1) := by decide +kernel
theorem d_Pe_sharedByTwo_19 : decode bc_Pe_sharedByTwo 19 = .ok (.aload_n 2, 1) := by decide +kernel
theorem d_Pe_sharedByTwo_20 : decode bc_Pe_sharedByTwo 20 = .ok (.getfield 60, 3) := by decide +kernel
theorem d_Pe_sharedByTwo_23 : decode bc_Pe_sharedByTwo 23 = .ok (.iload_n 3, 1) := by decide +kernel
theorem d_Pe_sharedByTwo_24 : decode bc_Pe_sharedByTwo 24 = .ok (.iaload, 1) := by decide +kernel
theorem d_Pe_sharedByTwo_25 : decode bc_Pe_sharedByTwo 25 = .ok (.aload_n 2, 1) := by decide +kernel
theorem d_Pe_sharedByTwo_26 : decode bc_Pe_sharedByTwo 26 = .ok (.getfield 60, 3) := by decide +kernel
theorem d_Pe_sharedByTwo_29 : decode bc_Pe_sharedByTwo 29 = .ok (.iload 4, 2) := by decide +kernel
theorem d_Pe_sharedByTwo_31 : decode bc_Pe_sharedByTwo 31 = .ok (.iaload, 1) := by decide +kernel
theorem d_Pe_sharedByTwo_32 : decode bc_Pe_sharedByTwo 32 = .ok (.iand, 1) := by decide +kernel
theorem d_Pe_sharedByTwo_33 : decode bc_Pe_sharedByTwo 33 = .ok (.istore 5, 2) := by decide +kernel
theorem d_Pe_sharedByTwo_35 : decode bc_Pe_sharedByTwo 35 = .ok (.iconst 0, 1) := by decide +kernel
theorem d_Pe_sharedByTwo_36 : decode bc_Pe_sharedByTwo 36 = .ok (.istore 6, 2) := by decide +kernel
theorem d_Pe_sharedByTwo_38 : decode bc_Pe_sharedByTwo 38 = .ok (.iload 6, 2) := by decide +kernel
theorem d_Pe_sharedByTwo_40 : decode bc_Pe_sharedByTwo 40 = .ok (.aload_n 1, 1) := by decide +kernel
theorem d_Pe_sharedByTwo_41 : decode bc_Pe_sharedByTwo 41 = .ok (.getfield 63, 3) := by decide +kernel
theorem d_Pe_sharedByTwo_44 : decode bc_Pe_sharedByTwo 44 = .ok (.if_icmp .ge 45, 3) := by decide +kernel
theorem d_Pe_sharedByTwo_47 : decode bc_Pe_sharedByTwo 47 = .ok (.iload 6, 2) := by decide +kernel
theorem d_Pe_sharedByTwo_49 : decode bc_Pe_sharedByTwo 49 = .ok (.iload_n 3, 1) := by decide +kernel
theorem d_Pe_sharedByTwo_50 : decode bc_Pe_sharedByTwo 50 = .ok (.if_icmp .eq 33, 3) := by decide +kernel
theorem d_Pe_sharedByTwo_53 : decode bc_Pe_sharedByTwo 53 = .ok (.iload 6, 2) := by decide +kernel
theorem d_Pe_sharedByTwo_55 : decode bc_Pe_sharedByTwo 55 = .ok (.iload 4, 2) := by decide +kernel
theorem d_Pe_sharedByTwo_57 : decode bc_Pe_sharedByTwo 57 = .ok (.if_icmp .eq 26, 3) := by decide +kernel
theorem d_Pe_sharedByTwo_60 : decode bc_Pe_sharedByTwo 60 = .ok (.aload_n 2, 1) := by decide +kernel
theorem d_Pe_sharedByTwo_61 : decode bc_Pe_sharedByTwo 61 = .ok (.iload 6, 2) := by decide +kernel
theorem d_Pe_sharedByTwo_63 : decode bc_Pe_sharedByTwo 63 = .ok (.invokevirtual 27, 3) := by decide +kernel
theorem d_Pe_sharedByTwo_66 : decode bc_Pe_sharedByTwo 66 = .ok (.ifCond .eq 17, 3) := by decide +kernel
theorem d_Pe_sharedByTwo_69 : decode bc_Pe_sharedByTwo 69 = .ok (.iload 5, 2) := by decide +kernel
theorem d_Pe_sharedByTwo_71 : decode bc_Pe_sharedByTwo 71 = .ok (.aload_n 2, 1) := by decide +kernel
theorem d_Pe_sharedByTwo_72 : decode bc_Pe_sharedByTwo 72 = .ok (.getfield 60, 3) := by decide +kernel
theorem d_Pe_sharedByTwo_75 : decode bc_Pe_sharedByTwo 75 = .ok (.iload 6, 2) := by decide +kernel
theorem d_Pe_sharedByTwo_77 : decode bc_Pe_sharedByTwo 77 = .ok (.iaload, 1) := by decide +kernel
theorem d_Pe_sharedByTwo_78 : decode bc_Pe_sharedByTwo 78 = .ok (.iconst (-1), 1) := by decide +kernel
theorem d_Pe_sharedByTwo_79 : decode bc_Pe_sharedByTwo 79 = .ok (.ixor, 1) := by decide +kernel
theorem d_Pe_sharedByTwo_80 : decode bc_Pe_sharedByTwo 80 = .ok (.iand, 1) := by decide +kernel
theorem d_Pe_sharedByTwo_81 : decode bc_Pe_sharedByTwo 81 = .ok (.istore 5, 2) := by decide +kernel
theorem d_Pe_sharedByTwo_83 : decode bc_Pe_sharedByTwo 83 = .ok (.iinc 6 1, 3) := by decide +kernel
theorem d_Pe_sharedByTwo_86 : decode bc_Pe_sharedByTwo 86 = .ok (.goto (-48), 3) := by decide +kernel
theorem d_Pe_sharedByTwo_89 : decode bc_Pe_sharedByTwo 89 = .ok (.iload 5, 2) := by decide +kernel
theorem d_Pe_sharedByTwo_91 : decode bc_Pe_sharedByTwo 91 = .ok (.invokestatic 50, 3) := by decide +kernel
theorem d_Pe_sharedByTwo_94 : decode bc_Pe_sharedByTwo 94 = .ok (.ireturn, 1) := by decide +kernel
set_option maxRecDepth 20000 in
theorem w_Pe_sharedByTwo_b38 {X : CX} {V : WV} {tx : Nat} {st : Nat} (hV : IsC V) (htx : isTx tx) (hst : isSt st) {S : Mem} {z : Int32} (hC : Ck X V bc_Pe_sharedByTwo 7 "SecretWells$People" (some .int) 1 21) (k38 : Int32 → Int32 → Int32 → Int32 → Option (Int32)) (hk38 : ∀ (x3 : Int32) (x4 : Int32) (x5 : Int32) (x6 : Int32), k38 x3 x4 x5 x6 = some z → G X V 7 (QI X V z S) 38 [some (.ref (V.2.2.1 8 0)), some (.ref (V.2.2.1 tx 0)), some (.ref (V.2.2.1 st 0)), some (.int x3), some (.int x4), some (.int x5), some (.int x6)] [] S) (x3 : Int32) (x4 : Int32) (x5 : Int32) (x6 : Int32) (h : f_Pe_sharedByTwo_b38 tx st S k38 x3 x4 x5 x6 = some z) : G X V 7 (QI X V z S) 38 [some (.ref (V.2.2.1 8 0)), some (.ref (V.2.2.1 tx 0)), some (.ref (V.2.2.1 st 0)), some (.int x3), some (.int x4), some (.int x5), some (.int x6)] [] S := by
  unfold f_Pe_sharedByTwo_b38 at h
  refine g_iload (pc := 38) hC (i := 6) (x := x6) rfl d_Pe_sharedByTwo_38 ?_
  refine g_aload_n (pc := 40) hC (i := 1) (x := (V.2.2.1 tx 0)) rfl rfl d_Pe_sharedByTwo_40 ?_
  refine g_getI (pc := 41) hC fo_Pe_63 (ob_Tx hV htx) rfl d_Pe_sharedByTwo_41 ?_
  refine g_icmp_ge (pc := 44) hC (tgt := 89) (by decide) d_Pe_sharedByTwo_44 h (fun h => ?_) (fun h => ?_)
  · refine g_iload (pc := 89) hC (i := 5) (x := x5) rfl d_Pe_sharedByTwo_89 ?_
    obtain ⟨q91, hq91, h⟩ := Option.bind_eq_some_iff.mp h
    refine g_si (pc := 91) hC (As := [.int x5]) (st := []) mt_JInt_bitCount lk_Pe_50 (Nat.le_of_ble_eq_true rfl) ⟨Nat.le_of_ble_eq_true rfl, Nat.le_of_ble_eq_true rfl⟩ rfl d_Pe_sharedByTwo_91 (c_JInt_bitCount (IsC.ok hV) hq91) ?_
    exact g_iN (pc := 94) hC rfl d_Pe_sharedByTwo_94 h
  · refine g_iload (pc := 47) hC (i := 6) (x := x6) rfl d_Pe_sharedByTwo_47 ?_
    refine g_iload_n (pc := 49) hC (i := 3) (x := x3) rfl rfl d_Pe_sharedByTwo_49 ?_
    refine g_icmp_eq (pc := 50) hC (tgt := 83) (by decide) d_Pe_sharedByTwo_50 h (fun h => ?_) (fun h => ?_)
    · refine s_iinc (pc := 83) hC (i := 6) (x := x6) (v := x6 + 1) rfl (by rw [kc_1]) (by decide) d_Pe_sharedByTwo_83 (lv2 := [some (.ref (V.2.2.1 8 0)), some (.ref (V.2.2.1 tx 0)), some (.ref (V.2.2.1 st 0)), some (.int x3), some (.int x4), some (.int x5), some (.int (x6 + 1))]) rfl ?_
      refine g_goto (pc := 86) hC (tgt := 38) (by decide) d_Pe_sharedByTwo_86 ?_
      exact hk38 x3 x4 x5 (x6 + 1) h
    · refine g_iload (pc := 53) hC (i := 6) (x := x6) rfl d_Pe_sharedByTwo_53 ?_
      refine g_iload (pc := 55) hC (i := 4) (x := x4) rfl d_Pe_sharedByTwo_55 ?_
      refine g_icmp_eq (pc := 57) hC (tgt := 83) (by decide) d_Pe_sharedByTwo_57 h (fun h => ?_) (fun h => ?_)
      · refine s_iinc (pc := 83) hC (i := 6) (x := x6) (v := x6 + 1) rfl (by rw [kc_1]) (by decide) d_Pe_sharedByTwo_83 (lv2 := [some (.ref (V.2.2.1 8 0)), some (.ref (V.2.2.1 tx 0)), some (.ref (V.2.2.1 st 0)), some (.int x3), some (.int x4), some (.int x5), some (.int (x6 + 1))]) rfl ?_
        refine g_goto (pc := 86) hC (tgt := 38) (by decide) d_Pe_sharedByTwo_86 ?_
        exact hk38 x3 x4 x5 (x6 + 1) h
      · refine g_aload_n (pc := 60) hC (i := 2) (x := (V.2.2.1 st 0)) rfl rfl d_Pe_sharedByTwo_60 ?_
        refine g_iload (pc := 61) hC (i := 6) (x := x6) rfl d_Pe_sharedByTwo_61 ?_
        obtain ⟨q63, hq63, h⟩ := Option.bind_eq_some_iff.mp h
        refine g_vi (pc := 63) hC (As := [.int x6]) (st := []) mt_St_isAlive lk_Pe_27 rfl (ob_St hV hst) (Nat.le_of_ble_eq_true rfl) ⟨Nat.le_of_ble_eq_true rfl, Nat.le_of_ble_eq_true rfl⟩ rfl d_Pe_sharedByTwo_63 (c_St_isAlive hV hst hq63) ?_
        refine g_if_eq (pc := 66) hC (tgt := 83) (by decide) d_Pe_sharedByTwo_66 h (fun h => ?_) (fun h => ?_)
        · refine s_iinc (pc := 83) hC (i := 6) (x := x6) (v := x6 + 1) rfl (by rw [kc_1]) (by decide) d_Pe_sharedByTwo_83 (lv2 := [some (.ref (V.2.2.1 8 0)), some (.ref (V.2.2.1 tx 0)), some (.ref (V.2.2.1 st 0)), some (.int x3), some (.int x4), some (.int x5), some (.int (x6 + 1))]) rfl ?_
          refine g_goto (pc := 86) hC (tgt := 38) (by decide) d_Pe_sharedByTwo_86 ?_
          exact hk38 x3 x4 x5 (x6 + 1) h
        · refine g_iload (pc := 69) hC (i := 5) (x := x5) rfl d_Pe_sharedByTwo_69 ?_
          refine g_aload_n (pc := 71) hC (i := 2) (x := (V.2.2.1 st 0)) rfl rfl d_Pe_sharedByTwo_71 ?_
          refine g_getA (pc := 72) hC fo_Pe_60 (ob_St hV hst) rfl d_Pe_sharedByTwo_72 ?_
          refine g_iload (pc := 75) hC (i := 6) (x := x6) rfl d_Pe_sharedByTwo_75 ?_
          refine g_iald (pc := 77) hC (ar_St_7 hV hst) d_Pe_sharedByTwo_77 h (fun h => ?_)
          refine g_iconst (pc := 78) hC kc_m1 d_Pe_sharedByTwo_78 ?_
          refine g_ixor (pc := 79) hC d_Pe_sharedByTwo_79 ?_
          refine g_iand (pc := 80) hC d_Pe_sharedByTwo_80 ?_
          refine g_leti h (fun y81 h => ?_)
          refine s_istore (pc := 81) hC (i := 5) (by decide) d_Pe_sharedByTwo_81 (lv2 := [some (.ref (V.2.2.1 8 0)), some (.ref (V.2.2.1 tx 0)), some (.ref (V.2.2.1 st 0)), some (.int x3), some (.int x4), some (.int y81), some (.int x6)]) rfl ?_
          refine s_iinc (pc := 83) hC (i := 6) (x := x6) (v := x6 + 1) rfl (by rw [kc_1]) (by decide) d_Pe_sharedByTwo_83 (lv2 := [some (.ref (V.2.2.1 8 0)), some (.ref (V.2.2.1 tx 0)), some (.ref (V.2.2.1 st 0)), some (.int x3), some (.int x4), some (.int y81), some (.int (x6 + 1))]) rfl ?_
          refine g_goto (pc := 86) hC (tgt := 38) (by decide) d_Pe_sharedByTwo_86 ?_
          exact hk38 x3 x4 y81 (x6 + 1) h
theorem w_Pe_sharedByTwo_l38 {X : CX} {V : WV} {tx : Nat} {st : Nat} (hV : IsC V) (htx : isTx tx) (hst : isSt st) {S : Mem} {z : Int32} (hC : Ck X V bc_Pe_sharedByTwo 7 "SecretWells$People" (some .int) 1 21) : ∀ (n : Nat) (x3 : Int32) (x4 : Int32) (x5 : Int32) (x6 : Int32), f_Pe_sharedByTwo_l38 tx st S n x3 x4 x5 x6 = some z → G X V 7 (QI X V z S) 38 [some (.ref (V.2.2.1 8 0)), some (.ref (V.2.2.1 tx 0)), some (.ref (V.2.2.1 st 0)), some (.int x3), some (.int x4), some (.int x5), some (.int x6)] [] S := by
  intro n
  induction n with
  | zero =>
    intro x3 x4 x5 x6 h
    have h : (none : Option (Int32)) = some z := h
    cases h
  | succ n ih =>
    intro x3 x4 x5 x6 h
    exact w_Pe_sharedByTwo_b38 hV htx hst hC (f_Pe_sharedByTwo_l38 tx st S n) ih x3 x4 x5 x6 h
set_option maxRecDepth 20000 in
theorem w_Pe_sharedByTwo_b0 {X : CX} {V : WV} {tx : Nat} {st : Nat} (hV : IsC V) (htx : isTx tx) (hst : isSt st) {S : Mem} {z : Int32} (hC : Ck X V bc_Pe_sharedByTwo 7 "SecretWells$People" (some .int) 1 21) (x3 : Int32) (x4 : Int32) (h : f_Pe_sharedByTwo_b0 tx st S x3 x4 = some z) : G X V 7 (QI X V z S) 0 [some (.ref (V.2.2.1 8 0)), some (.ref (V.2.2.1 tx 0)), some (.ref (V.2.2.1 st 0)), some (.int x3), some (.int x4), none, none] [] S := by
  unfold f_Pe_sharedByTwo_b0 at h
  refine g_aload_n (pc := 0) hC (i := 2) (x := (V.2.2.1 st 0)) rfl rfl d_Pe_sharedByTwo_0 ?_
  refine g_iload_n (pc := 1) hC (i := 3) (x := x3) rfl rfl d_Pe_sharedByTwo_1 ?_
  obtain ⟨q2, hq2, h⟩ := Option.bind_eq_some_iff.mp h
  refine g_vi (pc := 2) hC (As := [.int x3]) (st := []) mt_St_isAlive lk_Pe_27 rfl (ob_St hV hst) (Nat.le_of_ble_eq_true rfl) ⟨Nat.le_of_ble_eq_true rfl, Nat.le_of_ble_eq_true rfl⟩ rfl d_Pe_sharedByTwo_2 (c_St_isAlive hV hst hq2) ?_
  refine g_if_eq (pc := 5) hC (tgt := 17) (by decide) d_Pe_sharedByTwo_5 h (fun h => ?_) (fun h => ?_)
  · refine g_iconst (pc := 17) hC kc_0 d_Pe_sharedByTwo_17 ?_
    exact g_iN (pc := 18) hC rfl d_Pe_sharedByTwo_18 h
  · refine g_aload_n (pc := 8) hC (i := 2) (x := (V.2.2.1 st 0)) rfl rfl d_Pe_sharedByTwo_8 ?_
    refine g_iload (pc := 9) hC (i := 4) (x := x4) rfl d_Pe_sharedByTwo_9 ?_
    obtain ⟨q11, hq11, h⟩ := Option.bind_eq_some_iff.mp h
    refine g_vi (pc := 11) hC (As := [.int x4]) (st := []) mt_St_isAlive lk_Pe_27 rfl (ob_St hV hst) (Nat.le_of_ble_eq_true rfl) ⟨Nat.le_of_ble_eq_true rfl, Nat.le_of_ble_eq_true rfl⟩ rfl d_Pe_sharedByTwo_11 (c_St_isAlive hV hst hq11) ?_
    refine g_if_ne (pc := 14) hC (tgt := 19) (by decide) d_Pe_sharedByTwo_14 h (fun h => ?_) (fun h => ?_)
    · refine g_aload_n (pc := 19) hC (i := 2) (x := (V.2.2.1 st 0)) rfl rfl d_Pe_sharedByTwo_19 ?_
      refine g_getA (pc := 20) hC fo_Pe_60 (ob_St hV hst) rfl d_Pe_sharedByTwo_20 ?_
      refine g_iload_n (pc := 23) hC (i := 3) (x := x3) rfl rfl d_Pe_sharedByTwo_23 ?_
      refine g_iald (pc := 24) hC (ar_St_7 hV hst) d_Pe_sharedByTwo_24 h (fun h => ?_)
      refine g_aload_n (pc := 25) hC (i := 2) (x := (V.2.2.1 st 0)) rfl rfl d_Pe_sharedByTwo_25 ?_
      refine g_getA (pc := 26) hC fo_Pe_60 (ob_St hV hst) rfl d_Pe_sharedByTwo_26 ?_
      refine g_iload (pc := 29) hC (i := 4) (x := x4) rfl d_Pe_sharedByTwo_29 ?_
      refine g_iald (pc := 31) hC (ar_St_7 hV hst) d_Pe_sharedByTwo_31 h (fun h => ?_)
      refine g_iand (pc := 32) hC d_Pe_sharedByTwo_32 ?_
      refine g_leti h (fun y33 h => ?_)
      refine s_istore (pc := 33) hC (i := 5) (by decide) d_Pe_sharedByTwo_33 (lv2 := [some (.ref (V.2.2.1 8 0)), some (.ref (V.2.2.1 tx 0)), some (.ref (V.2.2.1 st 0)), some (.int x3), some (.int x4), some (.int y33), none]) rfl ?_
      refine g_iconst (pc := 35) hC kc_0 d_Pe_sharedByTwo_35 ?_
      refine s_istore (pc := 36) hC (i := 6) (by decide) d_Pe_sharedByTwo_36 (lv2 := [some (.ref (V.2.2.1 8 0)), some (.ref (V.2.2.1 tx 0)), some (.ref (V.2.2.1 st 0)), some (.int x3), some (.int x4), some (.int y33), some (.int 0)]) rfl ?_
      exact w_Pe_sharedByTwo_l38 hV htx hst hC 5000 x3 x4 y33 0 h
    · refine g_iconst (pc := 17) hC kc_0 d_Pe_sharedByTwo_17 ?_
      exact g_iN (pc := 18) hC rfl d_Pe_sharedByTwo_18 h
theorem c_Pe_sharedByTwo {V : WV} {l : Launch} (hV : IsC V) {tx : Nat} {st : Nat} (htx : isTx tx) (hst : isSt st) {x3 : Int32} {x4 : Int32} {S : Mem} {z : Int32} (h : f_Pe_sharedByTwo tx st x3 x4 S = some z) : CI V l y_Pe_sharedByTwo bc_Pe_sharedByTwo 7 (some .int) 1 21 [.ref (V.2.2.1 8 0), .ref (V.2.2.1 tx 0), .ref (V.2.2.1 st 0), .int x3, .int x4] S z S :=
  ct_i rfl (IsC.ok hV) (Nat.le_of_ble_eq_true rfl) (fun _ _ hC => w_Pe_sharedByTwo_b0 hV htx hst hC x3 x4 h)
def f_St_isKnownTo_b0 (st : Nat) (S : Mem) (x1 : Int32) (x2 : Int32) : Option (Int32) :=
  gIn x1 7 (
  if (((S.2.1 st 7 x1.toNatClampNeg) >>> (x2 &&& 31)) &&& 1) = 0 then
    some 0
  else
    some 1)
def f_St_isKnownTo (st : Nat) (x1 : Int32) (x2 : Int32) (S : Mem) : Option (Int32) := f_St_isKnownTo_b0 st S x1 x2
theorem d_St_isKnownTo_0 : decode bc_St_isKnownTo 0 = .ok (.aload_n 0, 1) := by decide +kernel
theorem d_St_isKnownTo_1 : decode bc_St_isKnownTo 1 = .ok (.getfield 34, 3) := by decide +kernel
theorem d_St_isKnownTo_4 : decode bc_St_isKnownTo 4 = .ok (.iload_n 1, 1) := by decide +kernel
theorem d_St_isKnownTo_5 : decode bc_St_isKnownTo 5 = .ok (.iaload, 1) := by decide +kernel
theorem d_St_isKnownTo_6 : decode bc_St_isKnownTo 6 = .ok (.iload_n 2, 1) := by decide +kernel
theorem d_St_isKnownTo_7 : decode bc_St_isKnownTo 7 = .ok (.ishr, 1) := by decide +kernel
theorem d_St_isKnownTo_8 : decode bc_St_isKnownTo 8 = .ok (.iconst 1, 1) := by decide +kernel
theorem d_St_isKnownTo_9 : decode bc_St_isKnownTo 9 = .ok (.iand, 1) := by decide +kernel
theorem d_St_isKnownTo_10 : decode bc_St_isKnownTo 10 = .ok (.ifCond .eq 7, 3) := by decide +kernel
theorem d_St_isKnownTo_13 : decode bc_St_isKnownTo 13 = .ok (.iconst 1, 1) := by decide +kernel
theorem d_St_isKnownTo_14 : decode bc_St_isKnownTo 14 = .ok (.goto 4, 3) := by decide +kernel
theorem d_St_isKnownTo_17 : decode bc_St_isKnownTo 17 = .ok (.iconst 0, 1) := by decide +kernel
theorem d_St_isKnownTo_18 : decode bc_St_isKnownTo 18 = .ok (.ireturn, 1) := by decide +kernel
set_option maxRecDepth 20000 in
theorem w_St_isKnownTo_b0 {X : CX} {V : WV} {st : Nat} (hV : IsC V) (hst : isSt st) {S : Mem} {z : Int32} (hC : Ck X V bc_St_isKnownTo 3 "SecretWells$State" (some .boolean) 0 0) (x1 : Int32) (x2 : Int32) (h : f_St_isKnownTo_b0 st S x1 x2 = some z) : G X V 3 (QI X V z S) 0 [some (.ref (V.2.2.1 st 0)), some (.int x1), some (.int x2)] [] S := by
  unfold f_St_isKnownTo_b0 at h
  refine g_aload_n (pc := 0) hC (i := 0) (x := (V.2.2.1 st 0)) rfl rfl d_St_isKnownTo_0 ?_
  refine g_getA (pc := 1) hC fo_St_34 (ob_St hV hst) rfl d_St_isKnownTo_1 ?_
  refine g_iload_n (pc := 4) hC (i := 1) (x := x1) rfl rfl d_St_isKnownTo_4 ?_
  refine g_iald (pc := 5) hC (ar_St_7 hV hst) d_St_isKnownTo_5 h (fun h => ?_)
  refine g_iload_n (pc := 6) hC (i := 2) (x := x2) rfl rfl d_St_isKnownTo_6 ?_
  refine g_ishr (pc := 7) hC d_St_isKnownTo_7 ?_
  refine g_iconst (pc := 8) hC kc_1 d_St_isKnownTo_8 ?_
  refine g_iand (pc := 9) hC d_St_isKnownTo_9 ?_
  refine g_if_eq (pc := 10) hC (tgt := 17) (by decide) d_St_isKnownTo_10 h (fun h => ?_) (fun h => ?_)
  · refine g_iconst (pc := 17) hC kc_0 d_St_isKnownTo_17 ?_
    exact g_iN (pc := 18) hC rfl d_St_isKnownTo_18 h
  · refine g_iconst (pc := 13) hC kc_1 d_St_isKnownTo_13 ?_
    refine g_goto (pc := 14) hC (tgt := 18) (by decide) d_St_isKnownTo_14 ?_
    exact g_iN (pc := 18) hC rfl d_St_isKnownTo_18 h
theorem c_St_isKnownTo {V : WV} {l : Launch} (hV : IsC V) {st : Nat} (hst : isSt st) {x1 : Int32} {x2 : Int32} {S : Mem} {z : Int32} (h : f_St_isKnownTo st x1 x2 S = some z) : CI V l y_St_isKnownTo bc_St_isKnownTo 3 (some .boolean) 0 0 [.ref (V.2.2.1 st 0), .int x1, .int x2] S z S :=
  ct_i rfl (IsC.ok hV) (Nat.le_of_ble_eq_true rfl) (fun _ _ hC => w_St_isKnownTo_b0 hV hst hC x1 x2 h)
def f_Pe_heaviest_b51 (tx : Nat) (st : Nat) (S : Mem) (k5 : Int32 → Int32 → Int32 → Option (Int32)) (x2 : Int32) (x3 : Int32) (x4 : Int32) (s0 : Int32) : Option (Int32) :=
  if s0 = 0 then
    k5 x2 x3 (x4 + 1)
  else
    if x3 = (-1) then
      k5 x2 x4 (x4 + 1)
    else
      gIn x4 8 (
      gIn x3 8 (
      if (S.2.1 tx 13 x4.toNatClampNeg) ≤ (S.2.1 tx 13 x3.toNatClampNeg) then
        k5 x2 x3 (x4 + 1)
      else
        k5 x2 x4 (x4 + 1)))
def f_Pe_heaviest_b5 (tx : Nat) (st : Nat) (S : Mem) (k5 : Int32 → Int32 → Int32 → Option (Int32)) (x2 : Int32) (x3 : Int32) (x4 : Int32) : Option (Int32) :=
  if (S.1 tx 2) ≤ x4 then
    some x3
  else
    Option.bind (f_St_isKnownTo st x2 x4 S) (fun q18 =>
    if q18 = 0 then
      f_Pe_heaviest_b51 tx st S k5 x2 x3 x4 0
    else
      gIn x4 8 (
      if (S.2.1 st 8 x4.toNatClampNeg) = (-2) then
        gIn x4 8 (
        if (S.2.1 st 12 x4.toNatClampNeg) ≤ 0 then
          f_Pe_heaviest_b51 tx st S k5 x2 x3 x4 0
        else
          f_Pe_heaviest_b51 tx st S k5 x2 x3 x4 1)
      else
        f_Pe_heaviest_b51 tx st S k5 x2 x3 x4 0))
def f_Pe_heaviest_l5 (tx : Nat) (st : Nat) (S : Mem) : Nat → Int32 → Int32 → Int32 → Option (Int32)
  | 0 => fun _ _ _ => none
  | n + 1 => f_Pe_heaviest_b5 tx st S (f_Pe_heaviest_l5 tx st S n)
def f_Pe_heaviest_b0 (tx : Nat) (st : Nat) (S : Mem) (x2 : Int32) : Option (Int32) :=
  f_Pe_heaviest_l5 tx st S 5000 x2 (-1) 0
def f_Pe_heaviest (tx : Nat) (st : Nat) (x2 : Int32) (S : Mem) : Option (Int32) := f_Pe_heaviest_b0 tx st S x2
theorem d_Pe_heaviest_0 : decode bc_Pe_heaviest 0 = .ok (.iconst (-1), 1) := by decide +kernel
theorem d_Pe_heaviest_1 : decode bc_Pe_heaviest 1 = .ok (.istore_n 3, 1) := by decide +kernel
theorem d_Pe_heaviest_2 : decode bc_Pe_heaviest 2 = .ok (.iconst 0, 1) := by decide +kernel
theorem d_Pe_heaviest_3 : decode bc_Pe_heaviest 3 = .ok (.istore 4, 2) := by decide +kernel
theorem d_Pe_heaviest_5 : decode bc_Pe_heaviest 5 = .ok (.iload 4, 2) := by decide +kernel
theorem d_Pe_heaviest_7 : decode bc_Pe_heaviest 7 = .ok (.aload_n 0, 1) := by decide +kernel
theorem d_Pe_heaviest_8 : decode bc_Pe_heaviest 8 = .ok (.getfield 78, 3) := by decide +kernel
theorem d_Pe_heaviest_11 : decode bc_Pe_heaviest 11 = .ok (.if_icmp .ge 77, 3) := by decide +kernel
theorem d_Pe_heaviest_14 : decode bc_Pe_heaviest 14 = .ok (.aload_n 1, 1) := by decide +kernel
theorem d_Pe_heaviest_15 : decode bc_Pe_heaviest 15 = .ok (.iload_n 2, 1) := by decide +kernel
theorem d_Pe_heaviest_16 : decode bc_Pe_heaviest 16 = .ok (.iload 4, 2) := by decide +kernel
theorem d_Pe_heaviest_18 : decode bc_Pe_heaviest 18 = .ok (.invokevirtual 81, 3) := by decide +kernel
theorem d_Pe_heaviest_21 : decode bc_Pe_heaviest 21 = .ok (.ifCond .eq 29, 3) := by decide +kernel
theorem d_Pe_heaviest_24 : decode bc_Pe_heaviest 24 = .ok (.aload_n 1, 1) := by decide +kernel
theorem d_Pe_heaviest_25 : decode bc_Pe_heaviest 25 = .ok (.getfield 85, 3) := by decide +kernel
theorem d_Pe_heaviest_28 : decode bc_Pe_heaviest 28 = .ok (.iload 4, 2) := by decide +kernel
theorem d_Pe_heaviest_30 : decode bc_Pe_heaviest 30 = .ok (.iaload, 1) := by decide +kernel
theorem d_Pe_heaviest_31 : decode bc_Pe_heaviest 31 = .ok (.bipush (-2), 2) := by decide +kernel
theorem d_Pe_heaviest_33 : decode bc_Pe_heaviest 33 = .ok (.if_icmp .ne 17, 3) := by decide +kernel
theorem d_Pe_heaviest_36 : decode bc_Pe_heaviest 36 = .ok (.aload_n 1, 1) := by decide +kernel
theorem d_Pe_heaviest_37 : decode bc_Pe_heaviest 37 = .ok (.getfield 88, 3) := by decide +kernel
theorem d_Pe_heaviest_40 : decode bc_Pe_heaviest 40 = .ok (.iload 4, 2) := by decide +kernel
theorem d_Pe_heaviest_42 : decode bc_Pe_heaviest 42 = .ok (.iaload, 1) := by decide +kernel
theorem d_Pe_heaviest_43 : decode bc_Pe_heaviest 43 = .ok (.ifCond .le 7, 3) := by decide +kernel
theorem d_Pe_heaviest_46 : decode bc_Pe_heaviest 46 = .ok (.iconst 1, 1) := by decide +kernel
theorem d_Pe_heaviest_47 : decode bc_Pe_heaviest 47 = .ok (.goto 4, 3) := by decide +kernel
theorem d_Pe_heaviest_50 : decode bc_Pe_heaviest 50 = .ok (.iconst 0, 1) := by decide +kernel
theorem d_Pe_heaviest_51 : decode bc_Pe_heaviest 51 = .ok (.istore 5, 2) := by decide +kernel
theorem d_Pe_heaviest_53 : decode bc_Pe_heaviest 53 = .ok (.iload 5, 2) := by decide +kernel
theorem d_Pe_heaviest_55 : decode bc_Pe_heaviest 55 = .ok (.ifCond .eq 27, 3) := by decide +kernel
theorem d_Pe_heaviest_58 : decode bc_Pe_heaviest 58 = .ok (.iload_n 3, 1) := by decide +kernel
theorem d_Pe_heaviest_59 : decode bc_Pe_heaviest 59 = .ok (.iconst (-1), 1) := by decide +kernel
theorem d_Pe_heaviest_60 : decode bc_Pe_heaviest 60 = .ok (.if_icmp .eq 19, 3) := by decide +kernel
theorem d_Pe_heaviest_63 : decode bc_Pe_heaviest 63 = .ok (.aload_n 0, 1) := by decide +kernel
theorem d_Pe_heaviest_64 : decode bc_Pe_heaviest 64 = .ok (.getfield 91, 3) := by decide +kernel
theorem d_Pe_heaviest_67 : decode bc_Pe_heaviest 67 = .ok (.iload 4, 2) := by decide +kernel
theorem d_Pe_heaviest_69 : decode bc_Pe_heaviest 69 = .ok (.iaload, 1) := by decide +kernel
theorem d_Pe_heaviest_70 : decode bc_Pe_heaviest 70 = .ok (.aload_n 0, 1) := by decide +kernel
theorem d_Pe_heaviest_71 : decode bc_Pe_heaviest 71 = .ok (.getfield 91, 3) := by decide +kernel
theorem d_Pe_heaviest_74 : decode bc_Pe_heaviest 74 = .ok (.iload_n 3, 1) := by decide +kernel
theorem d_Pe_heaviest_75 : decode bc_Pe_heaviest 75 = .ok (.iaload, 1) := by decide +kernel
theorem d_Pe_heaviest_76 : decode bc_Pe_heaviest 76 = .ok (.if_icmp .le 6, 3) := by decide +kernel
theorem d_Pe_heaviest_79 : decode bc_Pe_heaviest 79 = .ok (.iload 4, 2) := by decide +kernel
theorem d_Pe_heaviest_81 : decode bc_Pe_heaviest 81 = .ok (.istore_n 3, 1) := by decide +kernel
theorem d_Pe_heaviest_82 : decode bc_Pe_heaviest 82 = .ok (.iinc 4 1, 3) := by decide +kernel
theorem d_Pe_heaviest_85 : decode bc_Pe_heaviest 85 = .ok (.goto (-80), 3) := by decide +kernel
theorem d_Pe_heaviest_88 : decode bc_Pe_heaviest 88 = .ok (.iload_n 3, 1) := by decide +kernel
theorem d_Pe_heaviest_89 : decode bc_Pe_heaviest 89 = .ok (.ireturn, 1) := by decide +kernel
set_option maxRecDepth 20000 in
theorem w_Pe_heaviest_b51 {X : CX} {V : WV} {tx : Nat} {st : Nat} (hV : IsC V) (htx : isTx tx) (hst : isSt st) {S : Mem} {z : Int32} (hC : Ck X V bc_Pe_heaviest 6 "SecretWells$People" (some .int) 1 22) (k5 : Int32 → Int32 → Int32 → Option (Int32)) (hk5 : ∀ (x2 : Int32) (x3 : Int32) (x4 : Int32), k5 x2 x3 x4 = some z → G X V 6 (QI X V z S) 5 [some (.ref (V.2.2.1 tx 0)), some (.ref (V.2.2.1 st 0)), some (.int x2), some (.int x3), some (.int x4), none] [] S) (x2 : Int32) (x3 : Int32) (x4 : Int32) (s0 : Int32) (h : f_Pe_heaviest_b51 tx st S k5 x2 x3 x4 s0 = some z) : G X V 6 (QI X V z S) 51 [some (.ref (V.2.2.1 tx 0)), some (.ref (V.2.2.1 st 0)), some (.int x2), some (.int x3), some (.int x4), none] [.int s0] S := by
  unfold f_Pe_heaviest_b51 at h
  refine s_istore (pc := 51) hC (i := 5) (by decide) d_Pe_heaviest_51 (lv2 := [some (.ref (V.2.2.1 tx 0)), some (.ref (V.2.2.1 st 0)), some (.int x2), some (.int x3), some (.int x4), some (.int s0)]) rfl ?_
  refine g_iload (pc := 53) hC (i := 5) (x := s0) rfl d_Pe_heaviest_53 ?_
  refine g_if_eq (pc := 55) hC (tgt := 82) (by decide) d_Pe_heaviest_55 h (fun h => ?_) (fun h => ?_)
  · refine s_iinc (pc := 82) hC (i := 4) (x := x4) (v := x4 + 1) rfl (by rw [kc_1]) (by decide) d_Pe_heaviest_82 (lv2 := [some (.ref (V.2.2.1 tx 0)), some (.ref (V.2.2.1 st 0)), some (.int x2), some (.int x3), some (.int (x4 + 1)), some (.int s0)]) rfl ?_
    refine g_goto (pc := 85) hC (tgt := 5) (by decide) d_Pe_heaviest_85 ?_
    refine g_le (lv2 := [some (.ref (V.2.2.1 tx 0)), some (.ref (V.2.2.1 st 0)), some (.int x2), some (.int x3), some (.int (x4 + 1)), none]) (⟨rfl, ⟨rfl, ⟨rfl, ⟨rfl, ⟨rfl, trivial⟩⟩⟩⟩⟩) ?_
    exact hk5 x2 x3 (x4 + 1) h
  · refine g_iload_n (pc := 58) hC (i := 3) (x := x3) rfl rfl d_Pe_heaviest_58 ?_
    refine g_iconst (pc := 59) hC kc_m1 d_Pe_heaviest_59 ?_
    refine g_icmp_eq (pc := 60) hC (tgt := 79) (by decide) d_Pe_heaviest_60 h (fun h => ?_) (fun h => ?_)
    · refine g_iload (pc := 79) hC (i := 4) (x := x4) rfl d_Pe_heaviest_79 ?_
      refine s_istore_n (pc := 81) hC (i := 3) rfl (by decide) d_Pe_heaviest_81 (lv2 := [some (.ref (V.2.2.1 tx 0)), some (.ref (V.2.2.1 st 0)), some (.int x2), some (.int x4), some (.int x4), some (.int s0)]) rfl ?_
      refine s_iinc (pc := 82) hC (i := 4) (x := x4) (v := x4 + 1) rfl (by rw [kc_1]) (by decide) d_Pe_heaviest_82 (lv2 := [some (.ref (V.2.2.1 tx 0)), some (.ref (V.2.2.1 st 0)), some (.int x2), some (.int x4), some (.int (x4 + 1)), some (.int s0)]) rfl ?_
      refine g_goto (pc := 85) hC (tgt := 5) (by decide) d_Pe_heaviest_85 ?_
      refine g_le (lv2 := [some (.ref (V.2.2.1 tx 0)), some (.ref (V.2.2.1 st 0)), some (.int x2), some (.int x4), some (.int (x4 + 1)), none]) (⟨rfl, ⟨rfl, ⟨rfl, ⟨rfl, ⟨rfl, trivial⟩⟩⟩⟩⟩) ?_
      exact hk5 x2 x4 (x4 + 1) h
    · refine g_aload_n (pc := 63) hC (i := 0) (x := (V.2.2.1 tx 0)) rfl rfl d_Pe_heaviest_63 ?_
      refine g_getA (pc := 64) hC fo_Pe_91 (ob_Tx hV htx) rfl d_Pe_heaviest_64 ?_
      refine g_iload (pc := 67) hC (i := 4) (x := x4) rfl d_Pe_heaviest_67 ?_
      refine g_iald (pc := 69) hC (ar_Tx_13 hV htx) d_Pe_heaviest_69 h (fun h => ?_)
      refine g_aload_n (pc := 70) hC (i := 0) (x := (V.2.2.1 tx 0)) rfl rfl d_Pe_heaviest_70 ?_
      refine g_getA (pc := 71) hC fo_Pe_91 (ob_Tx hV htx) rfl d_Pe_heaviest_71 ?_
      refine g_iload_n (pc := 74) hC (i := 3) (x := x3) rfl rfl d_Pe_heaviest_74 ?_
      refine g_iald (pc := 75) hC (ar_Tx_13 hV htx) d_Pe_heaviest_75 h (fun h => ?_)
      refine g_icmp_le (pc := 76) hC (tgt := 82) (by decide) d_Pe_heaviest_76 h (fun h => ?_) (fun h => ?_)
      · refine s_iinc (pc := 82) hC (i := 4) (x := x4) (v := x4 + 1) rfl (by rw [kc_1]) (by decide) d_Pe_heaviest_82 (lv2 := [some (.ref (V.2.2.1 tx 0)), some (.ref (V.2.2.1 st 0)), some (.int x2), some (.int x3), some (.int (x4 + 1)), some (.int s0)]) rfl ?_
        refine g_goto (pc := 85) hC (tgt := 5) (by decide) d_Pe_heaviest_85 ?_
        refine g_le (lv2 := [some (.ref (V.2.2.1 tx 0)), some (.ref (V.2.2.1 st 0)), some (.int x2), some (.int x3), some (.int (x4 + 1)), none]) (⟨rfl, ⟨rfl, ⟨rfl, ⟨rfl, ⟨rfl, trivial⟩⟩⟩⟩⟩) ?_
        exact hk5 x2 x3 (x4 + 1) h
      · refine g_iload (pc := 79) hC (i := 4) (x := x4) rfl d_Pe_heaviest_79 ?_
        refine s_istore_n (pc := 81) hC (i := 3) rfl (by decide) d_Pe_heaviest_81 (lv2 := [some (.ref (V.2.2.1 tx 0)), some (.ref (V.2.2.1 st 0)), some (.int x2), some (.int x4), some (.int x4), some (.int s0)]) rfl ?_
        refine s_iinc (pc := 82) hC (i := 4) (x := x4) (v := x4 + 1) rfl (by rw [kc_1]) (by decide) d_Pe_heaviest_82 (lv2 := [some (.ref (V.2.2.1 tx 0)), some (.ref (V.2.2.1 st 0)), some (.int x2), some (.int x4), some (.int (x4 + 1)), some (.int s0)]) rfl ?_
        refine g_goto (pc := 85) hC (tgt := 5) (by decide) d_Pe_heaviest_85 ?_
        refine g_le (lv2 := [some (.ref (V.2.2.1 tx 0)), some (.ref (V.2.2.1 st 0)), some (.int x2), some (.int x4), some (.int (x4 + 1)), none]) (⟨rfl, ⟨rfl, ⟨rfl, ⟨rfl, ⟨rfl, trivial⟩⟩⟩⟩⟩) ?_
        exact hk5 x2 x4 (x4 + 1) h
set_option maxRecDepth 20000 in
theorem w_Pe_heaviest_b5 {X : CX} {V : WV} {tx : Nat} {st : Nat} (hV : IsC V) (htx : isTx tx) (hst : isSt st) {S : Mem} {z : Int32} (hC : Ck X V bc_Pe_heaviest 6 "SecretWells$People" (some .int) 1 22) (k5 : Int32 → Int32 → Int32 → Option (Int32)) (hk5 : ∀ (x2 : Int32) (x3 : Int32) (x4 : Int32), k5 x2 x3 x4 = some z → G X V 6 (QI X V z S) 5 [some (.ref (V.2.2.1 tx 0)), some (.ref (V.2.2.1 st 0)), some (.int x2), some (.int x3), some (.int x4), none] [] S) (x2 : Int32) (x3 : Int32) (x4 : Int32) (h : f_Pe_heaviest_b5 tx st S k5 x2 x3 x4 = some z) : G X V 6 (QI X V z S) 5 [some (.ref (V.2.2.1 tx 0)), some (.ref (V.2.2.1 st 0)), some (.int x2), some (.int x3), some (.int x4), none] [] S := by
  unfold f_Pe_heaviest_b5 at h
  refine g_iload (pc := 5) hC (i := 4) (x := x4) rfl d_Pe_heaviest_5 ?_
  refine g_aload_n (pc := 7) hC (i := 0) (x := (V.2.2.1 tx 0)) rfl rfl d_Pe_heaviest_7 ?_
  refine g_getI (pc := 8) hC fo_Pe_78 (ob_Tx hV htx) rfl d_Pe_heaviest_8 ?_
  refine g_icmp_ge (pc := 11) hC (tgt := 88) (by decide) d_Pe_heaviest_11 h (fun h => ?_) (fun h => ?_)
  · refine g_iload_n (pc := 88) hC (i := 3) (x := x3) rfl rfl d_Pe_heaviest_88 ?_
    exact g_iN (pc := 89) hC rfl d_Pe_heaviest_89 h
  · refine g_aload_n (pc := 14) hC (i := 1) (x := (V.2.2.1 st 0)) rfl rfl d_Pe_heaviest_14 ?_
    refine g_iload_n (pc := 15) hC (i := 2) (x := x2) rfl rfl d_Pe_heaviest_15 ?_
    refine g_iload (pc := 16) hC (i := 4) (x := x4) rfl d_Pe_heaviest_16 ?_
    obtain ⟨q18, hq18, h⟩ := Option.bind_eq_some_iff.mp h
    refine g_vi (pc := 18) hC (As := [.int x2, .int x4]) (st := []) mt_St_isKnownTo lk_Pe_81 rfl (ob_St hV hst) (Nat.le_of_ble_eq_true rfl) ⟨Nat.le_of_ble_eq_true rfl, Nat.le_of_ble_eq_true rfl⟩ rfl d_Pe_heaviest_18 (c_St_isKnownTo hV hst hq18) ?_
    refine g_if_eq (pc := 21) hC (tgt := 50) (by decide) d_Pe_heaviest_21 h (fun h => ?_) (fun h => ?_)
    · refine g_iconst (pc := 50) hC kc_0 d_Pe_heaviest_50 ?_
      exact w_Pe_heaviest_b51 hV htx hst hC k5 hk5 x2 x3 x4 0 h
    · refine g_aload_n (pc := 24) hC (i := 1) (x := (V.2.2.1 st 0)) rfl rfl d_Pe_heaviest_24 ?_
      refine g_getA (pc := 25) hC fo_Pe_85 (ob_St hV hst) rfl d_Pe_heaviest_25 ?_
      refine g_iload (pc := 28) hC (i := 4) (x := x4) rfl d_Pe_heaviest_28 ?_
      refine g_iald (pc := 30) hC (ar_St_8 hV hst) d_Pe_heaviest_30 h (fun h => ?_)
      refine g_bipush (pc := 31) hC kb_m2 d_Pe_heaviest_31 ?_
      refine g_icmp_ne (pc := 33) hC (tgt := 50) (by decide) d_Pe_heaviest_33 h (fun h => ?_) (fun h => ?_)
      · refine g_iconst (pc := 50) hC kc_0 d_Pe_heaviest_50 ?_
        exact w_Pe_heaviest_b51 hV htx hst hC k5 hk5 x2 x3 x4 0 h
      · refine g_aload_n (pc := 36) hC (i := 1) (x := (V.2.2.1 st 0)) rfl rfl d_Pe_heaviest_36 ?_
        refine g_getA (pc := 37) hC fo_Pe_88 (ob_St hV hst) rfl d_Pe_heaviest_37 ?_
        refine g_iload (pc := 40) hC (i := 4) (x := x4) rfl d_Pe_heaviest_40 ?_
        refine g_iald (pc := 42) hC (ar_St_12 hV hst) d_Pe_heaviest_42 h (fun h => ?_)
        refine g_if_le (pc := 43) hC (tgt := 50) (by decide) d_Pe_heaviest_43 h (fun h => ?_) (fun h => ?_)
        · refine g_iconst (pc := 50) hC kc_0 d_Pe_heaviest_50 ?_
          exact w_Pe_heaviest_b51 hV htx hst hC k5 hk5 x2 x3 x4 0 h
        · refine g_iconst (pc := 46) hC kc_1 d_Pe_heaviest_46 ?_
          refine g_goto (pc := 47) hC (tgt := 51) (by decide) d_Pe_heaviest_47 ?_
          exact w_Pe_heaviest_b51 hV htx hst hC k5 hk5 x2 x3 x4 1 h
theorem w_Pe_heaviest_l5 {X : CX} {V : WV} {tx : Nat} {st : Nat} (hV : IsC V) (htx : isTx tx) (hst : isSt st) {S : Mem} {z : Int32} (hC : Ck X V bc_Pe_heaviest 6 "SecretWells$People" (some .int) 1 22) : ∀ (n : Nat) (x2 : Int32) (x3 : Int32) (x4 : Int32), f_Pe_heaviest_l5 tx st S n x2 x3 x4 = some z → G X V 6 (QI X V z S) 5 [some (.ref (V.2.2.1 tx 0)), some (.ref (V.2.2.1 st 0)), some (.int x2), some (.int x3), some (.int x4), none] [] S := by
  intro n
  induction n with
  | zero =>
    intro x2 x3 x4 h
    have h : (none : Option (Int32)) = some z := h
    cases h
  | succ n ih =>
    intro x2 x3 x4 h
    exact w_Pe_heaviest_b5 hV htx hst hC (f_Pe_heaviest_l5 tx st S n) ih x2 x3 x4 h
set_option maxRecDepth 20000 in
theorem w_Pe_heaviest_b0 {X : CX} {V : WV} {tx : Nat} {st : Nat} (hV : IsC V) (htx : isTx tx) (hst : isSt st) {S : Mem} {z : Int32} (hC : Ck X V bc_Pe_heaviest 6 "SecretWells$People" (some .int) 1 22) (x2 : Int32) (h : f_Pe_heaviest_b0 tx st S x2 = some z) : G X V 6 (QI X V z S) 0 [some (.ref (V.2.2.1 tx 0)), some (.ref (V.2.2.1 st 0)), some (.int x2), none, none, none] [] S := by
  unfold f_Pe_heaviest_b0 at h
  refine g_iconst (pc := 0) hC kc_m1 d_Pe_heaviest_0 ?_
  refine s_istore_n (pc := 1) hC (i := 3) rfl (by decide) d_Pe_heaviest_1 (lv2 := [some (.ref (V.2.2.1 tx 0)), some (.ref (V.2.2.1 st 0)), some (.int x2), some (.int (-1)), none, none]) rfl ?_
  refine g_iconst (pc := 2) hC kc_0 d_Pe_heaviest_2 ?_
  refine s_istore (pc := 3) hC (i := 4) (by decide) d_Pe_heaviest_3 (lv2 := [some (.ref (V.2.2.1 tx 0)), some (.ref (V.2.2.1 st 0)), some (.int x2), some (.int (-1)), some (.int 0), none]) rfl ?_
  exact w_Pe_heaviest_l5 hV htx hst hC 5000 x2 (-1) 0 h
theorem c_Pe_heaviest {V : WV} {l : Launch} (hV : IsC V) {tx : Nat} {st : Nat} (htx : isTx tx) (hst : isSt st) {x2 : Int32} {S : Mem} {z : Int32} (h : f_Pe_heaviest tx st x2 S = some z) : CI V l y_Pe_heaviest bc_Pe_heaviest 6 (some .int) 1 22 [.ref (V.2.2.1 tx 0), .ref (V.2.2.1 st 0), .int x2] S z S :=
  ct_i rfl (IsC.ok hV) (Nat.le_of_ble_eq_true rfl) (fun _ _ hC => w_Pe_heaviest_b0 hV htx hst hC x2 h)
def f_Pe_gatherPlayers_b38 (tx : Nat) (st : Nat) (k7 : Int32 → Mem → Option (Mem)) (x3 : Int32) (s0 : Int32) (s1 : Int32) (S : Mem) : Option (Mem) :=
  gIn s1 7 (letS (sA S 8 0 s1 s0) (fun S38 =>
  gIn x3 7 (
  if (S38.2.1 8 0 x3.toNatClampNeg) = (-1) then
    k7 (x3 + 1) S38
  else
    letS (pI S38 8 1 ((S38.1 8 1) ||| ((1 : Int32) <<< (x3 &&& 31)))) (fun S58 =>
    k7 (x3 + 1) S58))))
def f_Pe_gatherPlayers_b7 (tx : Nat) (st : Nat) (k7 : Int32 → Mem → Option (Mem)) (x3 : Int32) (S : Mem) : Option (Mem) :=
  if (S.1 tx 1) ≤ x3 then
    some S
  else
    Option.bind (f_St_isAlive st x3 S) (fun q22 =>
    if q22 = 0 then
      f_Pe_gatherPlayers_b38 tx st k7 x3 (-1) x3 S
    else
      Option.bind (f_Pe_heaviest tx st x3 S) (fun q31 =>
      f_Pe_gatherPlayers_b38 tx st k7 x3 q31 x3 S))
def f_Pe_gatherPlayers_l7 (tx : Nat) (st : Nat) : Nat → Int32 → Mem → Option (Mem)
  | 0 => fun _ _ => none
  | n + 1 => f_Pe_gatherPlayers_b7 tx st (f_Pe_gatherPlayers_l7 tx st n)
def f_Pe_gatherPlayers_b0 (tx : Nat) (st : Nat) (S : Mem) : Option (Mem) :=
  letS (pI S 8 1 0) (fun S2 =>
  f_Pe_gatherPlayers_l7 tx st 5000 0 S2)
def f_Pe_gatherPlayers (tx : Nat) (st : Nat) (S : Mem) : Option (Mem) := f_Pe_gatherPlayers_b0 tx st S
theorem d_Pe_gatherPlayers_0 : decode bc_Pe_gatherPlayers 0 = .ok (.aload_n 0, 1) := by decide +kernel
theorem d_Pe_gatherPlayers_1 : decode bc_Pe_gatherPlayers 1 = .ok (.iconst 0, 1) := by decide +kernel
theorem d_Pe_gatherPlayers_2 : decode bc_Pe_gatherPlayers 2 = .ok (.putfield 15, 3) := by decide +kernel
theorem d_Pe_gatherPlayers_5 : decode bc_Pe_gatherPlayers 5 = .ok (.iconst 0, 1) := by decide +kernel
theorem d_Pe_gatherPlayers_6 : decode bc_Pe_gatherPlayers 6 = .ok (.istore_n 3, 1) := by decide +kernel
theorem d_Pe_gatherPlayers_7 : decode bc_Pe_gatherPlayers 7 = .ok (.iload_n 3, 1) := by decide +kernel
theorem d_Pe_gatherPlayers_8 : decode bc_Pe_gatherPlayers 8 = .ok (.aload_n 1, 1) := by decide +kernel
theorem d_Pe_gatherPlayers_9 : decode bc_Pe_gatherPlayers 9 = .ok (.getfield 63, 3) := by decide +kernel
theorem d_Pe_gatherPlayers_12 : decode bc_Pe_gatherPlayers 12 = .ok (.if_icmp .ge 55, 3) := by decide +kernel
theorem d_Pe_gatherPlayers_15 : decode bc_Pe_gatherPlayers 15 = .ok (.aload_n 0, 1) := by decide +kernel
theorem d_Pe_gatherPlayers_16 : decode bc_Pe_gatherPlayers 16 = .ok (.getfield 9, 3) := by decide +kernel
theorem d_Pe_gatherPlayers_19 : decode bc_Pe_gatherPlayers 19 = .ok (.iload_n 3, 1) := by decide +kernel
theorem d_Pe_gatherPlayers_20 : decode bc_Pe_gatherPlayers 20 = .ok (.aload_n 2, 1) := by decide +kernel
theorem d_Pe_gatherPlayers_21 : decode bc_Pe_gatherPlayers 21 = .ok (.iload_n 3, 1) := by decide +kernel
theorem d_Pe_gatherPlayers_22 : decode bc_Pe_gatherPlayers 22 = .ok (.invokevirtual 27, 3) := by decide +kernel
theorem d_Pe_gatherPlayers_25 : decode bc_Pe_gatherPlayers 25 = .ok (.ifCond .eq 12, 3) := by decide +kernel
theorem d_Pe_gatherPlayers_28 : decode bc_Pe_gatherPlayers 28 = .ok (.aload_n 1, 1) := by decide +kernel
theorem d_Pe_gatherPlayers_29 : decode bc_Pe_gatherPlayers 29 = .ok (.aload_n 2, 1) := by decide +kernel
theorem d_Pe_gatherPlayers_30 : decode bc_Pe_gatherPlayers 30 = .ok (.iload_n 3, 1) := by decide +kernel
theorem d_Pe_gatherPlayers_31 : decode bc_Pe_gatherPlayers 31 = .ok (.invokestatic 74, 3) := by decide +kernel
theorem d_Pe_gatherPlayers_34 : decode bc_Pe_gatherPlayers 34 = .ok (.goto 4, 3) := by decide +kernel
theorem d_Pe_gatherPlayers_37 : decode bc_Pe_gatherPlayers 37 = .ok (.iconst (-1), 1) := by decide +kernel
theorem d_Pe_gatherPlayers_38 : decode bc_Pe_gatherPlayers 38 = .ok (.iastore, 1) := by decide +kernel
theorem d_Pe_gatherPlayers_39 : decode bc_Pe_gatherPlayers 39 = .ok (.aload_n 0, 1) := by decide +kernel
theorem d_Pe_gatherPlayers_40 : decode bc_Pe_gatherPlayers 40 = .ok (.getfield 9, 3) := by decide +kernel
theorem d_Pe_gatherPlayers_43 : decode bc_Pe_gatherPlayers 43 = .ok (.iload_n 3, 1) := by decide +kernel
theorem d_Pe_gatherPlayers_44 : decode bc_Pe_gatherPlayers 44 = .ok (.iaload, 1) := by decide +kernel
theorem d_Pe_gatherPlayers_45 : decode bc_Pe_gatherPlayers 45 = .ok (.iconst (-1), 1) := by decide +kernel
theorem d_Pe_gatherPlayers_46 : decode bc_Pe_gatherPlayers 46 = .ok (.if_icmp .eq 15, 3) := by decide +kernel
theorem d_Pe_gatherPlayers_49 : decode bc_Pe_gatherPlayers 49 = .ok (.aload_n 0, 1) := by decide +kernel
theorem d_Pe_gatherPlayers_50 : decode bc_Pe_gatherPlayers 50 = .ok (.dup, 1) := by decide +kernel
theorem d_Pe_gatherPlayers_51 : decode bc_Pe_gatherPlayers 51 = .ok (.getfield 15, 3) := by decide +kernel
theorem d_Pe_gatherPlayers_54 : decode bc_Pe_gatherPlayers 54 = .ok (.iconst 1, 1) := by decide +kernel
theorem d_Pe_gatherPlayers_55 : decode bc_Pe_gatherPlayers 55 = .ok (.iload_n 3, 1) := by decide +kernel
theorem d_Pe_gatherPlayers_56 : decode bc_Pe_gatherPlayers 56 = .ok (.ishl, 1) := by decide +kernel
theorem d_Pe_gatherPlayers_57 : decode bc_Pe_gatherPlayers 57 = .ok (.ior, 1) := by decide +kernel
theorem d_Pe_gatherPlayers_58 : decode bc_Pe_gatherPlayers 58 = .ok (.putfield 15, 3) := by decide +kernel
theorem d_Pe_gatherPlayers_61 : decode bc_Pe_gatherPlayers 61 = .ok (.iinc 3 1, 3) := by decide +kernel
theorem d_Pe_gatherPlayers_64 : decode bc_Pe_gatherPlayers 64 = .ok (.goto (-57), 3) := by decide +kernel
theorem d_Pe_gatherPlayers_67 : decode bc_Pe_gatherPlayers 67 = .ok (.return_, 1) := by decide +kernel
set_option maxRecDepth 20000 in
theorem w_Pe_gatherPlayers_b38 {X : CX} {V : WV} {tx : Nat} {st : Nat} (hV : IsC V) (htx : isTx tx) (hst : isSt st) {z : Mem} (hC : Ck X V bc_Pe_gatherPlayers 4 "SecretWells$People" none 2 47) (k7 : Int32 → Mem → Option (Mem)) (hk7 : ∀ (x3 : Int32) (S : Mem), k7 x3 S = some z → G X V 4 (QV X V z) 7 [some (.ref (V.2.2.1 8 0)), some (.ref (V.2.2.1 tx 0)), some (.ref (V.2.2.1 st 0)), some (.int x3)] [] S) (x3 : Int32) (s0 : Int32) (s1 : Int32) (S : Mem) (h : f_Pe_gatherPlayers_b38 tx st k7 x3 s0 s1 S = some z) : G X V 4 (QV X V z) 38 [some (.ref (V.2.2.1 8 0)), some (.ref (V.2.2.1 tx 0)), some (.ref (V.2.2.1 st 0)), some (.int x3)] [.int s0, .int s1, .ref (V.2.2.1 8 (0 + 1))] S := by
  unfold f_Pe_gatherPlayers_b38 at h
  refine g_iast (pc := 38) hC (ar_Pe_0 hV) d_Pe_gatherPlayers_38 h (fun h => ?_)
  refine g_letS h (fun S38 h => ?_)
  refine g_aload_n (pc := 39) hC (i := 0) (x := (V.2.2.1 8 0)) rfl rfl d_Pe_gatherPlayers_39 ?_
  refine g_getA (pc := 40) hC fo_Pe_9 (ob_Pe hV) rfl d_Pe_gatherPlayers_40 ?_
  refine g_iload_n (pc := 43) hC (i := 3) (x := x3) rfl rfl d_Pe_gatherPlayers_43 ?_
  refine g_iald (pc := 44) hC (ar_Pe_0 hV) d_Pe_gatherPlayers_44 h (fun h => ?_)
  refine g_iconst (pc := 45) hC kc_m1 d_Pe_gatherPlayers_45 ?_
  refine g_icmp_eq (pc := 46) hC (tgt := 61) (by decide) d_Pe_gatherPlayers_46 h (fun h => ?_) (fun h => ?_)
  · refine s_iinc (pc := 61) hC (i := 3) (x := x3) (v := x3 + 1) rfl (by rw [kc_1]) (by decide) d_Pe_gatherPlayers_61 (lv2 := [some (.ref (V.2.2.1 8 0)), some (.ref (V.2.2.1 tx 0)), some (.ref (V.2.2.1 st 0)), some (.int (x3 + 1))]) rfl ?_
    refine g_goto (pc := 64) hC (tgt := 7) (by decide) d_Pe_gatherPlayers_64 ?_
    exact hk7 (x3 + 1) S38 h
  · refine g_aload_n (pc := 49) hC (i := 0) (x := (V.2.2.1 8 0)) rfl rfl d_Pe_gatherPlayers_49 ?_
    refine g_dup (pc := 50) hC rfl d_Pe_gatherPlayers_50 ?_
    refine g_getI (pc := 51) hC fo_Pe_15 (ob_Pe hV) rfl d_Pe_gatherPlayers_51 ?_
    refine g_iconst (pc := 54) hC kc_1 d_Pe_gatherPlayers_54 ?_
    refine g_iload_n (pc := 55) hC (i := 3) (x := x3) rfl rfl d_Pe_gatherPlayers_55 ?_
    refine g_ishl (pc := 56) hC d_Pe_gatherPlayers_56 ?_
    refine g_ior (pc := 57) hC d_Pe_gatherPlayers_57 ?_
    refine g_putI (pc := 58) hC po_Pe_15 (ob_Pe hV) rfl rfl rfl d_Pe_gatherPlayers_58 ?_
    refine g_letS h (fun S58 h => ?_)
    refine s_iinc (pc := 61) hC (i := 3) (x := x3) (v := x3 + 1) rfl (by rw [kc_1]) (by decide) d_Pe_gatherPlayers_61 (lv2 := [some (.ref (V.2.2.1 8 0)), some (.ref (V.2.2.1 tx 0)), some (.ref (V.2.2.1 st 0)), some (.int (x3 + 1))]) rfl ?_
    refine g_goto (pc := 64) hC (tgt := 7) (by decide) d_Pe_gatherPlayers_64 ?_
    exact hk7 (x3 + 1) S58 h
set_option maxRecDepth 20000 in
theorem w_Pe_gatherPlayers_b7 {X : CX} {V : WV} {tx : Nat} {st : Nat} (hV : IsC V) (htx : isTx tx) (hst : isSt st) {z : Mem} (hC : Ck X V bc_Pe_gatherPlayers 4 "SecretWells$People" none 2 47) (k7 : Int32 → Mem → Option (Mem)) (hk7 : ∀ (x3 : Int32) (S : Mem), k7 x3 S = some z → G X V 4 (QV X V z) 7 [some (.ref (V.2.2.1 8 0)), some (.ref (V.2.2.1 tx 0)), some (.ref (V.2.2.1 st 0)), some (.int x3)] [] S) (x3 : Int32) (S : Mem) (h : f_Pe_gatherPlayers_b7 tx st k7 x3 S = some z) : G X V 4 (QV X V z) 7 [some (.ref (V.2.2.1 8 0)), some (.ref (V.2.2.1 tx 0)), some (.ref (V.2.2.1 st 0)), some (.int x3)] [] S := by
  unfold f_Pe_gatherPlayers_b7 at h
  refine g_iload_n (pc := 7) hC (i := 3) (x := x3) rfl rfl d_Pe_gatherPlayers_7 ?_
  refine g_aload_n (pc := 8) hC (i := 1) (x := (V.2.2.1 tx 0)) rfl rfl d_Pe_gatherPlayers_8 ?_
  refine g_getI (pc := 9) hC fo_Pe_63 (ob_Tx hV htx) rfl d_Pe_gatherPlayers_9 ?_
  refine g_icmp_ge (pc := 12) hC (tgt := 67) (by decide) d_Pe_gatherPlayers_12 h (fun h => ?_) (fun h => ?_)
  · exact g_vW (pc := 67) hC d_Pe_gatherPlayers_67 h
  · refine g_aload_n (pc := 15) hC (i := 0) (x := (V.2.2.1 8 0)) rfl rfl d_Pe_gatherPlayers_15 ?_
    refine g_getA (pc := 16) hC fo_Pe_9 (ob_Pe hV) rfl d_Pe_gatherPlayers_16 ?_
    refine g_iload_n (pc := 19) hC (i := 3) (x := x3) rfl rfl d_Pe_gatherPlayers_19 ?_
    refine g_aload_n (pc := 20) hC (i := 2) (x := (V.2.2.1 st 0)) rfl rfl d_Pe_gatherPlayers_20 ?_
    refine g_iload_n (pc := 21) hC (i := 3) (x := x3) rfl rfl d_Pe_gatherPlayers_21 ?_
    obtain ⟨q22, hq22, h⟩ := Option.bind_eq_some_iff.mp h
    refine g_vi (pc := 22) hC (As := [.int x3]) (st := [.int x3, .ref (V.2.2.1 8 (0 + 1))]) mt_St_isAlive lk_Pe_27 rfl (ob_St hV hst) (Nat.le_of_ble_eq_true rfl) ⟨Nat.le_of_ble_eq_true rfl, Nat.le_of_ble_eq_true rfl⟩ rfl d_Pe_gatherPlayers_22 (c_St_isAlive hV hst hq22) ?_
    refine g_if_eq (pc := 25) hC (tgt := 37) (by decide) d_Pe_gatherPlayers_25 h (fun h => ?_) (fun h => ?_)
    · refine g_iconst (pc := 37) hC kc_m1 d_Pe_gatherPlayers_37 ?_
      exact w_Pe_gatherPlayers_b38 hV htx hst hC k7 hk7 x3 (-1) x3 S h
    · refine g_aload_n (pc := 28) hC (i := 1) (x := (V.2.2.1 tx 0)) rfl rfl d_Pe_gatherPlayers_28 ?_
      refine g_aload_n (pc := 29) hC (i := 2) (x := (V.2.2.1 st 0)) rfl rfl d_Pe_gatherPlayers_29 ?_
      refine g_iload_n (pc := 30) hC (i := 3) (x := x3) rfl rfl d_Pe_gatherPlayers_30 ?_
      obtain ⟨q31, hq31, h⟩ := Option.bind_eq_some_iff.mp h
      refine g_si (pc := 31) hC (As := [.ref (V.2.2.1 tx 0), .ref (V.2.2.1 st 0), .int x3]) (st := [.int x3, .ref (V.2.2.1 8 (0 + 1))]) mt_Pe_heaviest lk_Pe_74 (Nat.le_of_ble_eq_true rfl) ⟨Nat.le_of_ble_eq_true rfl, Nat.le_of_ble_eq_true rfl⟩ rfl d_Pe_gatherPlayers_31 (c_Pe_heaviest hV htx hst hq31) ?_
      refine g_goto (pc := 34) hC (tgt := 38) (by decide) d_Pe_gatherPlayers_34 ?_
      exact w_Pe_gatherPlayers_b38 hV htx hst hC k7 hk7 x3 q31 x3 S h
theorem w_Pe_gatherPlayers_l7 {X : CX} {V : WV} {tx : Nat} {st : Nat} (hV : IsC V) (htx : isTx tx) (hst : isSt st) {z : Mem} (hC : Ck X V bc_Pe_gatherPlayers 4 "SecretWells$People" none 2 47) : ∀ (n : Nat) (x3 : Int32) (S : Mem), f_Pe_gatherPlayers_l7 tx st n x3 S = some z → G X V 4 (QV X V z) 7 [some (.ref (V.2.2.1 8 0)), some (.ref (V.2.2.1 tx 0)), some (.ref (V.2.2.1 st 0)), some (.int x3)] [] S := by
  intro n
  induction n with
  | zero =>
    intro x3 S h
    have h : (none : Option (Mem)) = some z := h
    cases h
  | succ n ih =>
    intro x3 S h
    exact w_Pe_gatherPlayers_b7 hV htx hst hC (f_Pe_gatherPlayers_l7 tx st n) ih x3 S h
set_option maxRecDepth 20000 in
theorem w_Pe_gatherPlayers_b0 {X : CX} {V : WV} {tx : Nat} {st : Nat} (hV : IsC V) (htx : isTx tx) (hst : isSt st) {z : Mem} (hC : Ck X V bc_Pe_gatherPlayers 4 "SecretWells$People" none 2 47) (S : Mem) (h : f_Pe_gatherPlayers_b0 tx st S = some z) : G X V 4 (QV X V z) 0 [some (.ref (V.2.2.1 8 0)), some (.ref (V.2.2.1 tx 0)), some (.ref (V.2.2.1 st 0)), none] [] S := by
  unfold f_Pe_gatherPlayers_b0 at h
  refine g_aload_n (pc := 0) hC (i := 0) (x := (V.2.2.1 8 0)) rfl rfl d_Pe_gatherPlayers_0 ?_
  refine g_iconst (pc := 1) hC kc_0 d_Pe_gatherPlayers_1 ?_
  refine g_putI (pc := 2) hC po_Pe_15 (ob_Pe hV) rfl rfl rfl d_Pe_gatherPlayers_2 ?_
  refine g_letS h (fun S2 h => ?_)
  refine g_iconst (pc := 5) hC kc_0 d_Pe_gatherPlayers_5 ?_
  refine s_istore_n (pc := 6) hC (i := 3) rfl (by decide) d_Pe_gatherPlayers_6 (lv2 := [some (.ref (V.2.2.1 8 0)), some (.ref (V.2.2.1 tx 0)), some (.ref (V.2.2.1 st 0)), some (.int 0)]) rfl ?_
  exact w_Pe_gatherPlayers_l7 hV htx hst hC 5000 0 S2 h
theorem c_Pe_gatherPlayers {V : WV} {l : Launch} (hV : IsC V) {tx : Nat} {st : Nat} (htx : isTx tx) (hst : isSt st) {S : Mem} {z : Mem} (h : f_Pe_gatherPlayers tx st S = some z) : CV V l y_Pe_gatherPlayers bc_Pe_gatherPlayers 4 none 2 47 [.ref (V.2.2.1 8 0), .ref (V.2.2.1 tx 0), .ref (V.2.2.1 st 0)] S z :=
  ct_v rfl (IsC.ok hV) (Nat.le_of_ble_eq_true rfl) (fun _ _ hC => w_Pe_gatherPlayers_b0 hV htx hst hC S h)
def f_Pe_deepBy_b14 (tx : Nat) (st : Nat) (S : Mem) (k14 : Int32 → Int32 → Int32 → Int32 → Option (Int32)) (x4 : Int32) (x5 : Int32) (x6 : Int32) (x7 : Int32) : Option (Int32) :=
  if (S.1 tx 1) ≤ x7 then
    some x5
  else
    gIn x7 7 (
    letS (S.2.1 8 0 x7.toNatClampNeg) (fun y30 =>
    if ((x4 >>> (x7 &&& 31)) &&& 1) = 0 then
      k14 x4 x5 x6 (x7 + 1)
    else
      if y30 = (-1) then
        k14 x4 x5 x6 (x7 + 1)
      else
        if ((x6 >>> (y30 &&& 31)) &&& 1) = 0 then
          letS (x6 ||| ((1 : Int32) <<< (y30 &&& 31))) (fun y65 =>
          gIn y30 8 (
          letS (x5 + (S.2.1 st 12 y30.toNatClampNeg)) (fun y77 =>
          k14 x4 y77 y65 (x7 + 1))))
        else
          k14 x4 x5 x6 (x7 + 1)))
def f_Pe_deepBy_l14 (tx : Nat) (st : Nat) (S : Mem) : Nat → Int32 → Int32 → Int32 → Int32 → Option (Int32)
  | 0 => fun _ _ _ _ => none
  | n + 1 => f_Pe_deepBy_b14 tx st S (f_Pe_deepBy_l14 tx st S n)
def f_Pe_deepBy_b0 (tx : Nat) (st : Nat) (S : Mem) (x3 : Int32) (x4 : Int32) : Option (Int32) :=
  gIn x3 4 (
  letS (S.2.1 st 9 x3.toNatClampNeg) (fun y6 =>
  f_Pe_deepBy_l14 tx st S 5000 x4 y6 0 0))
def f_Pe_deepBy (tx : Nat) (st : Nat) (x3 : Int32) (x4 : Int32) (S : Mem) : Option (Int32) := f_Pe_deepBy_b0 tx st S x3 x4
theorem d_Pe_deepBy_0 : decode bc_Pe_deepBy 0 = .ok (.aload_n 2, 1) := by decide +kernel
theorem d_Pe_deepBy_1 : decode bc_Pe_deepBy 1 = .ok (.getfield 108, 3) := by decide +kernel
theorem d_Pe_deepBy_4 : decode bc_Pe_deepBy 4 = .ok (.iload_n 3, 1) := by decide +kernel
theorem d_Pe_deepBy_5 : decode bc_Pe_deepBy 5 = .ok (.iaload, 1) := by decide +kernel
theorem d_Pe_deepBy_6 : decode bc_Pe_deepBy 6 = .ok (.istore 5, 2) := by decide +kernel
theorem d_Pe_deepBy_8 : decode bc_Pe_deepBy 8 = .ok (.iconst 0, 1) := by decide +kernel
theorem d_Pe_deepBy_9 : decode bc_Pe_deepBy 9 = .ok (.istore 6, 2) := by decide +kernel
theorem d_Pe_deepBy_11 : decode bc_Pe_deepBy 11 = .ok (.iconst 0, 1) := by decide +kernel
theorem d_Pe_deepBy_12 : decode bc_Pe_deepBy 12 = .ok (.istore 7, 2) := by decide +kernel
theorem d_Pe_deepBy_14 : decode bc_Pe_deepBy 14 = .ok (.iload 7, 2) := by decide +kernel
theorem d_Pe_deepBy_16 : decode bc_Pe_deepBy 16 = .ok (.aload_n 1, 1) := by decide +kernel
theorem d_Pe_deepBy_17 : decode bc_Pe_deepBy 17 = .ok (.getfield 63, 3) := by decide +kernel
theorem d_Pe_deepBy_20 : decode bc_Pe_deepBy 20 = .ok (.if_icmp .ge 65, 3) := by decide +kernel
theorem d_Pe_deepBy_23 : decode bc_Pe_deepBy 23 = .ok (.aload_n 0, 1) := by decide +kernel
theorem d_Pe_deepBy_24 : decode bc_Pe_deepBy 24 = .ok (.getfield 9, 3) := by decide +kernel
theorem d_Pe_deepBy_27 : decode bc_Pe_deepBy 27 = .ok (.iload 7, 2) := by decide +kernel
theorem d_Pe_deepBy_29 : decode bc_Pe_deepBy 29 = .ok (.iaload, 1) := by decide +kernel
theorem d_Pe_deepBy_30 : decode bc_Pe_deepBy 30 = .ok (.istore 8, 2) := by decide +kernel
theorem d_Pe_deepBy_32 : decode bc_Pe_deepBy 32 = .ok (.iload 4, 2) := by decide +kernel
theorem d_Pe_deepBy_34 : decode bc_Pe_deepBy 34 = .ok (.iload 7, 2) := by decide +kernel
theorem d_Pe_deepBy_36 : decode bc_Pe_deepBy 36 = .ok (.ishr, 1) := by decide +kernel
theorem d_Pe_deepBy_37 : decode bc_Pe_deepBy 37 = .ok (.iconst 1, 1) := by decide +kernel
theorem d_Pe_deepBy_38 : decode bc_Pe_deepBy 38 = .ok (.iand, 1) := by decide +kernel
theorem d_Pe_deepBy_39 : decode bc_Pe_deepBy 39 = .ok (.ifCond .eq 40, 3) := by decide +kernel
theorem d_Pe_deepBy_42 : decode bc_Pe_deepBy 42 = .ok (.iload 8, 2) := by decide +kernel
theorem d_Pe_deepBy_44 : decode bc_Pe_deepBy 44 = .ok (.iconst (-1), 1) := by decide +kernel
theorem d_Pe_deepBy_45 : decode bc_Pe_deepBy 45 = .ok (.if_icmp .eq 34, 3) := by decide +kernel
theorem d_Pe_deepBy_48 : decode bc_Pe_deepBy 48 = .ok (.iload 6, 2) := by decide +kernel
theorem d_Pe_deepBy_50 : decode bc_Pe_deepBy 50 = .ok (.iload 8, 2) := by decide +kernel
theorem d_Pe_deepBy_52 : decode bc_Pe_deepBy 52 = .ok (.ishr, 1) := by decide +kernel
theorem d_Pe_deepBy_53 : decode bc_Pe_deepBy 53 = .ok (.iconst 1, 1) := by decide +kernel
theorem d_Pe_deepBy_54 : decode bc_Pe_deepBy 54 = .ok (.iand, 1) := by decide +kernel
theorem d_Pe_deepBy_55 : decode bc_Pe_deepBy 55 = .ok (.ifCond .ne 24, 3) := by decide +kernel
theorem d_Pe_deepBy_58 : decode bc_Pe_deepBy 58 = .ok (.iload 6, 2) := by decide +kernel
theorem d_Pe_deepBy_60 : decode bc_Pe_deepBy 60 = .ok (.iconst 1, 1) := by decide +kernel
theorem d_Pe_deepBy_61 : decode bc_Pe_deepBy 61 = .ok (.iload 8, 2) := by decide +kernel
theorem d_Pe_deepBy_63 : decode bc_Pe_deepBy 63 = .ok (.ishl, 1) := by decide +kernel
theorem d_Pe_deepBy_64 : decode bc_Pe_deepBy 64 = .ok (.ior, 1) := by decide +kernel
theorem d_Pe_deepBy_65 : decode bc_Pe_deepBy 65 = .ok (.istore 6, 2) := by decide +kernel
theorem d_Pe_deepBy_67 : decode bc_Pe_deepBy 67 = .ok (.iload 5, 2) := by decide +kernel
theorem d_Pe_deepBy_69 : decode bc_Pe_deepBy 69 = .ok (.aload_n 2, 1) := by decide +kernel
theorem d_Pe_deepBy_70 : decode bc_Pe_deepBy 70 = .ok (.getfield 88, 3) := by decide +kernel
theorem d_Pe_deepBy_73 : decode bc_Pe_deepBy 73 = .ok (.iload 8, 2) := by decide +kernel
theorem d_Pe_deepBy_75 : decode bc_Pe_deepBy 75 = .ok (.iaload, 1) := by decide +kernel
theorem d_Pe_deepBy_76 : decode bc_Pe_deepBy 76 = .ok (.iadd, 1) := by decide +kernel
theorem d_Pe_deepBy_77 : decode bc_Pe_deepBy 77 = .ok (.istore 5, 2) := by decide +kernel
theorem d_Pe_deepBy_79 : decode bc_Pe_deepBy 79 = .ok (.iinc 7 1, 3) := by decide +kernel
theorem d_Pe_deepBy_82 : decode bc_Pe_deepBy 82 = .ok (.goto (-68), 3) := by decide +kernel
theorem d_Pe_deepBy_85 : decode bc_Pe_deepBy 85 = .ok (.iload 5, 2) := by decide +kernel
theorem d_Pe_deepBy_87 : decode bc_Pe_deepBy 87 = .ok (.ireturn, 1) := by decide +kernel
set_option maxRecDepth 20000 in
theorem w_Pe_deepBy_b14 {X : CX} {V : WV} {tx : Nat} {st : Nat} (hV : IsC V) (htx : isTx tx) (hst : isSt st) {S : Mem} {z : Int32} (hC : Ck X V bc_Pe_deepBy 9 "SecretWells$People" (some .int) 0 0) (k14 : Int32 → Int32 → Int32 → Int32 → Option (Int32)) (hk14 : ∀ (x4 : Int32) (x5 : Int32) (x6 : Int32) (x7 : Int32), k14 x4 x5 x6 x7 = some z → G X V 9 (QI X V z S) 14 [some (.ref (V.2.2.1 8 0)), some (.ref (V.2.2.1 tx 0)), some (.ref (V.2.2.1 st 0)), none, some (.int x4), some (.int x5), some (.int x6), some (.int x7), none] [] S) (x4 : Int32) (x5 : Int32) (x6 : Int32) (x7 : Int32) (h : f_Pe_deepBy_b14 tx st S k14 x4 x5 x6 x7 = some z) : G X V 9 (QI X V z S) 14 [some (.ref (V.2.2.1 8 0)), some (.ref (V.2.2.1 tx 0)), some (.ref (V.2.2.1 st 0)), none, some (.int x4), some (.int x5), some (.int x6), some (.int x7), none] [] S := by
  unfold f_Pe_deepBy_b14 at h
  refine g_iload (pc := 14) hC (i := 7) (x := x7) rfl d_Pe_deepBy_14 ?_
  refine g_aload_n (pc := 16) hC (i := 1) (x := (V.2.2.1 tx 0)) rfl rfl d_Pe_deepBy_16 ?_
  refine g_getI (pc := 17) hC fo_Pe_63 (ob_Tx hV htx) rfl d_Pe_deepBy_17 ?_
  refine g_icmp_ge (pc := 20) hC (tgt := 85) (by decide) d_Pe_deepBy_20 h (fun h => ?_) (fun h => ?_)
  · refine g_iload (pc := 85) hC (i := 5) (x := x5) rfl d_Pe_deepBy_85 ?_
    exact g_iN (pc := 87) hC rfl d_Pe_deepBy_87 h
  · refine g_aload_n (pc := 23) hC (i := 0) (x := (V.2.2.1 8 0)) rfl rfl d_Pe_deepBy_23 ?_
    refine g_getA (pc := 24) hC fo_Pe_9 (ob_Pe hV) rfl d_Pe_deepBy_24 ?_
    refine g_iload (pc := 27) hC (i := 7) (x := x7) rfl d_Pe_deepBy_27 ?_
    refine g_iald (pc := 29) hC (ar_Pe_0 hV) d_Pe_deepBy_29 h (fun h => ?_)
    refine g_leti h (fun y30 h => ?_)
    refine s_istore (pc := 30) hC (i := 8) (by decide) d_Pe_deepBy_30 (lv2 := [some (.ref (V.2.2.1 8 0)), some (.ref (V.2.2.1 tx 0)), some (.ref (V.2.2.1 st 0)), none, some (.int x4), some (.int x5), some (.int x6), some (.int x7), some (.int y30)]) rfl ?_
    refine g_iload (pc := 32) hC (i := 4) (x := x4) rfl d_Pe_deepBy_32 ?_
    refine g_iload (pc := 34) hC (i := 7) (x := x7) rfl d_Pe_deepBy_34 ?_
    refine g_ishr (pc := 36) hC d_Pe_deepBy_36 ?_
    refine g_iconst (pc := 37) hC kc_1 d_Pe_deepBy_37 ?_
    refine g_iand (pc := 38) hC d_Pe_deepBy_38 ?_
    refine g_if_eq (pc := 39) hC (tgt := 79) (by decide) d_Pe_deepBy_39 h (fun h => ?_) (fun h => ?_)
    · refine s_iinc (pc := 79) hC (i := 7) (x := x7) (v := x7 + 1) rfl (by rw [kc_1]) (by decide) d_Pe_deepBy_79 (lv2 := [some (.ref (V.2.2.1 8 0)), some (.ref (V.2.2.1 tx 0)), some (.ref (V.2.2.1 st 0)), none, some (.int x4), some (.int x5), some (.int x6), some (.int (x7 + 1)), some (.int y30)]) rfl ?_
      refine g_goto (pc := 82) hC (tgt := 14) (by decide) d_Pe_deepBy_82 ?_
      refine g_le (lv2 := [some (.ref (V.2.2.1 8 0)), some (.ref (V.2.2.1 tx 0)), some (.ref (V.2.2.1 st 0)), none, some (.int x4), some (.int x5), some (.int x6), some (.int (x7 + 1)), none]) (⟨rfl, ⟨rfl, ⟨rfl, ⟨rfl, ⟨rfl, ⟨rfl, ⟨rfl, trivial⟩⟩⟩⟩⟩⟩⟩) ?_
      exact hk14 x4 x5 x6 (x7 + 1) h
    · refine g_iload (pc := 42) hC (i := 8) (x := y30) rfl d_Pe_deepBy_42 ?_
      refine g_iconst (pc := 44) hC kc_m1 d_Pe_deepBy_44 ?_
      refine g_icmp_eq (pc := 45) hC (tgt := 79) (by decide) d_Pe_deepBy_45 h (fun h => ?_) (fun h => ?_)
      · refine s_iinc (pc := 79) hC (i := 7) (x := x7) (v := x7 + 1) rfl (by rw [kc_1]) (by decide) d_Pe_deepBy_79 (lv2 := [some (.ref (V.2.2.1 8 0)), some (.ref (V.2.2.1 tx 0)), some (.ref (V.2.2.1 st 0)), none, some (.int x4), some (.int x5), some (.int x6), some (.int (x7 + 1)), some (.int y30)]) rfl ?_
        refine g_goto (pc := 82) hC (tgt := 14) (by decide) d_Pe_deepBy_82 ?_
        refine g_le (lv2 := [some (.ref (V.2.2.1 8 0)), some (.ref (V.2.2.1 tx 0)), some (.ref (V.2.2.1 st 0)), none, some (.int x4), some (.int x5), some (.int x6), some (.int (x7 + 1)), none]) (⟨rfl, ⟨rfl, ⟨rfl, ⟨rfl, ⟨rfl, ⟨rfl, ⟨rfl, trivial⟩⟩⟩⟩⟩⟩⟩) ?_
        exact hk14 x4 x5 x6 (x7 + 1) h
      · refine g_iload (pc := 48) hC (i := 6) (x := x6) rfl d_Pe_deepBy_48 ?_
        refine g_iload (pc := 50) hC (i := 8) (x := y30) rfl d_Pe_deepBy_50 ?_
        refine g_ishr (pc := 52) hC d_Pe_deepBy_52 ?_
        refine g_iconst (pc := 53) hC kc_1 d_Pe_deepBy_53 ?_
        refine g_iand (pc := 54) hC d_Pe_deepBy_54 ?_
        refine g_if_ne (pc := 55) hC (tgt := 79) (by decide) d_Pe_deepBy_55 h (fun h => ?_) (fun h => ?_)
        · refine s_iinc (pc := 79) hC (i := 7) (x := x7) (v := x7 + 1) rfl (by rw [kc_1]) (by decide) d_Pe_deepBy_79 (lv2 := [some (.ref (V.2.2.1 8 0)), some (.ref (V.2.2.1 tx 0)), some (.ref (V.2.2.1 st 0)), none, some (.int x4), some (.int x5), some (.int x6), some (.int (x7 + 1)), some (.int y30)]) rfl ?_
          refine g_goto (pc := 82) hC (tgt := 14) (by decide) d_Pe_deepBy_82 ?_
          refine g_le (lv2 := [some (.ref (V.2.2.1 8 0)), some (.ref (V.2.2.1 tx 0)), some (.ref (V.2.2.1 st 0)), none, some (.int x4), some (.int x5), some (.int x6), some (.int (x7 + 1)), none]) (⟨rfl, ⟨rfl, ⟨rfl, ⟨rfl, ⟨rfl, ⟨rfl, ⟨rfl, trivial⟩⟩⟩⟩⟩⟩⟩) ?_
          exact hk14 x4 x5 x6 (x7 + 1) h
        · refine g_iload (pc := 58) hC (i := 6) (x := x6) rfl d_Pe_deepBy_58 ?_
          refine g_iconst (pc := 60) hC kc_1 d_Pe_deepBy_60 ?_
          refine g_iload (pc := 61) hC (i := 8) (x := y30) rfl d_Pe_deepBy_61 ?_
          refine g_ishl (pc := 63) hC d_Pe_deepBy_63 ?_
          refine g_ior (pc := 64) hC d_Pe_deepBy_64 ?_
          refine g_leti h (fun y65 h => ?_)
          refine s_istore (pc := 65) hC (i := 6) (by decide) d_Pe_deepBy_65 (lv2 := [some (.ref (V.2.2.1 8 0)), some (.ref (V.2.2.1 tx 0)), some (.ref (V.2.2.1 st 0)), none, some (.int x4), some (.int x5), some (.int y65), some (.int x7), some (.int y30)]) rfl ?_
          refine g_iload (pc := 67) hC (i := 5) (x := x5) rfl d_Pe_deepBy_67 ?_
          refine g_aload_n (pc := 69) hC (i := 2) (x := (V.2.2.1 st 0)) rfl rfl d_Pe_deepBy_69 ?_
          refine g_getA (pc := 70) hC fo_Pe_88 (ob_St hV hst) rfl d_Pe_deepBy_70 ?_
          refine g_iload (pc := 73) hC (i := 8) (x := y30) rfl d_Pe_deepBy_73 ?_
          refine g_iald (pc := 75) hC (ar_St_12 hV hst) d_Pe_deepBy_75 h (fun h => ?_)
          refine g_iadd (pc := 76) hC d_Pe_deepBy_76 ?_
          refine g_leti h (fun y77 h => ?_)
          refine s_istore (pc := 77) hC (i := 5) (by decide) d_Pe_deepBy_77 (lv2 := [some (.ref (V.2.2.1 8 0)), some (.ref (V.2.2.1 tx 0)), some (.ref (V.2.2.1 st 0)), none, some (.int x4), some (.int y77), some (.int y65), some (.int x7), some (.int y30)]) rfl ?_
          refine s_iinc (pc := 79) hC (i := 7) (x := x7) (v := x7 + 1) rfl (by rw [kc_1]) (by decide) d_Pe_deepBy_79 (lv2 := [some (.ref (V.2.2.1 8 0)), some (.ref (V.2.2.1 tx 0)), some (.ref (V.2.2.1 st 0)), none, some (.int x4), some (.int y77), some (.int y65), some (.int (x7 + 1)), some (.int y30)]) rfl ?_
          refine g_goto (pc := 82) hC (tgt := 14) (by decide) d_Pe_deepBy_82 ?_
          refine g_le (lv2 := [some (.ref (V.2.2.1 8 0)), some (.ref (V.2.2.1 tx 0)), some (.ref (V.2.2.1 st 0)), none, some (.int x4), some (.int y77), some (.int y65), some (.int (x7 + 1)), none]) (⟨rfl, ⟨rfl, ⟨rfl, ⟨rfl, ⟨rfl, ⟨rfl, ⟨rfl, trivial⟩⟩⟩⟩⟩⟩⟩) ?_
          exact hk14 x4 y77 y65 (x7 + 1) h
theorem w_Pe_deepBy_l14 {X : CX} {V : WV} {tx : Nat} {st : Nat} (hV : IsC V) (htx : isTx tx) (hst : isSt st) {S : Mem} {z : Int32} (hC : Ck X V bc_Pe_deepBy 9 "SecretWells$People" (some .int) 0 0) : ∀ (n : Nat) (x4 : Int32) (x5 : Int32) (x6 : Int32) (x7 : Int32), f_Pe_deepBy_l14 tx st S n x4 x5 x6 x7 = some z → G X V 9 (QI X V z S) 14 [some (.ref (V.2.2.1 8 0)), some (.ref (V.2.2.1 tx 0)), some (.ref (V.2.2.1 st 0)), none, some (.int x4), some (.int x5), some (.int x6), some (.int x7), none] [] S := by
  intro n
  induction n with
  | zero =>
    intro x4 x5 x6 x7 h
    have h : (none : Option (Int32)) = some z := h
    cases h
  | succ n ih =>
    intro x4 x5 x6 x7 h
    exact w_Pe_deepBy_b14 hV htx hst hC (f_Pe_deepBy_l14 tx st S n) ih x4 x5 x6 x7 h
set_option maxRecDepth 20000 in
theorem w_Pe_deepBy_b0 {X : CX} {V : WV} {tx : Nat} {st : Nat} (hV : IsC V) (htx : isTx tx) (hst : isSt st) {S : Mem} {z : Int32} (hC : Ck X V bc_Pe_deepBy 9 "SecretWells$People" (some .int) 0 0) (x3 : Int32) (x4 : Int32) (h : f_Pe_deepBy_b0 tx st S x3 x4 = some z) : G X V 9 (QI X V z S) 0 [some (.ref (V.2.2.1 8 0)), some (.ref (V.2.2.1 tx 0)), some (.ref (V.2.2.1 st 0)), some (.int x3), some (.int x4), none, none, none, none] [] S := by
  unfold f_Pe_deepBy_b0 at h
  refine g_aload_n (pc := 0) hC (i := 2) (x := (V.2.2.1 st 0)) rfl rfl d_Pe_deepBy_0 ?_
  refine g_getA (pc := 1) hC fo_Pe_108 (ob_St hV hst) rfl d_Pe_deepBy_1 ?_
  refine g_iload_n (pc := 4) hC (i := 3) (x := x3) rfl rfl d_Pe_deepBy_4 ?_
  refine g_iald (pc := 5) hC (ar_St_9 hV hst) d_Pe_deepBy_5 h (fun h => ?_)
  refine g_leti h (fun y6 h => ?_)
  refine s_istore (pc := 6) hC (i := 5) (by decide) d_Pe_deepBy_6 (lv2 := [some (.ref (V.2.2.1 8 0)), some (.ref (V.2.2.1 tx 0)), some (.ref (V.2.2.1 st 0)), some (.int x3), some (.int x4), some (.int y6), none, none, none]) rfl ?_
  refine g_iconst (pc := 8) hC kc_0 d_Pe_deepBy_8 ?_
  refine s_istore (pc := 9) hC (i := 6) (by decide) d_Pe_deepBy_9 (lv2 := [some (.ref (V.2.2.1 8 0)), some (.ref (V.2.2.1 tx 0)), some (.ref (V.2.2.1 st 0)), some (.int x3), some (.int x4), some (.int y6), some (.int 0), none, none]) rfl ?_
  refine g_iconst (pc := 11) hC kc_0 d_Pe_deepBy_11 ?_
  refine s_istore (pc := 12) hC (i := 7) (by decide) d_Pe_deepBy_12 (lv2 := [some (.ref (V.2.2.1 8 0)), some (.ref (V.2.2.1 tx 0)), some (.ref (V.2.2.1 st 0)), some (.int x3), some (.int x4), some (.int y6), some (.int 0), some (.int 0), none]) rfl ?_
  refine g_le (lv2 := [some (.ref (V.2.2.1 8 0)), some (.ref (V.2.2.1 tx 0)), some (.ref (V.2.2.1 st 0)), none, some (.int x4), some (.int y6), some (.int 0), some (.int 0), none]) (⟨rfl, ⟨rfl, ⟨rfl, ⟨rfl, ⟨rfl, ⟨rfl, ⟨rfl, trivial⟩⟩⟩⟩⟩⟩⟩) ?_
  exact w_Pe_deepBy_l14 hV htx hst hC 5000 x4 y6 0 0 h
theorem c_Pe_deepBy {V : WV} {l : Launch} (hV : IsC V) {tx : Nat} {st : Nat} (htx : isTx tx) (hst : isSt st) {x3 : Int32} {x4 : Int32} {S : Mem} {z : Int32} (h : f_Pe_deepBy tx st x3 x4 S = some z) : CI V l y_Pe_deepBy bc_Pe_deepBy 9 (some .int) 0 0 [.ref (V.2.2.1 8 0), .ref (V.2.2.1 tx 0), .ref (V.2.2.1 st 0), .int x3, .int x4] S z S :=
  ct_i rfl (IsC.ok hV) (Nat.le_of_ble_eq_true rfl) (fun _ _ hC => w_Pe_deepBy_b0 hV htx hst hC x3 x4 h)
def f_Pe_gain_b44 (tx : Nat) (st : Nat) (S : Mem) (x4 : Int32) (x5 : Int32) (x6 : Int32) : Option (Int32) :=
  if ((x4 >>> (x5 &&& 31)) &&& 1) = 0 then
    some x6
  else
    Option.bind (f_JInt_bitCount ((S.1 8 1) &&& (x4 ^^^ (-1)))) (fun q66 =>
    letS (x6 - (5 * q66)) (fun y71 =>
    some y71))
def f_Pe_gain_b0 (tx : Nat) (st : Nat) (S : Mem) (x3 : Int32) (x4 : Int32) (x5 : Int32) : Option (Int32) :=
  gIn x3 4 (
  Option.bind (f_JInt_bitCount (S.2.1 st 11 x3.toNatClampNeg)) (fun q9 =>
  if q9 ≤ 0 then
    f_Pe_gain_b44 tx st S x4 x5 0
  else
    gIn x5 7 (
    if (S.2.1 st 5 x5.toNatClampNeg) = x3 then
      Option.bind (f_Pe_deepBy tx st x3 x4 S) (fun q36 =>
      gNz q9 (
      letS (q36 / q9) (fun y42 =>
      f_Pe_gain_b44 tx st S x4 x5 y42)))
    else
      f_Pe_gain_b44 tx st S x4 x5 0)))
def f_Pe_gain (tx : Nat) (st : Nat) (x3 : Int32) (x4 : Int32) (x5 : Int32) (S : Mem) : Option (Int32) := f_Pe_gain_b0 tx st S x3 x4 x5
theorem d_Pe_gain_0 : decode bc_Pe_gain 0 = .ok (.iconst 0, 1) := by decide +kernel
theorem d_Pe_gain_1 : decode bc_Pe_gain 1 = .ok (.istore 6, 2) := by decide +kernel
theorem d_Pe_gain_3 : decode bc_Pe_gain 3 = .ok (.aload_n 2, 1) := by decide +kernel
theorem d_Pe_gain_4 : decode bc_Pe_gain 4 = .ok (.getfield 98, 3) := by decide +kernel
theorem d_Pe_gain_7 : decode bc_Pe_gain 7 = .ok (.iload_n 3, 1) := by decide +kernel
theorem d_Pe_gain_8 : decode bc_Pe_gain 8 = .ok (.iaload, 1) := by decide +kernel
theorem d_Pe_gain_9 : decode bc_Pe_gain 9 = .ok (.invokestatic 50, 3) := by decide +kernel
theorem d_Pe_gain_12 : decode bc_Pe_gain 12 = .ok (.istore 7, 2) := by decide +kernel
theorem d_Pe_gain_14 : decode bc_Pe_gain 14 = .ok (.iload 7, 2) := by decide +kernel
theorem d_Pe_gain_16 : decode bc_Pe_gain 16 = .ok (.ifCond .le 28, 3) := by decide +kernel
theorem d_Pe_gain_19 : decode bc_Pe_gain 19 = .ok (.aload_n 2, 1) := by decide +kernel
theorem d_Pe_gain_20 : decode bc_Pe_gain 20 = .ok (.getfield 101, 3) := by decide +kernel
theorem d_Pe_gain_23 : decode bc_Pe_gain 23 = .ok (.iload 5, 2) := by decide +kernel
theorem d_Pe_gain_25 : decode bc_Pe_gain 25 = .ok (.iaload, 1) := by decide +kernel
theorem d_Pe_gain_26 : decode bc_Pe_gain 26 = .ok (.iload_n 3, 1) := by decide +kernel
theorem d_Pe_gain_27 : decode bc_Pe_gain 27 = .ok (.if_icmp .ne 17, 3) := by decide +kernel
theorem d_Pe_gain_30 : decode bc_Pe_gain 30 = .ok (.aload_n 0, 1) := by decide +kernel
theorem d_Pe_gain_31 : decode bc_Pe_gain 31 = .ok (.aload_n 1, 1) := by decide +kernel
theorem d_Pe_gain_32 : decode bc_Pe_gain 32 = .ok (.aload_n 2, 1) := by decide +kernel
theorem d_Pe_gain_33 : decode bc_Pe_gain 33 = .ok (.iload_n 3, 1) := by decide +kernel
theorem d_Pe_gain_34 : decode bc_Pe_gain 34 = .ok (.iload 4, 2) := by decide +kernel
theorem d_Pe_gain_36 : decode bc_Pe_gain 36 = .ok (.invokevirtual 104, 3) := by decide +kernel
theorem d_Pe_gain_39 : decode bc_Pe_gain 39 = .ok (.iload 7, 2) := by decide +kernel
theorem d_Pe_gain_41 : decode bc_Pe_gain 41 = .ok (.idiv, 1) := by decide +kernel
theorem d_Pe_gain_42 : decode bc_Pe_gain 42 = .ok (.istore 6, 2) := by decide +kernel
theorem d_Pe_gain_44 : decode bc_Pe_gain 44 = .ok (.iload 4, 2) := by decide +kernel
theorem d_Pe_gain_46 : decode bc_Pe_gain 46 = .ok (.iload 5, 2) := by decide +kernel
theorem d_Pe_gain_48 : decode bc_Pe_gain 48 = .ok (.ishr, 1) := by decide +kernel
theorem d_Pe_gain_49 : decode bc_Pe_gain 49 = .ok (.iconst 1, 1) := by decide +kernel
theorem d_Pe_gain_50 : decode bc_Pe_gain 50 = .ok (.iand, 1) := by decide +kernel
theorem d_Pe_gain_51 : decode bc_Pe_gain 51 = .ok (.ifCond .eq 22, 3) := by decide +kernel
theorem d_Pe_gain_54 : decode bc_Pe_gain 54 = .ok (.iload 6, 2) := by decide +kernel
theorem d_Pe_gain_56 : decode bc_Pe_gain 56 = .ok (.iconst 5, 1) := by decide +kernel
theorem d_Pe_gain_57 : decode bc_Pe_gain 57 = .ok (.aload_n 0, 1) := by decide +kernel
theorem d_Pe_gain_58 : decode bc_Pe_gain 58 = .ok (.getfield 15, 3) := by decide +kernel
theorem d_Pe_gain_61 : decode bc_Pe_gain 61 = .ok (.iload 4, 2) := by decide +kernel
theorem d_Pe_gain_63 : decode bc_Pe_gain 63 = .ok (.iconst (-1), 1) := by decide +kernel
theorem d_Pe_gain_64 : decode bc_Pe_gain 64 = .ok (.ixor, 1) := by decide +kernel
theorem d_Pe_gain_65 : decode bc_Pe_gain 65 = .ok (.iand, 1) := by decide +kernel
theorem d_Pe_gain_66 : decode bc_Pe_gain 66 = .ok (.invokestatic 50, 3) := by decide +kernel
theorem d_Pe_gain_69 : decode bc_Pe_gain 69 = .ok (.imul, 1) := by decide +kernel
theorem d_Pe_gain_70 : decode bc_Pe_gain 70 = .ok (.isub, 1) := by decide +kernel
theorem d_Pe_gain_71 : decode bc_Pe_gain 71 = .ok (.istore 6, 2) := by decide +kernel
theorem d_Pe_gain_73 : decode bc_Pe_gain 73 = .ok (.iload 6, 2) := by decide +kernel
theorem d_Pe_gain_75 : decode bc_Pe_gain 75 = .ok (.ireturn, 1) := by decide +kernel
set_option maxRecDepth 20000 in
theorem w_Pe_gain_b44 {X : CX} {V : WV} {tx : Nat} {st : Nat} (hV : IsC V) (htx : isTx tx) (hst : isSt st) {S : Mem} {z : Int32} (hC : Ck X V bc_Pe_gain 8 "SecretWells$People" (some .int) 1 28) (x4 : Int32) (x5 : Int32) (x6 : Int32) (h : f_Pe_gain_b44 tx st S x4 x5 x6 = some z) : G X V 8 (QI X V z S) 44 [some (.ref (V.2.2.1 8 0)), some (.ref (V.2.2.1 tx 0)), some (.ref (V.2.2.1 st 0)), none, some (.int x4), some (.int x5), some (.int x6), none] [] S := by
  unfold f_Pe_gain_b44 at h
  refine g_iload (pc := 44) hC (i := 4) (x := x4) rfl d_Pe_gain_44 ?_
  refine g_iload (pc := 46) hC (i := 5) (x := x5) rfl d_Pe_gain_46 ?_
  refine g_ishr (pc := 48) hC d_Pe_gain_48 ?_
  refine g_iconst (pc := 49) hC kc_1 d_Pe_gain_49 ?_
  refine g_iand (pc := 50) hC d_Pe_gain_50 ?_
  refine g_if_eq (pc := 51) hC (tgt := 73) (by decide) d_Pe_gain_51 h (fun h => ?_) (fun h => ?_)
  · refine g_iload (pc := 73) hC (i := 6) (x := x6) rfl d_Pe_gain_73 ?_
    exact g_iN (pc := 75) hC rfl d_Pe_gain_75 h
  · refine g_iload (pc := 54) hC (i := 6) (x := x6) rfl d_Pe_gain_54 ?_
    refine g_iconst (pc := 56) hC kc_5 d_Pe_gain_56 ?_
    refine g_aload_n (pc := 57) hC (i := 0) (x := (V.2.2.1 8 0)) rfl rfl d_Pe_gain_57 ?_
    refine g_getI (pc := 58) hC fo_Pe_15 (ob_Pe hV) rfl d_Pe_gain_58 ?_
    refine g_iload (pc := 61) hC (i := 4) (x := x4) rfl d_Pe_gain_61 ?_
    refine g_iconst (pc := 63) hC kc_m1 d_Pe_gain_63 ?_
    refine g_ixor (pc := 64) hC d_Pe_gain_64 ?_
    refine g_iand (pc := 65) hC d_Pe_gain_65 ?_
    obtain ⟨q66, hq66, h⟩ := Option.bind_eq_some_iff.mp h
    refine g_si (pc := 66) hC (As := [.int ((S.1 8 1) &&& (x4 ^^^ (-1)))]) (st := [.int 5, .int x6]) mt_JInt_bitCount lk_Pe_50 (Nat.le_of_ble_eq_true rfl) ⟨Nat.le_of_ble_eq_true rfl, Nat.le_of_ble_eq_true rfl⟩ rfl d_Pe_gain_66 (c_JInt_bitCount (IsC.ok hV) hq66) ?_
    refine g_imul (pc := 69) hC d_Pe_gain_69 ?_
    refine g_isub (pc := 70) hC d_Pe_gain_70 ?_
    refine g_leti h (fun y71 h => ?_)
    refine s_istore (pc := 71) hC (i := 6) (by decide) d_Pe_gain_71 (lv2 := [some (.ref (V.2.2.1 8 0)), some (.ref (V.2.2.1 tx 0)), some (.ref (V.2.2.1 st 0)), none, some (.int x4), some (.int x5), some (.int y71), none]) rfl ?_
    refine g_iload (pc := 73) hC (i := 6) (x := y71) rfl d_Pe_gain_73 ?_
    exact g_iN (pc := 75) hC rfl d_Pe_gain_75 h
set_option maxRecDepth 20000 in
theorem w_Pe_gain_b0 {X : CX} {V : WV} {tx : Nat} {st : Nat} (hV : IsC V) (htx : isTx tx) (hst : isSt st) {S : Mem} {z : Int32} (hC : Ck X V bc_Pe_gain 8 "SecretWells$People" (some .int) 1 28) (x3 : Int32) (x4 : Int32) (x5 : Int32) (h : f_Pe_gain_b0 tx st S x3 x4 x5 = some z) : G X V 8 (QI X V z S) 0 [some (.ref (V.2.2.1 8 0)), some (.ref (V.2.2.1 tx 0)), some (.ref (V.2.2.1 st 0)), some (.int x3), some (.int x4), some (.int x5), none, none] [] S := by
  unfold f_Pe_gain_b0 at h
  refine g_iconst (pc := 0) hC kc_0 d_Pe_gain_0 ?_
  refine s_istore (pc := 1) hC (i := 6) (by decide) d_Pe_gain_1 (lv2 := [some (.ref (V.2.2.1 8 0)), some (.ref (V.2.2.1 tx 0)), some (.ref (V.2.2.1 st 0)), some (.int x3), some (.int x4), some (.int x5), some (.int 0), none]) rfl ?_
  refine g_aload_n (pc := 3) hC (i := 2) (x := (V.2.2.1 st 0)) rfl rfl d_Pe_gain_3 ?_
  refine g_getA (pc := 4) hC fo_Pe_98 (ob_St hV hst) rfl d_Pe_gain_4 ?_
  refine g_iload_n (pc := 7) hC (i := 3) (x := x3) rfl rfl d_Pe_gain_7 ?_
  refine g_iald (pc := 8) hC (ar_St_11 hV hst) d_Pe_gain_8 h (fun h => ?_)
  obtain ⟨q9, hq9, h⟩ := Option.bind_eq_some_iff.mp h
  refine g_si (pc := 9) hC (As := [.int (S.2.1 st 11 x3.toNatClampNeg)]) (st := []) mt_JInt_bitCount lk_Pe_50 (Nat.le_of_ble_eq_true rfl) ⟨Nat.le_of_ble_eq_true rfl, Nat.le_of_ble_eq_true rfl⟩ rfl d_Pe_gain_9 (c_JInt_bitCount (IsC.ok hV) hq9) ?_
  refine s_istore (pc := 12) hC (i := 7) (by decide) d_Pe_gain_12 (lv2 := [some (.ref (V.2.2.1 8 0)), some (.ref (V.2.2.1 tx 0)), some (.ref (V.2.2.1 st 0)), some (.int x3), some (.int x4), some (.int x5), some (.int 0), some (.int q9)]) rfl ?_
  refine g_iload (pc := 14) hC (i := 7) (x := q9) rfl d_Pe_gain_14 ?_
  refine g_if_le (pc := 16) hC (tgt := 44) (by decide) d_Pe_gain_16 h (fun h => ?_) (fun h => ?_)
  · refine g_le (lv2 := [some (.ref (V.2.2.1 8 0)), some (.ref (V.2.2.1 tx 0)), some (.ref (V.2.2.1 st 0)), none, some (.int x4), some (.int x5), some (.int 0), none]) (⟨rfl, ⟨rfl, ⟨rfl, ⟨rfl, ⟨rfl, ⟨rfl, trivial⟩⟩⟩⟩⟩⟩) ?_
    exact w_Pe_gain_b44 hV htx hst hC x4 x5 0 h
  · refine g_aload_n (pc := 19) hC (i := 2) (x := (V.2.2.1 st 0)) rfl rfl d_Pe_gain_19 ?_
    refine g_getA (pc := 20) hC fo_Pe_101 (ob_St hV hst) rfl d_Pe_gain_20 ?_
    refine g_iload (pc := 23) hC (i := 5) (x := x5) rfl d_Pe_gain_23 ?_
    refine g_iald (pc := 25) hC (ar_St_5 hV hst) d_Pe_gain_25 h (fun h => ?_)
    refine g_iload_n (pc := 26) hC (i := 3) (x := x3) rfl rfl d_Pe_gain_26 ?_
    refine g_icmp_ne (pc := 27) hC (tgt := 44) (by decide) d_Pe_gain_27 h (fun h => ?_) (fun h => ?_)
    · refine g_le (lv2 := [some (.ref (V.2.2.1 8 0)), some (.ref (V.2.2.1 tx 0)), some (.ref (V.2.2.1 st 0)), none, some (.int x4), some (.int x5), some (.int 0), none]) (⟨rfl, ⟨rfl, ⟨rfl, ⟨rfl, ⟨rfl, ⟨rfl, trivial⟩⟩⟩⟩⟩⟩) ?_
      exact w_Pe_gain_b44 hV htx hst hC x4 x5 0 h
    · refine g_aload_n (pc := 30) hC (i := 0) (x := (V.2.2.1 8 0)) rfl rfl d_Pe_gain_30 ?_
      refine g_aload_n (pc := 31) hC (i := 1) (x := (V.2.2.1 tx 0)) rfl rfl d_Pe_gain_31 ?_
      refine g_aload_n (pc := 32) hC (i := 2) (x := (V.2.2.1 st 0)) rfl rfl d_Pe_gain_32 ?_
      refine g_iload_n (pc := 33) hC (i := 3) (x := x3) rfl rfl d_Pe_gain_33 ?_
      refine g_iload (pc := 34) hC (i := 4) (x := x4) rfl d_Pe_gain_34 ?_
      obtain ⟨q36, hq36, h⟩ := Option.bind_eq_some_iff.mp h
      refine g_vi (pc := 36) hC (As := [.ref (V.2.2.1 tx 0), .ref (V.2.2.1 st 0), .int x3, .int x4]) (st := []) mt_Pe_deepBy lk_Pe_104 rfl (ob_Pe hV) (Nat.le_of_ble_eq_true rfl) ⟨Nat.le_of_ble_eq_true rfl, Nat.le_of_ble_eq_true rfl⟩ rfl d_Pe_gain_36 (c_Pe_deepBy hV htx hst hq36) ?_
      refine g_iload (pc := 39) hC (i := 7) (x := q9) rfl d_Pe_gain_39 ?_
      refine g_idiv (pc := 41) hC d_Pe_gain_41 h (fun h => ?_)
      refine g_leti h (fun y42 h => ?_)
      refine s_istore (pc := 42) hC (i := 6) (by decide) d_Pe_gain_42 (lv2 := [some (.ref (V.2.2.1 8 0)), some (.ref (V.2.2.1 tx 0)), some (.ref (V.2.2.1 st 0)), some (.int x3), some (.int x4), some (.int x5), some (.int y42), some (.int q9)]) rfl ?_
      refine g_le (lv2 := [some (.ref (V.2.2.1 8 0)), some (.ref (V.2.2.1 tx 0)), some (.ref (V.2.2.1 st 0)), none, some (.int x4), some (.int x5), some (.int y42), none]) (⟨rfl, ⟨rfl, ⟨rfl, ⟨rfl, ⟨rfl, ⟨rfl, trivial⟩⟩⟩⟩⟩⟩) ?_
      exact w_Pe_gain_b44 hV htx hst hC x4 x5 y42 h
theorem c_Pe_gain {V : WV} {l : Launch} (hV : IsC V) {tx : Nat} {st : Nat} (htx : isTx tx) (hst : isSt st) {x3 : Int32} {x4 : Int32} {x5 : Int32} {S : Mem} {z : Int32} (h : f_Pe_gain tx st x3 x4 x5 S = some z) : CI V l y_Pe_gain bc_Pe_gain 8 (some .int) 1 28 [.ref (V.2.2.1 8 0), .ref (V.2.2.1 tx 0), .ref (V.2.2.1 st 0), .int x3, .int x4, .int x5] S z S :=
  ct_i rfl (IsC.ok hV) (Nat.le_of_ble_eq_true rfl) (fun _ _ hC => w_Pe_gain_b0 hV htx hst hC x3 x4 x5 h)
def f_Pe_isRest_b29 (tx : Nat) (st : Nat) (S : Mem) (k3 : Int32 → Int32 → Int32 → Option (Int32)) (x3 : Int32) (x4 : Int32) (x5 : Int32) (s0 : Int32) : Option (Int32) :=
  if s0 = 0 then
    k3 x3 x4 (x5 + 1)
  else
    Option.bind (f_Pe_gain tx st x3 (x4 ^^^ ((1 : Int32) <<< (x5 &&& 31))) x5 S) (fun q49 =>
    Option.bind (f_Pe_gain tx st x3 x4 x5 S) (fun q60 =>
    if q49 ≤ q60 then
      k3 x3 x4 (x5 + 1)
    else
      some 0))
def f_Pe_isRest_b3 (tx : Nat) (st : Nat) (S : Mem) (k3 : Int32 → Int32 → Int32 → Option (Int32)) (x3 : Int32) (x4 : Int32) (x5 : Int32) : Option (Int32) :=
  if (S.1 tx 1) ≤ x5 then
    some 1
  else
    if (((S.1 8 1) >>> (x5 &&& 31)) &&& 1) = 0 then
      f_Pe_isRest_b29 tx st S k3 x3 x4 x5 0
    else
      f_Pe_isRest_b29 tx st S k3 x3 x4 x5 1
def f_Pe_isRest_l3 (tx : Nat) (st : Nat) (S : Mem) : Nat → Int32 → Int32 → Int32 → Option (Int32)
  | 0 => fun _ _ _ => none
  | n + 1 => f_Pe_isRest_b3 tx st S (f_Pe_isRest_l3 tx st S n)
def f_Pe_isRest_b0 (tx : Nat) (st : Nat) (S : Mem) (x3 : Int32) (x4 : Int32) : Option (Int32) :=
  f_Pe_isRest_l3 tx st S 5000 x3 x4 0
def f_Pe_isRest (tx : Nat) (st : Nat) (x3 : Int32) (x4 : Int32) (S : Mem) : Option (Int32) := f_Pe_isRest_b0 tx st S x3 x4
theorem d_Pe_isRest_0 : decode bc_Pe_isRest 0 = .ok (.iconst 0, 1) := by decide +kernel
theorem d_Pe_isRest_1 : decode bc_Pe_isRest 1 = .ok (.istore 5, 2) := by decide +kernel
theorem d_Pe_isRest_3 : decode bc_Pe_isRest 3 = .ok (.iload 5, 2) := by decide +kernel
theorem d_Pe_isRest_5 : decode bc_Pe_isRest 5 = .ok (.aload_n 1, 1) := by decide +kernel
theorem d_Pe_isRest_6 : decode bc_Pe_isRest 6 = .ok (.getfield 63, 3) := by decide +kernel
theorem d_Pe_isRest_9 : decode bc_Pe_isRest 9 = .ok (.if_icmp .ge 65, 3) := by decide +kernel
theorem d_Pe_isRest_12 : decode bc_Pe_isRest 12 = .ok (.aload_n 0, 1) := by decide +kernel
theorem d_Pe_isRest_13 : decode bc_Pe_isRest 13 = .ok (.getfield 15, 3) := by decide +kernel
theorem d_Pe_isRest_16 : decode bc_Pe_isRest 16 = .ok (.iload 5, 2) := by decide +kernel
theorem d_Pe_isRest_18 : decode bc_Pe_isRest 18 = .ok (.ishr, 1) := by decide +kernel
theorem d_Pe_isRest_19 : decode bc_Pe_isRest 19 = .ok (.iconst 1, 1) := by decide +kernel
theorem d_Pe_isRest_20 : decode bc_Pe_isRest 20 = .ok (.iand, 1) := by decide +kernel
theorem d_Pe_isRest_21 : decode bc_Pe_isRest 21 = .ok (.ifCond .eq 7, 3) := by decide +kernel
theorem d_Pe_isRest_24 : decode bc_Pe_isRest 24 = .ok (.iconst 1, 1) := by decide +kernel
theorem d_Pe_isRest_25 : decode bc_Pe_isRest 25 = .ok (.goto 4, 3) := by decide +kernel
theorem d_Pe_isRest_28 : decode bc_Pe_isRest 28 = .ok (.iconst 0, 1) := by decide +kernel
theorem d_Pe_isRest_29 : decode bc_Pe_isRest 29 = .ok (.istore 6, 2) := by decide +kernel
theorem d_Pe_isRest_31 : decode bc_Pe_isRest 31 = .ok (.iload 6, 2) := by decide +kernel
theorem d_Pe_isRest_33 : decode bc_Pe_isRest 33 = .ok (.ifCond .eq 35, 3) := by decide +kernel
theorem d_Pe_isRest_36 : decode bc_Pe_isRest 36 = .ok (.aload_n 0, 1) := by decide +kernel
theorem d_Pe_isRest_37 : decode bc_Pe_isRest 37 = .ok (.aload_n 1, 1) := by decide +kernel
theorem d_Pe_isRest_38 : decode bc_Pe_isRest 38 = .ok (.aload_n 2, 1) := by decide +kernel
theorem d_Pe_isRest_39 : decode bc_Pe_isRest 39 = .ok (.iload_n 3, 1) := by decide +kernel
theorem d_Pe_isRest_40 : decode bc_Pe_isRest 40 = .ok (.iload 4, 2) := by decide +kernel
theorem d_Pe_isRest_42 : decode bc_Pe_isRest 42 = .ok (.iconst 1, 1) := by decide +kernel
theorem d_Pe_isRest_43 : decode bc_Pe_isRest 43 = .ok (.iload 5, 2) := by decide +kernel
theorem d_Pe_isRest_45 : decode bc_Pe_isRest 45 = .ok (.ishl, 1) := by decide +kernel
theorem d_Pe_isRest_46 : decode bc_Pe_isRest 46 = .ok (.ixor, 1) := by decide +kernel
theorem d_Pe_isRest_47 : decode bc_Pe_isRest 47 = .ok (.iload 5, 2) := by decide +kernel
theorem d_Pe_isRest_49 : decode bc_Pe_isRest 49 = .ok (.invokevirtual 94, 3) := by decide +kernel
theorem d_Pe_isRest_52 : decode bc_Pe_isRest 52 = .ok (.aload_n 0, 1) := by decide +kernel
theorem d_Pe_isRest_53 : decode bc_Pe_isRest 53 = .ok (.aload_n 1, 1) := by decide +kernel
theorem d_Pe_isRest_54 : decode bc_Pe_isRest 54 = .ok (.aload_n 2, 1) := by decide +kernel
theorem d_Pe_isRest_55 : decode bc_Pe_isRest 55 = .ok (.iload_n 3, 1) := by decide +kernel
theorem d_Pe_isRest_56 : decode bc_Pe_isRest 56 = .ok (.iload 4, 2) := by decide +kernel
theorem d_Pe_isRest_58 : decode bc_Pe_isRest 58 = .ok (.iload 5, 2) := by decide +kernel
theorem d_Pe_isRest_60 : decode bc_Pe_isRest 60 = .ok (.invokevirtual 94, 3) := by decide +kernel
theorem d_Pe_isRest_63 : decode bc_Pe_isRest 63 = .ok (.if_icmp .le 5, 3) := by decide +kernel
theorem d_Pe_isRest_66 : decode bc_Pe_isRest 66 = .ok (.iconst 0, 1) := by decide +kernel
theorem d_Pe_isRest_67 : decode bc_Pe_isRest 67 = .ok (.ireturn, 1) := by decide +kernel
theorem d_Pe_isRest_68 : decode bc_Pe_isRest 68 = .ok (.iinc 5 1, 3) := by decide +kernel
theorem d_Pe_isRest_71 : decode bc_Pe_isRest 71 = .ok (.goto (-68), 3) := by decide +kernel
theorem d_Pe_isRest_74 : decode bc_Pe_isRest 74 = .ok (.iconst 1, 1) := by decide +kernel
theorem d_Pe_isRest_75 : decode bc_Pe_isRest 75 = .ok (.ireturn, 1) := by decide +kernel
set_option maxRecDepth 20000 in
theorem w_Pe_isRest_b29 {X : CX} {V : WV} {tx : Nat} {st : Nat} (hV : IsC V) (htx : isTx tx) (hst : isSt st) {S : Mem} {z : Int32} (hC : Ck X V bc_Pe_isRest 7 "SecretWells$People" (some .boolean) 2 55) (k3 : Int32 → Int32 → Int32 → Option (Int32)) (hk3 : ∀ (x3 : Int32) (x4 : Int32) (x5 : Int32), k3 x3 x4 x5 = some z → G X V 7 (QI X V z S) 3 [some (.ref (V.2.2.1 8 0)), some (.ref (V.2.2.1 tx 0)), some (.ref (V.2.2.1 st 0)), some (.int x3), some (.int x4), some (.int x5), none] [] S) (x3 : Int32) (x4 : Int32) (x5 : Int32) (s0 : Int32) (h : f_Pe_isRest_b29 tx st S k3 x3 x4 x5 s0 = some z) : G X V 7 (QI X V z S) 29 [some (.ref (V.2.2.1 8 0)), some (.ref (V.2.2.1 tx 0)), some (.ref (V.2.2.1 st 0)), some (.int x3), some (.int x4), some (.int x5), none] [.int s0] S := by
  unfold f_Pe_isRest_b29 at h
  refine s_istore (pc := 29) hC (i := 6) (by decide) d_Pe_isRest_29 (lv2 := [some (.ref (V.2.2.1 8 0)), some (.ref (V.2.2.1 tx 0)), some (.ref (V.2.2.1 st 0)), some (.int x3), some (.int x4), some (.int x5), some (.int s0)]) rfl ?_
  refine g_iload (pc := 31) hC (i := 6) (x := s0) rfl d_Pe_isRest_31 ?_
  refine g_if_eq (pc := 33) hC (tgt := 68) (by decide) d_Pe_isRest_33 h (fun h => ?_) (fun h => ?_)
  · refine s_iinc (pc := 68) hC (i := 5) (x := x5) (v := x5 + 1) rfl (by rw [kc_1]) (by decide) d_Pe_isRest_68 (lv2 := [some (.ref (V.2.2.1 8 0)), some (.ref (V.2.2.1 tx 0)), some (.ref (V.2.2.1 st 0)), some (.int x3), some (.int x4), some (.int (x5 + 1)), some (.int s0)]) rfl ?_
    refine g_goto (pc := 71) hC (tgt := 3) (by decide) d_Pe_isRest_71 ?_
    refine g_le (lv2 := [some (.ref (V.2.2.1 8 0)), some (.ref (V.2.2.1 tx 0)), some (.ref (V.2.2.1 st 0)), some (.int x3), some (.int x4), some (.int (x5 + 1)), none]) (⟨rfl, ⟨rfl, ⟨rfl, ⟨rfl, ⟨rfl, ⟨rfl, trivial⟩⟩⟩⟩⟩⟩) ?_
    exact hk3 x3 x4 (x5 + 1) h
  · refine g_aload_n (pc := 36) hC (i := 0) (x := (V.2.2.1 8 0)) rfl rfl d_Pe_isRest_36 ?_
    refine g_aload_n (pc := 37) hC (i := 1) (x := (V.2.2.1 tx 0)) rfl rfl d_Pe_isRest_37 ?_
    refine g_aload_n (pc := 38) hC (i := 2) (x := (V.2.2.1 st 0)) rfl rfl d_Pe_isRest_38 ?_
    refine g_iload_n (pc := 39) hC (i := 3) (x := x3) rfl rfl d_Pe_isRest_39 ?_
    refine g_iload (pc := 40) hC (i := 4) (x := x4) rfl d_Pe_isRest_40 ?_
    refine g_iconst (pc := 42) hC kc_1 d_Pe_isRest_42 ?_
    refine g_iload (pc := 43) hC (i := 5) (x := x5) rfl d_Pe_isRest_43 ?_
    refine g_ishl (pc := 45) hC d_Pe_isRest_45 ?_
    refine g_ixor (pc := 46) hC d_Pe_isRest_46 ?_
    refine g_iload (pc := 47) hC (i := 5) (x := x5) rfl d_Pe_isRest_47 ?_
    obtain ⟨q49, hq49, h⟩ := Option.bind_eq_some_iff.mp h
    refine g_vi (pc := 49) hC (As := [.ref (V.2.2.1 tx 0), .ref (V.2.2.1 st 0), .int x3, .int (x4 ^^^ ((1 : Int32) <<< (x5 &&& 31))), .int x5]) (st := []) mt_Pe_gain lk_Pe_94 rfl (ob_Pe hV) (Nat.le_of_ble_eq_true rfl) ⟨Nat.le_of_ble_eq_true rfl, Nat.le_of_ble_eq_true rfl⟩ rfl d_Pe_isRest_49 (c_Pe_gain hV htx hst hq49) ?_
    refine g_aload_n (pc := 52) hC (i := 0) (x := (V.2.2.1 8 0)) rfl rfl d_Pe_isRest_52 ?_
    refine g_aload_n (pc := 53) hC (i := 1) (x := (V.2.2.1 tx 0)) rfl rfl d_Pe_isRest_53 ?_
    refine g_aload_n (pc := 54) hC (i := 2) (x := (V.2.2.1 st 0)) rfl rfl d_Pe_isRest_54 ?_
    refine g_iload_n (pc := 55) hC (i := 3) (x := x3) rfl rfl d_Pe_isRest_55 ?_
    refine g_iload (pc := 56) hC (i := 4) (x := x4) rfl d_Pe_isRest_56 ?_
    refine g_iload (pc := 58) hC (i := 5) (x := x5) rfl d_Pe_isRest_58 ?_
    obtain ⟨q60, hq60, h⟩ := Option.bind_eq_some_iff.mp h
    refine g_vi (pc := 60) hC (As := [.ref (V.2.2.1 tx 0), .ref (V.2.2.1 st 0), .int x3, .int x4, .int x5]) (st := [.int q49]) mt_Pe_gain lk_Pe_94 rfl (ob_Pe hV) (Nat.le_of_ble_eq_true rfl) ⟨Nat.le_of_ble_eq_true rfl, Nat.le_of_ble_eq_true rfl⟩ rfl d_Pe_isRest_60 (c_Pe_gain hV htx hst hq60) ?_
    refine g_icmp_le (pc := 63) hC (tgt := 68) (by decide) d_Pe_isRest_63 h (fun h => ?_) (fun h => ?_)
    · refine s_iinc (pc := 68) hC (i := 5) (x := x5) (v := x5 + 1) rfl (by rw [kc_1]) (by decide) d_Pe_isRest_68 (lv2 := [some (.ref (V.2.2.1 8 0)), some (.ref (V.2.2.1 tx 0)), some (.ref (V.2.2.1 st 0)), some (.int x3), some (.int x4), some (.int (x5 + 1)), some (.int s0)]) rfl ?_
      refine g_goto (pc := 71) hC (tgt := 3) (by decide) d_Pe_isRest_71 ?_
      refine g_le (lv2 := [some (.ref (V.2.2.1 8 0)), some (.ref (V.2.2.1 tx 0)), some (.ref (V.2.2.1 st 0)), some (.int x3), some (.int x4), some (.int (x5 + 1)), none]) (⟨rfl, ⟨rfl, ⟨rfl, ⟨rfl, ⟨rfl, ⟨rfl, trivial⟩⟩⟩⟩⟩⟩) ?_
      exact hk3 x3 x4 (x5 + 1) h
    · refine g_iconst (pc := 66) hC kc_0 d_Pe_isRest_66 ?_
      exact g_iN (pc := 67) hC rfl d_Pe_isRest_67 h
set_option maxRecDepth 20000 in
theorem w_Pe_isRest_b3 {X : CX} {V : WV} {tx : Nat} {st : Nat} (hV : IsC V) (htx : isTx tx) (hst : isSt st) {S : Mem} {z : Int32} (hC : Ck X V bc_Pe_isRest 7 "SecretWells$People" (some .boolean) 2 55) (k3 : Int32 → Int32 → Int32 → Option (Int32)) (hk3 : ∀ (x3 : Int32) (x4 : Int32) (x5 : Int32), k3 x3 x4 x5 = some z → G X V 7 (QI X V z S) 3 [some (.ref (V.2.2.1 8 0)), some (.ref (V.2.2.1 tx 0)), some (.ref (V.2.2.1 st 0)), some (.int x3), some (.int x4), some (.int x5), none] [] S) (x3 : Int32) (x4 : Int32) (x5 : Int32) (h : f_Pe_isRest_b3 tx st S k3 x3 x4 x5 = some z) : G X V 7 (QI X V z S) 3 [some (.ref (V.2.2.1 8 0)), some (.ref (V.2.2.1 tx 0)), some (.ref (V.2.2.1 st 0)), some (.int x3), some (.int x4), some (.int x5), none] [] S := by
  unfold f_Pe_isRest_b3 at h
  refine g_iload (pc := 3) hC (i := 5) (x := x5) rfl d_Pe_isRest_3 ?_
  refine g_aload_n (pc := 5) hC (i := 1) (x := (V.2.2.1 tx 0)) rfl rfl d_Pe_isRest_5 ?_
  refine g_getI (pc := 6) hC fo_Pe_63 (ob_Tx hV htx) rfl d_Pe_isRest_6 ?_
  refine g_icmp_ge (pc := 9) hC (tgt := 74) (by decide) d_Pe_isRest_9 h (fun h => ?_) (fun h => ?_)
  · refine g_iconst (pc := 74) hC kc_1 d_Pe_isRest_74 ?_
    exact g_iN (pc := 75) hC rfl d_Pe_isRest_75 h
  · refine g_aload_n (pc := 12) hC (i := 0) (x := (V.2.2.1 8 0)) rfl rfl d_Pe_isRest_12 ?_
    refine g_getI (pc := 13) hC fo_Pe_15 (ob_Pe hV) rfl d_Pe_isRest_13 ?_
    refine g_iload (pc := 16) hC (i := 5) (x := x5) rfl d_Pe_isRest_16 ?_
    refine g_ishr (pc := 18) hC d_Pe_isRest_18 ?_
    refine g_iconst (pc := 19) hC kc_1 d_Pe_isRest_19 ?_
    refine g_iand (pc := 20) hC d_Pe_isRest_20 ?_
    refine g_if_eq (pc := 21) hC (tgt := 28) (by decide) d_Pe_isRest_21 h (fun h => ?_) (fun h => ?_)
    · refine g_iconst (pc := 28) hC kc_0 d_Pe_isRest_28 ?_
      exact w_Pe_isRest_b29 hV htx hst hC k3 hk3 x3 x4 x5 0 h
    · refine g_iconst (pc := 24) hC kc_1 d_Pe_isRest_24 ?_
      refine g_goto (pc := 25) hC (tgt := 29) (by decide) d_Pe_isRest_25 ?_
      exact w_Pe_isRest_b29 hV htx hst hC k3 hk3 x3 x4 x5 1 h
theorem w_Pe_isRest_l3 {X : CX} {V : WV} {tx : Nat} {st : Nat} (hV : IsC V) (htx : isTx tx) (hst : isSt st) {S : Mem} {z : Int32} (hC : Ck X V bc_Pe_isRest 7 "SecretWells$People" (some .boolean) 2 55) : ∀ (n : Nat) (x3 : Int32) (x4 : Int32) (x5 : Int32), f_Pe_isRest_l3 tx st S n x3 x4 x5 = some z → G X V 7 (QI X V z S) 3 [some (.ref (V.2.2.1 8 0)), some (.ref (V.2.2.1 tx 0)), some (.ref (V.2.2.1 st 0)), some (.int x3), some (.int x4), some (.int x5), none] [] S := by
  intro n
  induction n with
  | zero =>
    intro x3 x4 x5 h
    have h : (none : Option (Int32)) = some z := h
    cases h
  | succ n ih =>
    intro x3 x4 x5 h
    exact w_Pe_isRest_b3 hV htx hst hC (f_Pe_isRest_l3 tx st S n) ih x3 x4 x5 h
set_option maxRecDepth 20000 in
theorem w_Pe_isRest_b0 {X : CX} {V : WV} {tx : Nat} {st : Nat} (hV : IsC V) (htx : isTx tx) (hst : isSt st) {S : Mem} {z : Int32} (hC : Ck X V bc_Pe_isRest 7 "SecretWells$People" (some .boolean) 2 55) (x3 : Int32) (x4 : Int32) (h : f_Pe_isRest_b0 tx st S x3 x4 = some z) : G X V 7 (QI X V z S) 0 [some (.ref (V.2.2.1 8 0)), some (.ref (V.2.2.1 tx 0)), some (.ref (V.2.2.1 st 0)), some (.int x3), some (.int x4), none, none] [] S := by
  unfold f_Pe_isRest_b0 at h
  refine g_iconst (pc := 0) hC kc_0 d_Pe_isRest_0 ?_
  refine s_istore (pc := 1) hC (i := 5) (by decide) d_Pe_isRest_1 (lv2 := [some (.ref (V.2.2.1 8 0)), some (.ref (V.2.2.1 tx 0)), some (.ref (V.2.2.1 st 0)), some (.int x3), some (.int x4), some (.int 0), none]) rfl ?_
  exact w_Pe_isRest_l3 hV htx hst hC 5000 x3 x4 0 h
theorem c_Pe_isRest {V : WV} {l : Launch} (hV : IsC V) {tx : Nat} {st : Nat} (htx : isTx tx) (hst : isSt st) {x3 : Int32} {x4 : Int32} {S : Mem} {z : Int32} (h : f_Pe_isRest tx st x3 x4 S = some z) : CI V l y_Pe_isRest bc_Pe_isRest 7 (some .boolean) 2 55 [.ref (V.2.2.1 8 0), .ref (V.2.2.1 tx 0), .ref (V.2.2.1 st 0), .int x3, .int x4] S z S :=
  ct_i rfl (IsC.ok hV) (Nat.le_of_ble_eq_true rfl) (fun _ _ hC => w_Pe_isRest_b0 hV htx hst hC x3 x4 h)
def f_Pe_rests_b12 (tx : Nat) (st : Nat) (k12 : Int32 → Int32 → Int32 → Int32 → Mem → Option (Int32 × Mem)) (x3 : Int32) (x4 : Int32) (x5 : Int32) (x6 : Int32) (S : Mem) : Option (Int32 × Mem) :=
  if ((1 : Int32) <<< ((S.1 tx 1) &&& 31)) ≤ x6 then
    if x4 = (-1) then
      some (x5, S)
    else
      some ((-1), S)
  else
    if (x6 &&& ((S.1 8 1) ^^^ (-1))) = 0 then
      Option.bind (f_Pe_isRest tx st x3 x6 S) (fun q41 =>
      if q41 = 0 then
        k12 x3 x4 x5 (x6 + 1) S
      else
        if x5 = x4 then
          some (x6, S)
        else
          k12 x3 x4 (x5 + 1) (x6 + 1) S)
    else
      k12 x3 x4 x5 (x6 + 1) S
def f_Pe_rests_l12 (tx : Nat) (st : Nat) : Nat → Int32 → Int32 → Int32 → Int32 → Mem → Option (Int32 × Mem)
  | 0 => fun _ _ _ _ _ => none
  | n + 1 => f_Pe_rests_b12 tx st (f_Pe_rests_l12 tx st n)
def f_Pe_rests_b0 (tx : Nat) (st : Nat) (x3 : Int32) (x4 : Int32) (S : Mem) : Option (Int32 × Mem) :=
  Option.bind (f_Pe_gatherPlayers tx st S) (fun q3 =>
  f_Pe_rests_l12 tx st 5000 x3 x4 0 0 q3)
def f_Pe_rests (tx : Nat) (st : Nat) (x3 : Int32) (x4 : Int32) (S : Mem) : Option (Int32 × Mem) := f_Pe_rests_b0 tx st x3 x4 S
theorem d_Pe_rests_0 : decode bc_Pe_rests 0 = .ok (.aload_n 0, 1) := by decide +kernel
theorem d_Pe_rests_1 : decode bc_Pe_rests 1 = .ok (.aload_n 1, 1) := by decide +kernel
theorem d_Pe_rests_2 : decode bc_Pe_rests 2 = .ok (.aload_n 2, 1) := by decide +kernel
theorem d_Pe_rests_3 : decode bc_Pe_rests 3 = .ok (.invokevirtual 66, 3) := by decide +kernel
theorem d_Pe_rests_6 : decode bc_Pe_rests 6 = .ok (.iconst 0, 1) := by decide +kernel
theorem d_Pe_rests_7 : decode bc_Pe_rests 7 = .ok (.istore 5, 2) := by decide +kernel
theorem d_Pe_rests_9 : decode bc_Pe_rests 9 = .ok (.iconst 0, 1) := by decide +kernel
theorem d_Pe_rests_10 : decode bc_Pe_rests 10 = .ok (.istore 6, 2) := by decide +kernel
theorem d_Pe_rests_12 : decode bc_Pe_rests 12 = .ok (.iload 6, 2) := by decide +kernel
theorem d_Pe_rests_14 : decode bc_Pe_rests 14 = .ok (.iconst 1, 1) := by decide +kernel
theorem d_Pe_rests_15 : decode bc_Pe_rests 15 = .ok (.aload_n 1, 1) := by decide +kernel
theorem d_Pe_rests_16 : decode bc_Pe_rests 16 = .ok (.getfield 63, 3) := by decide +kernel
theorem d_Pe_rests_19 : decode bc_Pe_rests 19 = .ok (.ishl, 1) := by decide +kernel
theorem d_Pe_rests_20 : decode bc_Pe_rests 20 = .ok (.if_icmp .ge 46, 3) := by decide +kernel
theorem d_Pe_rests_23 : decode bc_Pe_rests 23 = .ok (.iload 6, 2) := by decide +kernel
theorem d_Pe_rests_25 : decode bc_Pe_rests 25 = .ok (.aload_n 0, 1) := by decide +kernel
theorem d_Pe_rests_26 : decode bc_Pe_rests 26 = .ok (.getfield 15, 3) := by decide +kernel
theorem d_Pe_rests_29 : decode bc_Pe_rests 29 = .ok (.iconst (-1), 1) := by decide +kernel
theorem d_Pe_rests_30 : decode bc_Pe_rests 30 = .ok (.ixor, 1) := by decide +kernel
theorem d_Pe_rests_31 : decode bc_Pe_rests 31 = .ok (.iand, 1) := by decide +kernel
theorem d_Pe_rests_32 : decode bc_Pe_rests 32 = .ok (.ifCond .ne 28, 3) := by decide +kernel
theorem d_Pe_rests_35 : decode bc_Pe_rests 35 = .ok (.aload_n 0, 1) := by decide +kernel
theorem d_Pe_rests_36 : decode bc_Pe_rests 36 = .ok (.aload_n 1, 1) := by decide +kernel
theorem d_Pe_rests_37 : decode bc_Pe_rests 37 = .ok (.aload_n 2, 1) := by decide +kernel
theorem d_Pe_rests_38 : decode bc_Pe_rests 38 = .ok (.iload_n 3, 1) := by decide +kernel
theorem d_Pe_rests_39 : decode bc_Pe_rests 39 = .ok (.iload 6, 2) := by decide +kernel
theorem d_Pe_rests_41 : decode bc_Pe_rests 41 = .ok (.invokevirtual 70, 3) := by decide +kernel
theorem d_Pe_rests_44 : decode bc_Pe_rests 44 = .ok (.ifCond .eq 16, 3) := by decide +kernel
theorem d_Pe_rests_47 : decode bc_Pe_rests 47 = .ok (.iload 5, 2) := by decide +kernel
theorem d_Pe_rests_49 : decode bc_Pe_rests 49 = .ok (.iload 4, 2) := by decide +kernel
theorem d_Pe_rests_51 : decode bc_Pe_rests 51 = .ok (.if_icmp .ne 6, 3) := by decide +kernel
theorem d_Pe_rests_54 : decode bc_Pe_rests 54 = .ok (.iload 6, 2) := by decide +kernel
theorem d_Pe_rests_56 : decode bc_Pe_rests 56 = .ok (.ireturn, 1) := by decide +kernel
theorem d_Pe_rests_57 : decode bc_Pe_rests 57 = .ok (.iinc 5 1, 3) := by decide +kernel
theorem d_Pe_rests_60 : decode bc_Pe_rests 60 = .ok (.iinc 6 1, 3) := by decide +kernel
theorem d_Pe_rests_63 : decode bc_Pe_rests 63 = .ok (.goto (-51), 3) := by decide +kernel
theorem d_Pe_rests_66 : decode bc_Pe_rests 66 = .ok (.iload 4, 2) := by decide +kernel
theorem d_Pe_rests_68 : decode bc_Pe_rests 68 = .ok (.iconst (-1), 1) := by decide +kernel
theorem d_Pe_rests_69 : decode bc_Pe_rests 69 = .ok (.if_icmp .ne 8, 3) := by decide +kernel
theorem d_Pe_rests_72 : decode bc_Pe_rests 72 = .ok (.iload 5, 2) := by decide +kernel
theorem d_Pe_rests_74 : decode bc_Pe_rests 74 = .ok (.goto 4, 3) := by decide +kernel
theorem d_Pe_rests_77 : decode bc_Pe_rests 77 = .ok (.iconst (-1), 1) := by decide +kernel
theorem d_Pe_rests_78 : decode bc_Pe_rests 78 = .ok (.ireturn, 1) := by decide +kernel
set_option maxRecDepth 20000 in
theorem w_Pe_rests_b12 {X : CX} {V : WV} {tx : Nat} {st : Nat} (hV : IsC V) (htx : isTx tx) (hst : isSt st) {z : Int32 × Mem} (hC : Ck X V bc_Pe_rests 7 "SecretWells$People" (some .int) 3 81) (k12 : Int32 → Int32 → Int32 → Int32 → Mem → Option (Int32 × Mem)) (hk12 : ∀ (x3 : Int32) (x4 : Int32) (x5 : Int32) (x6 : Int32) (S : Mem), k12 x3 x4 x5 x6 S = some z → G X V 7 (QI X V z.1 z.2) 12 [some (.ref (V.2.2.1 8 0)), some (.ref (V.2.2.1 tx 0)), some (.ref (V.2.2.1 st 0)), some (.int x3), some (.int x4), some (.int x5), some (.int x6)] [] S) (x3 : Int32) (x4 : Int32) (x5 : Int32) (x6 : Int32) (S : Mem) (h : f_Pe_rests_b12 tx st k12 x3 x4 x5 x6 S = some z) : G X V 7 (QI X V z.1 z.2) 12 [some (.ref (V.2.2.1 8 0)), some (.ref (V.2.2.1 tx 0)), some (.ref (V.2.2.1 st 0)), some (.int x3), some (.int x4), some (.int x5), some (.int x6)] [] S := by
  unfold f_Pe_rests_b12 at h
  refine g_iload (pc := 12) hC (i := 6) (x := x6) rfl d_Pe_rests_12 ?_
  refine g_iconst (pc := 14) hC kc_1 d_Pe_rests_14 ?_
  refine g_aload_n (pc := 15) hC (i := 1) (x := (V.2.2.1 tx 0)) rfl rfl d_Pe_rests_15 ?_
  refine g_getI (pc := 16) hC fo_Pe_63 (ob_Tx hV htx) rfl d_Pe_rests_16 ?_
  refine g_ishl (pc := 19) hC d_Pe_rests_19 ?_
  refine g_icmp_ge (pc := 20) hC (tgt := 66) (by decide) d_Pe_rests_20 h (fun h => ?_) (fun h => ?_)
  · refine g_iload (pc := 66) hC (i := 4) (x := x4) rfl d_Pe_rests_66 ?_
    refine g_iconst (pc := 68) hC kc_m1 d_Pe_rests_68 ?_
    refine g_icmp_ne (pc := 69) hC (tgt := 77) (by decide) d_Pe_rests_69 h (fun h => ?_) (fun h => ?_)
    · refine g_iconst (pc := 77) hC kc_m1 d_Pe_rests_77 ?_
      exact g_iW (pc := 78) hC rfl d_Pe_rests_78 h
    · refine g_iload (pc := 72) hC (i := 5) (x := x5) rfl d_Pe_rests_72 ?_
      refine g_goto (pc := 74) hC (tgt := 78) (by decide) d_Pe_rests_74 ?_
      exact g_iW (pc := 78) hC rfl d_Pe_rests_78 h
  · refine g_iload (pc := 23) hC (i := 6) (x := x6) rfl d_Pe_rests_23 ?_
    refine g_aload_n (pc := 25) hC (i := 0) (x := (V.2.2.1 8 0)) rfl rfl d_Pe_rests_25 ?_
    refine g_getI (pc := 26) hC fo_Pe_15 (ob_Pe hV) rfl d_Pe_rests_26 ?_
    refine g_iconst (pc := 29) hC kc_m1 d_Pe_rests_29 ?_
    refine g_ixor (pc := 30) hC d_Pe_rests_30 ?_
    refine g_iand (pc := 31) hC d_Pe_rests_31 ?_
    refine g_if_ne (pc := 32) hC (tgt := 60) (by decide) d_Pe_rests_32 h (fun h => ?_) (fun h => ?_)
    · refine s_iinc (pc := 60) hC (i := 6) (x := x6) (v := x6 + 1) rfl (by rw [kc_1]) (by decide) d_Pe_rests_60 (lv2 := [some (.ref (V.2.2.1 8 0)), some (.ref (V.2.2.1 tx 0)), some (.ref (V.2.2.1 st 0)), some (.int x3), some (.int x4), some (.int x5), some (.int (x6 + 1))]) rfl ?_
      refine g_goto (pc := 63) hC (tgt := 12) (by decide) d_Pe_rests_63 ?_
      exact hk12 x3 x4 x5 (x6 + 1) S h
    · refine g_aload_n (pc := 35) hC (i := 0) (x := (V.2.2.1 8 0)) rfl rfl d_Pe_rests_35 ?_
      refine g_aload_n (pc := 36) hC (i := 1) (x := (V.2.2.1 tx 0)) rfl rfl d_Pe_rests_36 ?_
      refine g_aload_n (pc := 37) hC (i := 2) (x := (V.2.2.1 st 0)) rfl rfl d_Pe_rests_37 ?_
      refine g_iload_n (pc := 38) hC (i := 3) (x := x3) rfl rfl d_Pe_rests_38 ?_
      refine g_iload (pc := 39) hC (i := 6) (x := x6) rfl d_Pe_rests_39 ?_
      obtain ⟨q41, hq41, h⟩ := Option.bind_eq_some_iff.mp h
      refine g_vi (pc := 41) hC (As := [.ref (V.2.2.1 tx 0), .ref (V.2.2.1 st 0), .int x3, .int x6]) (st := []) mt_Pe_isRest lk_Pe_70 rfl (ob_Pe hV) (Nat.le_of_ble_eq_true rfl) ⟨Nat.le_of_ble_eq_true rfl, Nat.le_of_ble_eq_true rfl⟩ rfl d_Pe_rests_41 (c_Pe_isRest hV htx hst hq41) ?_
      refine g_if_eq (pc := 44) hC (tgt := 60) (by decide) d_Pe_rests_44 h (fun h => ?_) (fun h => ?_)
      · refine s_iinc (pc := 60) hC (i := 6) (x := x6) (v := x6 + 1) rfl (by rw [kc_1]) (by decide) d_Pe_rests_60 (lv2 := [some (.ref (V.2.2.1 8 0)), some (.ref (V.2.2.1 tx 0)), some (.ref (V.2.2.1 st 0)), some (.int x3), some (.int x4), some (.int x5), some (.int (x6 + 1))]) rfl ?_
        refine g_goto (pc := 63) hC (tgt := 12) (by decide) d_Pe_rests_63 ?_
        exact hk12 x3 x4 x5 (x6 + 1) S h
      · refine g_iload (pc := 47) hC (i := 5) (x := x5) rfl d_Pe_rests_47 ?_
        refine g_iload (pc := 49) hC (i := 4) (x := x4) rfl d_Pe_rests_49 ?_
        refine g_icmp_ne (pc := 51) hC (tgt := 57) (by decide) d_Pe_rests_51 h (fun h => ?_) (fun h => ?_)
        · refine s_iinc (pc := 57) hC (i := 5) (x := x5) (v := x5 + 1) rfl (by rw [kc_1]) (by decide) d_Pe_rests_57 (lv2 := [some (.ref (V.2.2.1 8 0)), some (.ref (V.2.2.1 tx 0)), some (.ref (V.2.2.1 st 0)), some (.int x3), some (.int x4), some (.int (x5 + 1)), some (.int x6)]) rfl ?_
          refine s_iinc (pc := 60) hC (i := 6) (x := x6) (v := x6 + 1) rfl (by rw [kc_1]) (by decide) d_Pe_rests_60 (lv2 := [some (.ref (V.2.2.1 8 0)), some (.ref (V.2.2.1 tx 0)), some (.ref (V.2.2.1 st 0)), some (.int x3), some (.int x4), some (.int (x5 + 1)), some (.int (x6 + 1))]) rfl ?_
          refine g_goto (pc := 63) hC (tgt := 12) (by decide) d_Pe_rests_63 ?_
          exact hk12 x3 x4 (x5 + 1) (x6 + 1) S h
        · refine g_iload (pc := 54) hC (i := 6) (x := x6) rfl d_Pe_rests_54 ?_
          exact g_iW (pc := 56) hC rfl d_Pe_rests_56 h
theorem w_Pe_rests_l12 {X : CX} {V : WV} {tx : Nat} {st : Nat} (hV : IsC V) (htx : isTx tx) (hst : isSt st) {z : Int32 × Mem} (hC : Ck X V bc_Pe_rests 7 "SecretWells$People" (some .int) 3 81) : ∀ (n : Nat) (x3 : Int32) (x4 : Int32) (x5 : Int32) (x6 : Int32) (S : Mem), f_Pe_rests_l12 tx st n x3 x4 x5 x6 S = some z → G X V 7 (QI X V z.1 z.2) 12 [some (.ref (V.2.2.1 8 0)), some (.ref (V.2.2.1 tx 0)), some (.ref (V.2.2.1 st 0)), some (.int x3), some (.int x4), some (.int x5), some (.int x6)] [] S := by
  intro n
  induction n with
  | zero =>
    intro x3 x4 x5 x6 S h
    have h : (none : Option (Int32 × Mem)) = some z := h
    cases h
  | succ n ih =>
    intro x3 x4 x5 x6 S h
    exact w_Pe_rests_b12 hV htx hst hC (f_Pe_rests_l12 tx st n) ih x3 x4 x5 x6 S h
set_option maxRecDepth 20000 in
theorem w_Pe_rests_b0 {X : CX} {V : WV} {tx : Nat} {st : Nat} (hV : IsC V) (htx : isTx tx) (hst : isSt st) {z : Int32 × Mem} (hC : Ck X V bc_Pe_rests 7 "SecretWells$People" (some .int) 3 81) (x3 : Int32) (x4 : Int32) (S : Mem) (h : f_Pe_rests_b0 tx st x3 x4 S = some z) : G X V 7 (QI X V z.1 z.2) 0 [some (.ref (V.2.2.1 8 0)), some (.ref (V.2.2.1 tx 0)), some (.ref (V.2.2.1 st 0)), some (.int x3), some (.int x4), none, none] [] S := by
  unfold f_Pe_rests_b0 at h
  refine g_aload_n (pc := 0) hC (i := 0) (x := (V.2.2.1 8 0)) rfl rfl d_Pe_rests_0 ?_
  refine g_aload_n (pc := 1) hC (i := 1) (x := (V.2.2.1 tx 0)) rfl rfl d_Pe_rests_1 ?_
  refine g_aload_n (pc := 2) hC (i := 2) (x := (V.2.2.1 st 0)) rfl rfl d_Pe_rests_2 ?_
  obtain ⟨q3, hq3, h⟩ := Option.bind_eq_some_iff.mp h
  refine g_vv (pc := 3) hC (As := [.ref (V.2.2.1 tx 0), .ref (V.2.2.1 st 0)]) (st := []) mt_Pe_gatherPlayers lk_Pe_66 rfl (ob_Pe hV) (Nat.le_of_ble_eq_true rfl) ⟨Nat.le_of_ble_eq_true rfl, Nat.le_of_ble_eq_true rfl⟩ rfl d_Pe_rests_3 (c_Pe_gatherPlayers hV htx hst hq3) ?_
  refine g_iconst (pc := 6) hC kc_0 d_Pe_rests_6 ?_
  refine s_istore (pc := 7) hC (i := 5) (by decide) d_Pe_rests_7 (lv2 := [some (.ref (V.2.2.1 8 0)), some (.ref (V.2.2.1 tx 0)), some (.ref (V.2.2.1 st 0)), some (.int x3), some (.int x4), some (.int 0), none]) rfl ?_
  refine g_iconst (pc := 9) hC kc_0 d_Pe_rests_9 ?_
  refine s_istore (pc := 10) hC (i := 6) (by decide) d_Pe_rests_10 (lv2 := [some (.ref (V.2.2.1 8 0)), some (.ref (V.2.2.1 tx 0)), some (.ref (V.2.2.1 st 0)), some (.int x3), some (.int x4), some (.int 0), some (.int 0)]) rfl ?_
  exact w_Pe_rests_l12 hV htx hst hC 5000 x3 x4 0 0 q3 h
theorem c_Pe_rests {V : WV} {l : Launch} (hV : IsC V) {tx : Nat} {st : Nat} (htx : isTx tx) (hst : isSt st) {x3 : Int32} {x4 : Int32} {S : Mem} {z : Int32 × Mem} (h : f_Pe_rests tx st x3 x4 S = some z) : CI V l y_Pe_rests bc_Pe_rests 7 (some .int) 3 81 [.ref (V.2.2.1 8 0), .ref (V.2.2.1 tx 0), .ref (V.2.2.1 st 0), .int x3, .int x4] S z.1 z.2 :=
  ct_i rfl (IsC.ok hV) (Nat.le_of_ble_eq_true rfl) (fun _ _ hC => w_Pe_rests_b0 hV htx hst hC x3 x4 S h)
def f_Rn_choose_b7 (tx : Nat) (k7 : Int32 → Int32 → Mem → Option (Mem)) (x2 : Int32) (x3 : Int32) (S : Mem) : Option (Mem) :=
  if (S.1 tx 2) ≤ x3 then
    some S
  else
    if 4 ≤ (S.1 7 7) then
      some S
    else
      if ((x2 >>> (x3 &&& 31)) &&& 1) = 0 then
        k7 x2 (x3 + 1) S
      else
        gIn (S.1 7 7) 4 (letS (sA S 7 5 (S.1 7 7) x3) (fun S40 =>
        letS (pI S40 7 7 ((S40.1 7 7) + 1)) (fun S48 =>
        k7 x2 (x3 + 1) S48)))
def f_Rn_choose_l7 (tx : Nat) : Nat → Int32 → Int32 → Mem → Option (Mem)
  | 0 => fun _ _ _ => none
  | n + 1 => f_Rn_choose_b7 tx (f_Rn_choose_l7 tx n)
def f_Rn_choose_b0 (tx : Nat) (x2 : Int32) (S : Mem) : Option (Mem) :=
  letS (pI S 7 7 0) (fun S2 =>
  f_Rn_choose_l7 tx 5000 x2 0 S2)
def f_Rn_choose (tx : Nat) (x2 : Int32) (S : Mem) : Option (Mem) := f_Rn_choose_b0 tx x2 S
theorem d_Rn_choose_0 : decode bc_Rn_choose 0 = .ok (.aload_n 0, 1) := by decide +kernel
theorem d_Rn_choose_1 : decode bc_Rn_choose 1 = .ok (.iconst 0, 1) := by decide +kernel
theorem d_Rn_choose_2 : decode bc_Rn_choose 2 = .ok (.putfield 35, 3) := by decide +kernel
theorem d_Rn_choose_5 : decode bc_Rn_choose 5 = .ok (.iconst 0, 1) := by decide +kernel
theorem d_Rn_choose_6 : decode bc_Rn_choose 6 = .ok (.istore_n 3, 1) := by decide +kernel
theorem d_Rn_choose_7 : decode bc_Rn_choose 7 = .ok (.iload_n 3, 1) := by decide +kernel
theorem d_Rn_choose_8 : decode bc_Rn_choose 8 = .ok (.aload_n 1, 1) := by decide +kernel
theorem d_Rn_choose_9 : decode bc_Rn_choose 9 = .ok (.getfield 65, 3) := by decide +kernel
theorem d_Rn_choose_12 : decode bc_Rn_choose 12 = .ok (.if_icmp .ge 45, 3) := by decide +kernel
theorem d_Rn_choose_15 : decode bc_Rn_choose 15 = .ok (.aload_n 0, 1) := by decide +kernel
theorem d_Rn_choose_16 : decode bc_Rn_choose 16 = .ok (.getfield 35, 3) := by decide +kernel
theorem d_Rn_choose_19 : decode bc_Rn_choose 19 = .ok (.iconst 4, 1) := by decide +kernel
theorem d_Rn_choose_20 : decode bc_Rn_choose 20 = .ok (.if_icmp .ge 37, 3) := by decide +kernel
theorem d_Rn_choose_23 : decode bc_Rn_choose 23 = .ok (.iload_n 2, 1) := by decide +kernel
theorem d_Rn_choose_24 : decode bc_Rn_choose 24 = .ok (.iload_n 3, 1) := by decide +kernel
theorem d_Rn_choose_25 : decode bc_Rn_choose 25 = .ok (.ishr, 1) := by decide +kernel
theorem d_Rn_choose_26 : decode bc_Rn_choose 26 = .ok (.iconst 1, 1) := by decide +kernel
theorem d_Rn_choose_27 : decode bc_Rn_choose 27 = .ok (.iand, 1) := by decide +kernel
theorem d_Rn_choose_28 : decode bc_Rn_choose 28 = .ok (.ifCond .eq 23, 3) := by decide +kernel
theorem d_Rn_choose_31 : decode bc_Rn_choose 31 = .ok (.aload_n 0, 1) := by decide +kernel
theorem d_Rn_choose_32 : decode bc_Rn_choose 32 = .ok (.getfield 29, 3) := by decide +kernel
theorem d_Rn_choose_35 : decode bc_Rn_choose 35 = .ok (.aload_n 0, 1) := by decide +kernel
theorem d_Rn_choose_36 : decode bc_Rn_choose 36 = .ok (.getfield 35, 3) := by decide +kernel
theorem d_Rn_choose_39 : decode bc_Rn_choose 39 = .ok (.iload_n 3, 1) := by decide +kernel
theorem d_Rn_choose_40 : decode bc_Rn_choose 40 = .ok (.iastore, 1) := by decide +kernel
theorem d_Rn_choose_41 : decode bc_Rn_choose 41 = .ok (.aload_n 0, 1) := by decide +kernel
theorem d_Rn_choose_42 : decode bc_Rn_choose 42 = .ok (.dup, 1) := by decide +kernel
theorem d_Rn_choose_43 : decode bc_Rn_choose 43 = .ok (.getfield 35, 3) := by decide +kernel
theorem d_Rn_choose_46 : decode bc_Rn_choose 46 = .ok (.iconst 1, 1) := by decide +kernel
theorem d_Rn_choose_47 : decode bc_Rn_choose 47 = .ok (.iadd, 1) := by decide +kernel
theorem d_Rn_choose_48 : decode bc_Rn_choose 48 = .ok (.putfield 35, 3) := by decide +kernel
theorem d_Rn_choose_51 : decode bc_Rn_choose 51 = .ok (.iinc 3 1, 3) := by decide +kernel
theorem d_Rn_choose_54 : decode bc_Rn_choose 54 = .ok (.goto (-47), 3) := by decide +kernel
theorem d_Rn_choose_57 : decode bc_Rn_choose 57 = .ok (.return_, 1) := by decide +kernel
set_option maxRecDepth 20000 in
theorem w_Rn_choose_b7 {X : CX} {V : WV} {tx : Nat} (hV : IsC V) (htx : isTx tx) {z : Mem} (hC : Ck X V bc_Rn_choose 4 "SecretWells$Rain" none 0 0) (k7 : Int32 → Int32 → Mem → Option (Mem)) (hk7 : ∀ (x2 : Int32) (x3 : Int32) (S : Mem), k7 x2 x3 S = some z → G X V 4 (QV X V z) 7 [some (.ref (V.2.2.1 7 0)), some (.ref (V.2.2.1 tx 0)), some (.int x2), some (.int x3)] [] S) (x2 : Int32) (x3 : Int32) (S : Mem) (h : f_Rn_choose_b7 tx k7 x2 x3 S = some z) : G X V 4 (QV X V z) 7 [some (.ref (V.2.2.1 7 0)), some (.ref (V.2.2.1 tx 0)), some (.int x2), some (.int x3)] [] S := by
  unfold f_Rn_choose_b7 at h
  refine g_iload_n (pc := 7) hC (i := 3) (x := x3) rfl rfl d_Rn_choose_7 ?_
  refine g_aload_n (pc := 8) hC (i := 1) (x := (V.2.2.1 tx 0)) rfl rfl d_Rn_choose_8 ?_
  refine g_getI (pc := 9) hC fo_Rn_65 (ob_Tx hV htx) rfl d_Rn_choose_9 ?_
  refine g_icmp_ge (pc := 12) hC (tgt := 57) (by decide) d_Rn_choose_12 h (fun h => ?_) (fun h => ?_)
  · exact g_vW (pc := 57) hC d_Rn_choose_57 h
  · refine g_aload_n (pc := 15) hC (i := 0) (x := (V.2.2.1 7 0)) rfl rfl d_Rn_choose_15 ?_
    refine g_getI (pc := 16) hC fo_Rn_35 (ob_Rn hV) rfl d_Rn_choose_16 ?_
    refine g_iconst (pc := 19) hC kc_4 d_Rn_choose_19 ?_
    refine g_icmp_ge (pc := 20) hC (tgt := 57) (by decide) d_Rn_choose_20 h (fun h => ?_) (fun h => ?_)
    · exact g_vW (pc := 57) hC d_Rn_choose_57 h
    · refine g_iload_n (pc := 23) hC (i := 2) (x := x2) rfl rfl d_Rn_choose_23 ?_
      refine g_iload_n (pc := 24) hC (i := 3) (x := x3) rfl rfl d_Rn_choose_24 ?_
      refine g_ishr (pc := 25) hC d_Rn_choose_25 ?_
      refine g_iconst (pc := 26) hC kc_1 d_Rn_choose_26 ?_
      refine g_iand (pc := 27) hC d_Rn_choose_27 ?_
      refine g_if_eq (pc := 28) hC (tgt := 51) (by decide) d_Rn_choose_28 h (fun h => ?_) (fun h => ?_)
      · refine s_iinc (pc := 51) hC (i := 3) (x := x3) (v := x3 + 1) rfl (by rw [kc_1]) (by decide) d_Rn_choose_51 (lv2 := [some (.ref (V.2.2.1 7 0)), some (.ref (V.2.2.1 tx 0)), some (.int x2), some (.int (x3 + 1))]) rfl ?_
        refine g_goto (pc := 54) hC (tgt := 7) (by decide) d_Rn_choose_54 ?_
        exact hk7 x2 (x3 + 1) S h
      · refine g_aload_n (pc := 31) hC (i := 0) (x := (V.2.2.1 7 0)) rfl rfl d_Rn_choose_31 ?_
        refine g_getA (pc := 32) hC fo_Rn_29 (ob_Rn hV) rfl d_Rn_choose_32 ?_
        refine g_aload_n (pc := 35) hC (i := 0) (x := (V.2.2.1 7 0)) rfl rfl d_Rn_choose_35 ?_
        refine g_getI (pc := 36) hC fo_Rn_35 (ob_Rn hV) rfl d_Rn_choose_36 ?_
        refine g_iload_n (pc := 39) hC (i := 3) (x := x3) rfl rfl d_Rn_choose_39 ?_
        refine g_iast (pc := 40) hC (ar_Rn_5 hV) d_Rn_choose_40 h (fun h => ?_)
        refine g_letS h (fun S40 h => ?_)
        refine g_aload_n (pc := 41) hC (i := 0) (x := (V.2.2.1 7 0)) rfl rfl d_Rn_choose_41 ?_
        refine g_dup (pc := 42) hC rfl d_Rn_choose_42 ?_
        refine g_getI (pc := 43) hC fo_Rn_35 (ob_Rn hV) rfl d_Rn_choose_43 ?_
        refine g_iconst (pc := 46) hC kc_1 d_Rn_choose_46 ?_
        refine g_iadd (pc := 47) hC d_Rn_choose_47 ?_
        refine g_putI (pc := 48) hC po_Rn_35 (ob_Rn hV) rfl rfl rfl d_Rn_choose_48 ?_
        refine g_letS h (fun S48 h => ?_)
        refine s_iinc (pc := 51) hC (i := 3) (x := x3) (v := x3 + 1) rfl (by rw [kc_1]) (by decide) d_Rn_choose_51 (lv2 := [some (.ref (V.2.2.1 7 0)), some (.ref (V.2.2.1 tx 0)), some (.int x2), some (.int (x3 + 1))]) rfl ?_
        refine g_goto (pc := 54) hC (tgt := 7) (by decide) d_Rn_choose_54 ?_
        exact hk7 x2 (x3 + 1) S48 h
theorem w_Rn_choose_l7 {X : CX} {V : WV} {tx : Nat} (hV : IsC V) (htx : isTx tx) {z : Mem} (hC : Ck X V bc_Rn_choose 4 "SecretWells$Rain" none 0 0) : ∀ (n : Nat) (x2 : Int32) (x3 : Int32) (S : Mem), f_Rn_choose_l7 tx n x2 x3 S = some z → G X V 4 (QV X V z) 7 [some (.ref (V.2.2.1 7 0)), some (.ref (V.2.2.1 tx 0)), some (.int x2), some (.int x3)] [] S := by
  intro n
  induction n with
  | zero =>
    intro x2 x3 S h
    have h : (none : Option (Mem)) = some z := h
    cases h
  | succ n ih =>
    intro x2 x3 S h
    exact w_Rn_choose_b7 hV htx hC (f_Rn_choose_l7 tx n) ih x2 x3 S h
set_option maxRecDepth 20000 in
theorem w_Rn_choose_b0 {X : CX} {V : WV} {tx : Nat} (hV : IsC V) (htx : isTx tx) {z : Mem} (hC : Ck X V bc_Rn_choose 4 "SecretWells$Rain" none 0 0) (x2 : Int32) (S : Mem) (h : f_Rn_choose_b0 tx x2 S = some z) : G X V 4 (QV X V z) 0 [some (.ref (V.2.2.1 7 0)), some (.ref (V.2.2.1 tx 0)), some (.int x2), none] [] S := by
  unfold f_Rn_choose_b0 at h
  refine g_aload_n (pc := 0) hC (i := 0) (x := (V.2.2.1 7 0)) rfl rfl d_Rn_choose_0 ?_
  refine g_iconst (pc := 1) hC kc_0 d_Rn_choose_1 ?_
  refine g_putI (pc := 2) hC po_Rn_35 (ob_Rn hV) rfl rfl rfl d_Rn_choose_2 ?_
  refine g_letS h (fun S2 h => ?_)
  refine g_iconst (pc := 5) hC kc_0 d_Rn_choose_5 ?_
  refine s_istore_n (pc := 6) hC (i := 3) rfl (by decide) d_Rn_choose_6 (lv2 := [some (.ref (V.2.2.1 7 0)), some (.ref (V.2.2.1 tx 0)), some (.int x2), some (.int 0)]) rfl ?_
  exact w_Rn_choose_l7 hV htx hC 5000 x2 0 S2 h
theorem c_Rn_choose {V : WV} {l : Launch} (hV : IsC V) {tx : Nat} (htx : isTx tx) {x2 : Int32} {S : Mem} {z : Mem} (h : f_Rn_choose tx x2 S = some z) : CV V l y_Rn_choose bc_Rn_choose 4 none 0 0 [.ref (V.2.2.1 7 0), .ref (V.2.2.1 tx 0), .int x2] S z :=
  ct_v rfl (IsC.ok hV) (Nat.le_of_ble_eq_true rfl) (fun _ _ hC => w_Rn_choose_b0 hV htx hC x2 S h)
def f_Rn_isOfUse_b19 (tx : Nat) (st : Nat) (S : Mem) (x2 : Int32) (x3 : Int32) (s0 : Int32) : Option (Int32) :=
  if s0 = 0 then
    some 0
  else
    Option.bind (f_Tx_isLie tx x2 S) (fun q28 =>
    if q28 = 0 then
      gIn x2 8 (
      if (S.2.1 st 8 x2.toNatClampNeg) = x3 then
        some 0
      else
        some 1)
    else
      some 0)
def f_Rn_isOfUse_b0 (tx : Nat) (st : Nat) (S : Mem) (x2 : Int32) (x3 : Int32) : Option (Int32) :=
  Option.bind (f_St_knowers st tx x2 S) (fun q3 =>
  if (q3 &&& (S.1 st 1)) = 0 then
    f_Rn_isOfUse_b19 tx st S x2 x3 0
  else
    f_Rn_isOfUse_b19 tx st S x2 x3 1)
def f_Rn_isOfUse (tx : Nat) (st : Nat) (x2 : Int32) (x3 : Int32) (S : Mem) : Option (Int32) := f_Rn_isOfUse_b0 tx st S x2 x3
theorem d_Rn_isOfUse_0 : decode bc_Rn_isOfUse 0 = .ok (.aload_n 1, 1) := by decide +kernel
theorem d_Rn_isOfUse_1 : decode bc_Rn_isOfUse 1 = .ok (.aload_n 0, 1) := by decide +kernel
theorem d_Rn_isOfUse_2 : decode bc_Rn_isOfUse 2 = .ok (.iload_n 2, 1) := by decide +kernel
theorem d_Rn_isOfUse_3 : decode bc_Rn_isOfUse 3 = .ok (.invokevirtual 72, 3) := by decide +kernel
theorem d_Rn_isOfUse_6 : decode bc_Rn_isOfUse 6 = .ok (.aload_n 1, 1) := by decide +kernel
theorem d_Rn_isOfUse_7 : decode bc_Rn_isOfUse 7 = .ok (.getfield 78, 3) := by decide +kernel
theorem d_Rn_isOfUse_10 : decode bc_Rn_isOfUse 10 = .ok (.iand, 1) := by decide +kernel
theorem d_Rn_isOfUse_11 : decode bc_Rn_isOfUse 11 = .ok (.ifCond .eq 7, 3) := by decide +kernel
theorem d_Rn_isOfUse_14 : decode bc_Rn_isOfUse 14 = .ok (.iconst 1, 1) := by decide +kernel
theorem d_Rn_isOfUse_15 : decode bc_Rn_isOfUse 15 = .ok (.goto 4, 3) := by decide +kernel
theorem d_Rn_isOfUse_18 : decode bc_Rn_isOfUse 18 = .ok (.iconst 0, 1) := by decide +kernel
theorem d_Rn_isOfUse_19 : decode bc_Rn_isOfUse 19 = .ok (.istore 4, 2) := by decide +kernel
theorem d_Rn_isOfUse_21 : decode bc_Rn_isOfUse 21 = .ok (.iload 4, 2) := by decide +kernel
theorem d_Rn_isOfUse_23 : decode bc_Rn_isOfUse 23 = .ok (.ifCond .eq 25, 3) := by decide +kernel
theorem d_Rn_isOfUse_26 : decode bc_Rn_isOfUse 26 = .ok (.aload_n 0, 1) := by decide +kernel
theorem d_Rn_isOfUse_27 : decode bc_Rn_isOfUse 27 = .ok (.iload_n 2, 1) := by decide +kernel
theorem d_Rn_isOfUse_28 : decode bc_Rn_isOfUse 28 = .ok (.invokevirtual 81, 3) := by decide +kernel
theorem d_Rn_isOfUse_31 : decode bc_Rn_isOfUse 31 = .ok (.ifCond .ne 17, 3) := by decide +kernel
theorem d_Rn_isOfUse_34 : decode bc_Rn_isOfUse 34 = .ok (.aload_n 1, 1) := by decide +kernel
theorem d_Rn_isOfUse_35 : decode bc_Rn_isOfUse 35 = .ok (.getfield 85, 3) := by decide +kernel
theorem d_Rn_isOfUse_38 : decode bc_Rn_isOfUse 38 = .ok (.iload_n 2, 1) := by decide +kernel
theorem d_Rn_isOfUse_39 : decode bc_Rn_isOfUse 39 = .ok (.iaload, 1) := by decide +kernel
theorem d_Rn_isOfUse_40 : decode bc_Rn_isOfUse 40 = .ok (.iload_n 3, 1) := by decide +kernel
theorem d_Rn_isOfUse_41 : decode bc_Rn_isOfUse 41 = .ok (.if_icmp .eq 7, 3) := by decide +kernel
theorem d_Rn_isOfUse_44 : decode bc_Rn_isOfUse 44 = .ok (.iconst 1, 1) := by decide +kernel
theorem d_Rn_isOfUse_45 : decode bc_Rn_isOfUse 45 = .ok (.goto 4, 3) := by decide +kernel
theorem d_Rn_isOfUse_48 : decode bc_Rn_isOfUse 48 = .ok (.iconst 0, 1) := by decide +kernel
theorem d_Rn_isOfUse_49 : decode bc_Rn_isOfUse 49 = .ok (.ireturn, 1) := by decide +kernel
set_option maxRecDepth 20000 in
theorem w_Rn_isOfUse_b19 {X : CX} {V : WV} {tx : Nat} {st : Nat} (hV : IsC V) (htx : isTx tx) (hst : isSt st) {S : Mem} {z : Int32} (hC : Ck X V bc_Rn_isOfUse 5 "SecretWells$Rain" (some .boolean) 1 24) (x2 : Int32) (x3 : Int32) (s0 : Int32) (h : f_Rn_isOfUse_b19 tx st S x2 x3 s0 = some z) : G X V 5 (QI X V z S) 19 [some (.ref (V.2.2.1 tx 0)), some (.ref (V.2.2.1 st 0)), some (.int x2), some (.int x3), none] [.int s0] S := by
  unfold f_Rn_isOfUse_b19 at h
  refine s_istore (pc := 19) hC (i := 4) (by decide) d_Rn_isOfUse_19 (lv2 := [some (.ref (V.2.2.1 tx 0)), some (.ref (V.2.2.1 st 0)), some (.int x2), some (.int x3), some (.int s0)]) rfl ?_
  refine g_iload (pc := 21) hC (i := 4) (x := s0) rfl d_Rn_isOfUse_21 ?_
  refine g_if_eq (pc := 23) hC (tgt := 48) (by decide) d_Rn_isOfUse_23 h (fun h => ?_) (fun h => ?_)
  · refine g_iconst (pc := 48) hC kc_0 d_Rn_isOfUse_48 ?_
    exact g_iN (pc := 49) hC rfl d_Rn_isOfUse_49 h
  · refine g_aload_n (pc := 26) hC (i := 0) (x := (V.2.2.1 tx 0)) rfl rfl d_Rn_isOfUse_26 ?_
    refine g_iload_n (pc := 27) hC (i := 2) (x := x2) rfl rfl d_Rn_isOfUse_27 ?_
    obtain ⟨q28, hq28, h⟩ := Option.bind_eq_some_iff.mp h
    refine g_vi (pc := 28) hC (As := [.int x2]) (st := []) mt_Tx_isLie lk_Rn_81 rfl (ob_Tx hV htx) (Nat.le_of_ble_eq_true rfl) ⟨Nat.le_of_ble_eq_true rfl, Nat.le_of_ble_eq_true rfl⟩ rfl d_Rn_isOfUse_28 (c_Tx_isLie hV htx hq28) ?_
    refine g_if_ne (pc := 31) hC (tgt := 48) (by decide) d_Rn_isOfUse_31 h (fun h => ?_) (fun h => ?_)
    · refine g_iconst (pc := 48) hC kc_0 d_Rn_isOfUse_48 ?_
      exact g_iN (pc := 49) hC rfl d_Rn_isOfUse_49 h
    · refine g_aload_n (pc := 34) hC (i := 1) (x := (V.2.2.1 st 0)) rfl rfl d_Rn_isOfUse_34 ?_
      refine g_getA (pc := 35) hC fo_Rn_85 (ob_St hV hst) rfl d_Rn_isOfUse_35 ?_
      refine g_iload_n (pc := 38) hC (i := 2) (x := x2) rfl rfl d_Rn_isOfUse_38 ?_
      refine g_iald (pc := 39) hC (ar_St_8 hV hst) d_Rn_isOfUse_39 h (fun h => ?_)
      refine g_iload_n (pc := 40) hC (i := 3) (x := x3) rfl rfl d_Rn_isOfUse_40 ?_
      refine g_icmp_eq (pc := 41) hC (tgt := 48) (by decide) d_Rn_isOfUse_41 h (fun h => ?_) (fun h => ?_)
      · refine g_iconst (pc := 48) hC kc_0 d_Rn_isOfUse_48 ?_
        exact g_iN (pc := 49) hC rfl d_Rn_isOfUse_49 h
      · refine g_iconst (pc := 44) hC kc_1 d_Rn_isOfUse_44 ?_
        refine g_goto (pc := 45) hC (tgt := 49) (by decide) d_Rn_isOfUse_45 ?_
        exact g_iN (pc := 49) hC rfl d_Rn_isOfUse_49 h
set_option maxRecDepth 20000 in
theorem w_Rn_isOfUse_b0 {X : CX} {V : WV} {tx : Nat} {st : Nat} (hV : IsC V) (htx : isTx tx) (hst : isSt st) {S : Mem} {z : Int32} (hC : Ck X V bc_Rn_isOfUse 5 "SecretWells$Rain" (some .boolean) 1 24) (x2 : Int32) (x3 : Int32) (h : f_Rn_isOfUse_b0 tx st S x2 x3 = some z) : G X V 5 (QI X V z S) 0 [some (.ref (V.2.2.1 tx 0)), some (.ref (V.2.2.1 st 0)), some (.int x2), some (.int x3), none] [] S := by
  unfold f_Rn_isOfUse_b0 at h
  refine g_aload_n (pc := 0) hC (i := 1) (x := (V.2.2.1 st 0)) rfl rfl d_Rn_isOfUse_0 ?_
  refine g_aload_n (pc := 1) hC (i := 0) (x := (V.2.2.1 tx 0)) rfl rfl d_Rn_isOfUse_1 ?_
  refine g_iload_n (pc := 2) hC (i := 2) (x := x2) rfl rfl d_Rn_isOfUse_2 ?_
  obtain ⟨q3, hq3, h⟩ := Option.bind_eq_some_iff.mp h
  refine g_vi (pc := 3) hC (As := [.ref (V.2.2.1 tx 0), .int x2]) (st := []) mt_St_knowers lk_Rn_72 rfl (ob_St hV hst) (Nat.le_of_ble_eq_true rfl) ⟨Nat.le_of_ble_eq_true rfl, Nat.le_of_ble_eq_true rfl⟩ rfl d_Rn_isOfUse_3 (c_St_knowers hV hst htx hq3) ?_
  refine g_aload_n (pc := 6) hC (i := 1) (x := (V.2.2.1 st 0)) rfl rfl d_Rn_isOfUse_6 ?_
  refine g_getI (pc := 7) hC fo_Rn_78 (ob_St hV hst) rfl d_Rn_isOfUse_7 ?_
  refine g_iand (pc := 10) hC d_Rn_isOfUse_10 ?_
  refine g_if_eq (pc := 11) hC (tgt := 18) (by decide) d_Rn_isOfUse_11 h (fun h => ?_) (fun h => ?_)
  · refine g_iconst (pc := 18) hC kc_0 d_Rn_isOfUse_18 ?_
    exact w_Rn_isOfUse_b19 hV htx hst hC x2 x3 0 h
  · refine g_iconst (pc := 14) hC kc_1 d_Rn_isOfUse_14 ?_
    refine g_goto (pc := 15) hC (tgt := 19) (by decide) d_Rn_isOfUse_15 ?_
    exact w_Rn_isOfUse_b19 hV htx hst hC x2 x3 1 h
theorem c_Rn_isOfUse {V : WV} {l : Launch} (hV : IsC V) {tx : Nat} {st : Nat} (htx : isTx tx) (hst : isSt st) {x2 : Int32} {x3 : Int32} {S : Mem} {z : Int32} (h : f_Rn_isOfUse tx st x2 x3 S = some z) : CI V l y_Rn_isOfUse bc_Rn_isOfUse 5 (some .boolean) 1 24 [.ref (V.2.2.1 tx 0), .ref (V.2.2.1 st 0), .int x2, .int x3] S z S :=
  ct_i rfl (IsC.ok hV) (Nat.le_of_ble_eq_true rfl) (fun _ _ hC => w_Rn_isOfUse_b0 hV htx hst hC x2 x3 h)
def f_Rn_isLaid_b63 (tx : Nat) (st : Nat) (k19 : Int32 → Int32 → Int32 → Mem → Option (Int32 × Mem)) (x4 : Int32) (x5 : Int32) (x6 : Int32) (x7 : Int32) (s0 : Int32) (s1 : Int32) (S : Mem) : Option (Int32 × Mem) :=
  gIn s1 4 (letS (sA S 7 6 s1 s0) (fun S63 =>
  if x7 ≤ 0 then
    k19 x4 x5 (x6 + (-1)) S63
  else
    gIn x6 4 (
    Option.bind (f_Rn_isOfUse tx st (S63.2.1 7 5 x6.toNatClampNeg) (x7 - 1) S63) (fun q82 =>
    if q82 = 0 then
      some (0, S63)
    else
      k19 x4 x5 (x6 + (-1)) S63))))
def f_Rn_isLaid_b19 (tx : Nat) (st : Nat) (k19 : Int32 → Int32 → Int32 → Mem → Option (Int32 × Mem)) (x4 : Int32) (x5 : Int32) (x6 : Int32) (S : Mem) : Option (Int32 × Mem) :=
  if x6 < 0 then
    some (1, S)
  else
    if x4 ≤ 0 then
      some (1, S)
    else
      gNz x4 (
      letS (x5 - x5 / x4 * x4) (fun y34 =>
      gNz x4 (
      letS (x5 / x4) (fun y41 =>
      if y34 = 0 then
        f_Rn_isLaid_b63 tx st k19 x4 y41 x6 y34 (-3) x6 S
      else
        f_Rn_isLaid_b63 tx st k19 x4 y41 x6 y34 (y34 - 1) x6 S))))
def f_Rn_isLaid_l19 (tx : Nat) (st : Nat) : Nat → Int32 → Int32 → Int32 → Mem → Option (Int32 × Mem)
  | 0 => fun _ _ _ _ => none
  | n + 1 => f_Rn_isLaid_b19 tx st (f_Rn_isLaid_l19 tx st n)
def f_Rn_isLaid_b0 (tx : Nat) (st : Nat) (x3 : Int32) (S : Mem) : Option (Int32 × Mem) :=
  letS ((S.1 tx 0) + 1) (fun y6 =>
  letS ((S.1 7 7) - 1) (fun y17 =>
  f_Rn_isLaid_l19 tx st 5000 y6 x3 y17 S))
def f_Rn_isLaid (tx : Nat) (st : Nat) (x3 : Int32) (S : Mem) : Option (Int32 × Mem) := f_Rn_isLaid_b0 tx st x3 S
theorem d_Rn_isLaid_0 : decode bc_Rn_isLaid 0 = .ok (.aload_n 1, 1) := by decide +kernel
theorem d_Rn_isLaid_1 : decode bc_Rn_isLaid 1 = .ok (.getfield 48, 3) := by decide +kernel
theorem d_Rn_isLaid_4 : decode bc_Rn_isLaid 4 = .ok (.iconst 1, 1) := by decide +kernel
theorem d_Rn_isLaid_5 : decode bc_Rn_isLaid 5 = .ok (.iadd, 1) := by decide +kernel
theorem d_Rn_isLaid_6 : decode bc_Rn_isLaid 6 = .ok (.istore 4, 2) := by decide +kernel
theorem d_Rn_isLaid_8 : decode bc_Rn_isLaid 8 = .ok (.iload_n 3, 1) := by decide +kernel
theorem d_Rn_isLaid_9 : decode bc_Rn_isLaid 9 = .ok (.istore 5, 2) := by decide +kernel
theorem d_Rn_isLaid_11 : decode bc_Rn_isLaid 11 = .ok (.aload_n 0, 1) := by decide +kernel
theorem d_Rn_isLaid_12 : decode bc_Rn_isLaid 12 = .ok (.getfield 35, 3) := by decide +kernel
theorem d_Rn_isLaid_15 : decode bc_Rn_isLaid 15 = .ok (.iconst 1, 1) := by decide +kernel
theorem d_Rn_isLaid_16 : decode bc_Rn_isLaid 16 = .ok (.isub, 1) := by decide +kernel
theorem d_Rn_isLaid_17 : decode bc_Rn_isLaid 17 = .ok (.istore 6, 2) := by decide +kernel
theorem d_Rn_isLaid_19 : decode bc_Rn_isLaid 19 = .ok (.iload 6, 2) := by decide +kernel
theorem d_Rn_isLaid_21 : decode bc_Rn_isLaid 21 = .ok (.ifCond .lt 75, 3) := by decide +kernel
theorem d_Rn_isLaid_24 : decode bc_Rn_isLaid 24 = .ok (.iload 4, 2) := by decide +kernel
theorem d_Rn_isLaid_26 : decode bc_Rn_isLaid 26 = .ok (.ifCond .le 70, 3) := by decide +kernel
theorem d_Rn_isLaid_29 : decode bc_Rn_isLaid 29 = .ok (.iload 5, 2) := by decide +kernel
theorem d_Rn_isLaid_31 : decode bc_Rn_isLaid 31 = .ok (.iload 4, 2) := by decide +kernel
theorem d_Rn_isLaid_33 : decode bc_Rn_isLaid 33 = .ok (.irem, 1) := by decide +kernel
theorem d_Rn_isLaid_34 : decode bc_Rn_isLaid 34 = .ok (.istore 7, 2) := by decide +kernel
theorem d_Rn_isLaid_36 : decode bc_Rn_isLaid 36 = .ok (.iload 5, 2) := by decide +kernel
theorem d_Rn_isLaid_38 : decode bc_Rn_isLaid 38 = .ok (.iload 4, 2) := by decide +kernel
theorem d_Rn_isLaid_40 : decode bc_Rn_isLaid 40 = .ok (.idiv, 1) := by decide +kernel
theorem d_Rn_isLaid_41 : decode bc_Rn_isLaid 41 = .ok (.istore 5, 2) := by decide +kernel
theorem d_Rn_isLaid_43 : decode bc_Rn_isLaid 43 = .ok (.aload_n 0, 1) := by decide +kernel
theorem d_Rn_isLaid_44 : decode bc_Rn_isLaid 44 = .ok (.getfield 32, 3) := by decide +kernel
theorem d_Rn_isLaid_47 : decode bc_Rn_isLaid 47 = .ok (.iload 6, 2) := by decide +kernel
theorem d_Rn_isLaid_49 : decode bc_Rn_isLaid 49 = .ok (.iload 7, 2) := by decide +kernel
theorem d_Rn_isLaid_51 : decode bc_Rn_isLaid 51 = .ok (.ifCond .ne 8, 3) := by decide +kernel
theorem d_Rn_isLaid_54 : decode bc_Rn_isLaid 54 = .ok (.bipush (-3), 2) := by decide +kernel
theorem d_Rn_isLaid_56 : decode bc_Rn_isLaid 56 = .ok (.goto 7, 3) := by decide +kernel
theorem d_Rn_isLaid_59 : decode bc_Rn_isLaid 59 = .ok (.iload 7, 2) := by decide +kernel
theorem d_Rn_isLaid_61 : decode bc_Rn_isLaid 61 = .ok (.iconst 1, 1) := by decide +kernel
theorem d_Rn_isLaid_62 : decode bc_Rn_isLaid 62 = .ok (.isub, 1) := by decide +kernel
theorem d_Rn_isLaid_63 : decode bc_Rn_isLaid 63 = .ok (.iastore, 1) := by decide +kernel
theorem d_Rn_isLaid_64 : decode bc_Rn_isLaid 64 = .ok (.iload 7, 2) := by decide +kernel
theorem d_Rn_isLaid_66 : decode bc_Rn_isLaid 66 = .ok (.ifCond .le 24, 3) := by decide +kernel
theorem d_Rn_isLaid_69 : decode bc_Rn_isLaid 69 = .ok (.aload_n 1, 1) := by decide +kernel
theorem d_Rn_isLaid_70 : decode bc_Rn_isLaid 70 = .ok (.aload_n 2, 1) := by decide +kernel
theorem d_Rn_isLaid_71 : decode bc_Rn_isLaid 71 = .ok (.aload_n 0, 1) := by decide +kernel
theorem d_Rn_isLaid_72 : decode bc_Rn_isLaid 72 = .ok (.getfield 29, 3) := by decide +kernel
theorem d_Rn_isLaid_75 : decode bc_Rn_isLaid 75 = .ok (.iload 6, 2) := by decide +kernel
theorem d_Rn_isLaid_77 : decode bc_Rn_isLaid 77 = .ok (.iaload, 1) := by decide +kernel
theorem d_Rn_isLaid_78 : decode bc_Rn_isLaid 78 = .ok (.iload 7, 2) := by decide +kernel
theorem d_Rn_isLaid_80 : decode bc_Rn_isLaid 80 = .ok (.iconst 1, 1) := by decide +kernel
theorem d_Rn_isLaid_81 : decode bc_Rn_isLaid 81 = .ok (.isub, 1) := by decide +kernel
theorem d_Rn_isLaid_82 : decode bc_Rn_isLaid 82 = .ok (.invokestatic 68, 3) := by decide +kernel
theorem d_Rn_isLaid_85 : decode bc_Rn_isLaid 85 = .ok (.ifCond .ne 5, 3) := by decide +kernel
theorem d_Rn_isLaid_88 : decode bc_Rn_isLaid 88 = .ok (.iconst 0, 1) := by decide +kernel
theorem d_Rn_isLaid_89 : decode bc_Rn_isLaid 89 = .ok (.ireturn, 1) := by decide +kernel
theorem d_Rn_isLaid_90 : decode bc_Rn_isLaid 90 = .ok (.iinc 6 (-1), 3) := by decide +kernel
theorem d_Rn_isLaid_93 : decode bc_Rn_isLaid 93 = .ok (.goto (-74), 3) := by decide +kernel
theorem d_Rn_isLaid_96 : decode bc_Rn_isLaid 96 = .ok (.iconst 1, 1) := by decide +kernel
theorem d_Rn_isLaid_97 : decode bc_Rn_isLaid 97 = .ok (.ireturn, 1) := by decide +kernel
set_option maxRecDepth 20000 in
theorem w_Rn_isLaid_b63 {X : CX} {V : WV} {tx : Nat} {st : Nat} (hV : IsC V) (htx : isTx tx) (hst : isSt st) {z : Int32 × Mem} (hC : Ck X V bc_Rn_isLaid 8 "SecretWells$Rain" (some .boolean) 2 48) (k19 : Int32 → Int32 → Int32 → Mem → Option (Int32 × Mem)) (hk19 : ∀ (x4 : Int32) (x5 : Int32) (x6 : Int32) (S : Mem), k19 x4 x5 x6 S = some z → G X V 8 (QI X V z.1 z.2) 19 [some (.ref (V.2.2.1 7 0)), some (.ref (V.2.2.1 tx 0)), some (.ref (V.2.2.1 st 0)), none, some (.int x4), some (.int x5), some (.int x6), none] [] S) (x4 : Int32) (x5 : Int32) (x6 : Int32) (x7 : Int32) (s0 : Int32) (s1 : Int32) (S : Mem) (h : f_Rn_isLaid_b63 tx st k19 x4 x5 x6 x7 s0 s1 S = some z) : G X V 8 (QI X V z.1 z.2) 63 [some (.ref (V.2.2.1 7 0)), some (.ref (V.2.2.1 tx 0)), some (.ref (V.2.2.1 st 0)), none, some (.int x4), some (.int x5), some (.int x6), some (.int x7)] [.int s0, .int s1, .ref (V.2.2.1 7 (6 + 1))] S := by
  unfold f_Rn_isLaid_b63 at h
  refine g_iast (pc := 63) hC (ar_Rn_6 hV) d_Rn_isLaid_63 h (fun h => ?_)
  refine g_letS h (fun S63 h => ?_)
  refine g_iload (pc := 64) hC (i := 7) (x := x7) rfl d_Rn_isLaid_64 ?_
  refine g_if_le (pc := 66) hC (tgt := 90) (by decide) d_Rn_isLaid_66 h (fun h => ?_) (fun h => ?_)
  · refine s_iinc (pc := 90) hC (i := 6) (x := x6) (v := x6 + (-1)) rfl (by rw [kc_m1]) (by decide) d_Rn_isLaid_90 (lv2 := [some (.ref (V.2.2.1 7 0)), some (.ref (V.2.2.1 tx 0)), some (.ref (V.2.2.1 st 0)), none, some (.int x4), some (.int x5), some (.int (x6 + (-1))), some (.int x7)]) rfl ?_
    refine g_goto (pc := 93) hC (tgt := 19) (by decide) d_Rn_isLaid_93 ?_
    refine g_le (lv2 := [some (.ref (V.2.2.1 7 0)), some (.ref (V.2.2.1 tx 0)), some (.ref (V.2.2.1 st 0)), none, some (.int x4), some (.int x5), some (.int (x6 + (-1))), none]) (⟨rfl, ⟨rfl, ⟨rfl, ⟨rfl, ⟨rfl, ⟨rfl, trivial⟩⟩⟩⟩⟩⟩) ?_
    exact hk19 x4 x5 (x6 + (-1)) S63 h
  · refine g_aload_n (pc := 69) hC (i := 1) (x := (V.2.2.1 tx 0)) rfl rfl d_Rn_isLaid_69 ?_
    refine g_aload_n (pc := 70) hC (i := 2) (x := (V.2.2.1 st 0)) rfl rfl d_Rn_isLaid_70 ?_
    refine g_aload_n (pc := 71) hC (i := 0) (x := (V.2.2.1 7 0)) rfl rfl d_Rn_isLaid_71 ?_
    refine g_getA (pc := 72) hC fo_Rn_29 (ob_Rn hV) rfl d_Rn_isLaid_72 ?_
    refine g_iload (pc := 75) hC (i := 6) (x := x6) rfl d_Rn_isLaid_75 ?_
    refine g_iald (pc := 77) hC (ar_Rn_5 hV) d_Rn_isLaid_77 h (fun h => ?_)
    refine g_iload (pc := 78) hC (i := 7) (x := x7) rfl d_Rn_isLaid_78 ?_
    refine g_iconst (pc := 80) hC kc_1 d_Rn_isLaid_80 ?_
    refine g_isub (pc := 81) hC d_Rn_isLaid_81 ?_
    obtain ⟨q82, hq82, h⟩ := Option.bind_eq_some_iff.mp h
    refine g_si (pc := 82) hC (As := [.ref (V.2.2.1 tx 0), .ref (V.2.2.1 st 0), .int (S63.2.1 7 5 x6.toNatClampNeg), .int (x7 - 1)]) (st := []) mt_Rn_isOfUse lk_Rn_68 (Nat.le_of_ble_eq_true rfl) ⟨Nat.le_of_ble_eq_true rfl, Nat.le_of_ble_eq_true rfl⟩ rfl d_Rn_isLaid_82 (c_Rn_isOfUse hV htx hst hq82) ?_
    refine g_if_ne (pc := 85) hC (tgt := 90) (by decide) d_Rn_isLaid_85 h (fun h => ?_) (fun h => ?_)
    · refine s_iinc (pc := 90) hC (i := 6) (x := x6) (v := x6 + (-1)) rfl (by rw [kc_m1]) (by decide) d_Rn_isLaid_90 (lv2 := [some (.ref (V.2.2.1 7 0)), some (.ref (V.2.2.1 tx 0)), some (.ref (V.2.2.1 st 0)), none, some (.int x4), some (.int x5), some (.int (x6 + (-1))), some (.int x7)]) rfl ?_
      refine g_goto (pc := 93) hC (tgt := 19) (by decide) d_Rn_isLaid_93 ?_
      refine g_le (lv2 := [some (.ref (V.2.2.1 7 0)), some (.ref (V.2.2.1 tx 0)), some (.ref (V.2.2.1 st 0)), none, some (.int x4), some (.int x5), some (.int (x6 + (-1))), none]) (⟨rfl, ⟨rfl, ⟨rfl, ⟨rfl, ⟨rfl, ⟨rfl, trivial⟩⟩⟩⟩⟩⟩) ?_
      exact hk19 x4 x5 (x6 + (-1)) S63 h
    · refine g_iconst (pc := 88) hC kc_0 d_Rn_isLaid_88 ?_
      exact g_iW (pc := 89) hC rfl d_Rn_isLaid_89 h
set_option maxRecDepth 20000 in
theorem w_Rn_isLaid_b19 {X : CX} {V : WV} {tx : Nat} {st : Nat} (hV : IsC V) (htx : isTx tx) (hst : isSt st) {z : Int32 × Mem} (hC : Ck X V bc_Rn_isLaid 8 "SecretWells$Rain" (some .boolean) 2 48) (k19 : Int32 → Int32 → Int32 → Mem → Option (Int32 × Mem)) (hk19 : ∀ (x4 : Int32) (x5 : Int32) (x6 : Int32) (S : Mem), k19 x4 x5 x6 S = some z → G X V 8 (QI X V z.1 z.2) 19 [some (.ref (V.2.2.1 7 0)), some (.ref (V.2.2.1 tx 0)), some (.ref (V.2.2.1 st 0)), none, some (.int x4), some (.int x5), some (.int x6), none] [] S) (x4 : Int32) (x5 : Int32) (x6 : Int32) (S : Mem) (h : f_Rn_isLaid_b19 tx st k19 x4 x5 x6 S = some z) : G X V 8 (QI X V z.1 z.2) 19 [some (.ref (V.2.2.1 7 0)), some (.ref (V.2.2.1 tx 0)), some (.ref (V.2.2.1 st 0)), none, some (.int x4), some (.int x5), some (.int x6), none] [] S := by
  unfold f_Rn_isLaid_b19 at h
  refine g_iload (pc := 19) hC (i := 6) (x := x6) rfl d_Rn_isLaid_19 ?_
  refine g_if_lt (pc := 21) hC (tgt := 96) (by decide) d_Rn_isLaid_21 h (fun h => ?_) (fun h => ?_)
  · refine g_iconst (pc := 96) hC kc_1 d_Rn_isLaid_96 ?_
    exact g_iW (pc := 97) hC rfl d_Rn_isLaid_97 h
  · refine g_iload (pc := 24) hC (i := 4) (x := x4) rfl d_Rn_isLaid_24 ?_
    refine g_if_le (pc := 26) hC (tgt := 96) (by decide) d_Rn_isLaid_26 h (fun h => ?_) (fun h => ?_)
    · refine g_iconst (pc := 96) hC kc_1 d_Rn_isLaid_96 ?_
      exact g_iW (pc := 97) hC rfl d_Rn_isLaid_97 h
    · refine g_iload (pc := 29) hC (i := 5) (x := x5) rfl d_Rn_isLaid_29 ?_
      refine g_iload (pc := 31) hC (i := 4) (x := x4) rfl d_Rn_isLaid_31 ?_
      refine g_irem (pc := 33) hC d_Rn_isLaid_33 h (fun h => ?_)
      refine g_leti h (fun y34 h => ?_)
      refine s_istore (pc := 34) hC (i := 7) (by decide) d_Rn_isLaid_34 (lv2 := [some (.ref (V.2.2.1 7 0)), some (.ref (V.2.2.1 tx 0)), some (.ref (V.2.2.1 st 0)), none, some (.int x4), some (.int x5), some (.int x6), some (.int y34)]) rfl ?_
      refine g_iload (pc := 36) hC (i := 5) (x := x5) rfl d_Rn_isLaid_36 ?_
      refine g_iload (pc := 38) hC (i := 4) (x := x4) rfl d_Rn_isLaid_38 ?_
      refine g_idiv (pc := 40) hC d_Rn_isLaid_40 h (fun h => ?_)
      refine g_leti h (fun y41 h => ?_)
      refine s_istore (pc := 41) hC (i := 5) (by decide) d_Rn_isLaid_41 (lv2 := [some (.ref (V.2.2.1 7 0)), some (.ref (V.2.2.1 tx 0)), some (.ref (V.2.2.1 st 0)), none, some (.int x4), some (.int y41), some (.int x6), some (.int y34)]) rfl ?_
      refine g_aload_n (pc := 43) hC (i := 0) (x := (V.2.2.1 7 0)) rfl rfl d_Rn_isLaid_43 ?_
      refine g_getA (pc := 44) hC fo_Rn_32 (ob_Rn hV) rfl d_Rn_isLaid_44 ?_
      refine g_iload (pc := 47) hC (i := 6) (x := x6) rfl d_Rn_isLaid_47 ?_
      refine g_iload (pc := 49) hC (i := 7) (x := y34) rfl d_Rn_isLaid_49 ?_
      refine g_if_ne (pc := 51) hC (tgt := 59) (by decide) d_Rn_isLaid_51 h (fun h => ?_) (fun h => ?_)
      · refine g_iload (pc := 59) hC (i := 7) (x := y34) rfl d_Rn_isLaid_59 ?_
        refine g_iconst (pc := 61) hC kc_1 d_Rn_isLaid_61 ?_
        refine g_isub (pc := 62) hC d_Rn_isLaid_62 ?_
        exact w_Rn_isLaid_b63 hV htx hst hC k19 hk19 x4 y41 x6 y34 (y34 - 1) x6 S h
      · refine g_bipush (pc := 54) hC kb_m3 d_Rn_isLaid_54 ?_
        refine g_goto (pc := 56) hC (tgt := 63) (by decide) d_Rn_isLaid_56 ?_
        exact w_Rn_isLaid_b63 hV htx hst hC k19 hk19 x4 y41 x6 y34 (-3) x6 S h
theorem w_Rn_isLaid_l19 {X : CX} {V : WV} {tx : Nat} {st : Nat} (hV : IsC V) (htx : isTx tx) (hst : isSt st) {z : Int32 × Mem} (hC : Ck X V bc_Rn_isLaid 8 "SecretWells$Rain" (some .boolean) 2 48) : ∀ (n : Nat) (x4 : Int32) (x5 : Int32) (x6 : Int32) (S : Mem), f_Rn_isLaid_l19 tx st n x4 x5 x6 S = some z → G X V 8 (QI X V z.1 z.2) 19 [some (.ref (V.2.2.1 7 0)), some (.ref (V.2.2.1 tx 0)), some (.ref (V.2.2.1 st 0)), none, some (.int x4), some (.int x5), some (.int x6), none] [] S := by
  intro n
  induction n with
  | zero =>
    intro x4 x5 x6 S h
    have h : (none : Option (Int32 × Mem)) = some z := h
    cases h
  | succ n ih =>
    intro x4 x5 x6 S h
    exact w_Rn_isLaid_b19 hV htx hst hC (f_Rn_isLaid_l19 tx st n) ih x4 x5 x6 S h
set_option maxRecDepth 20000 in
theorem w_Rn_isLaid_b0 {X : CX} {V : WV} {tx : Nat} {st : Nat} (hV : IsC V) (htx : isTx tx) (hst : isSt st) {z : Int32 × Mem} (hC : Ck X V bc_Rn_isLaid 8 "SecretWells$Rain" (some .boolean) 2 48) (x3 : Int32) (S : Mem) (h : f_Rn_isLaid_b0 tx st x3 S = some z) : G X V 8 (QI X V z.1 z.2) 0 [some (.ref (V.2.2.1 7 0)), some (.ref (V.2.2.1 tx 0)), some (.ref (V.2.2.1 st 0)), some (.int x3), none, none, none, none] [] S := by
  unfold f_Rn_isLaid_b0 at h
  refine g_aload_n (pc := 0) hC (i := 1) (x := (V.2.2.1 tx 0)) rfl rfl d_Rn_isLaid_0 ?_
  refine g_getI (pc := 1) hC fo_Rn_48 (ob_Tx hV htx) rfl d_Rn_isLaid_1 ?_
  refine g_iconst (pc := 4) hC kc_1 d_Rn_isLaid_4 ?_
  refine g_iadd (pc := 5) hC d_Rn_isLaid_5 ?_
  refine g_leti h (fun y6 h => ?_)
  refine s_istore (pc := 6) hC (i := 4) (by decide) d_Rn_isLaid_6 (lv2 := [some (.ref (V.2.2.1 7 0)), some (.ref (V.2.2.1 tx 0)), some (.ref (V.2.2.1 st 0)), some (.int x3), some (.int y6), none, none, none]) rfl ?_
  refine g_iload_n (pc := 8) hC (i := 3) (x := x3) rfl rfl d_Rn_isLaid_8 ?_
  refine s_istore (pc := 9) hC (i := 5) (by decide) d_Rn_isLaid_9 (lv2 := [some (.ref (V.2.2.1 7 0)), some (.ref (V.2.2.1 tx 0)), some (.ref (V.2.2.1 st 0)), some (.int x3), some (.int y6), some (.int x3), none, none]) rfl ?_
  refine g_aload_n (pc := 11) hC (i := 0) (x := (V.2.2.1 7 0)) rfl rfl d_Rn_isLaid_11 ?_
  refine g_getI (pc := 12) hC fo_Rn_35 (ob_Rn hV) rfl d_Rn_isLaid_12 ?_
  refine g_iconst (pc := 15) hC kc_1 d_Rn_isLaid_15 ?_
  refine g_isub (pc := 16) hC d_Rn_isLaid_16 ?_
  refine g_leti h (fun y17 h => ?_)
  refine s_istore (pc := 17) hC (i := 6) (by decide) d_Rn_isLaid_17 (lv2 := [some (.ref (V.2.2.1 7 0)), some (.ref (V.2.2.1 tx 0)), some (.ref (V.2.2.1 st 0)), some (.int x3), some (.int y6), some (.int x3), some (.int y17), none]) rfl ?_
  refine g_le (lv2 := [some (.ref (V.2.2.1 7 0)), some (.ref (V.2.2.1 tx 0)), some (.ref (V.2.2.1 st 0)), none, some (.int y6), some (.int x3), some (.int y17), none]) (⟨rfl, ⟨rfl, ⟨rfl, ⟨rfl, ⟨rfl, ⟨rfl, trivial⟩⟩⟩⟩⟩⟩) ?_
  exact w_Rn_isLaid_l19 hV htx hst hC 5000 y6 x3 y17 S h
theorem c_Rn_isLaid {V : WV} {l : Launch} (hV : IsC V) {tx : Nat} {st : Nat} (htx : isTx tx) (hst : isSt st) {x3 : Int32} {S : Mem} {z : Int32 × Mem} (h : f_Rn_isLaid tx st x3 S = some z) : CI V l y_Rn_isLaid bc_Rn_isLaid 8 (some .boolean) 2 48 [.ref (V.2.2.1 7 0), .ref (V.2.2.1 tx 0), .ref (V.2.2.1 st 0), .int x3] S z.1 z.2 :=
  ct_i rfl (IsC.ok hV) (Nat.le_of_ble_eq_true rfl) (fun _ _ hC => w_Rn_isLaid_b0 hV htx hst hC x3 S h)
def f_Rn_whispers_b29 (S : Mem) (k4 : Int32 → Int32 → Option (Int32)) (x2 : Int32) (s0 : Int32) (s1 : Int32) : Option (Int32) :=
  letS (s1 + s0) (fun y30 =>
  k4 y30 (x2 + 1))
def f_Rn_whispers_b4 (S : Mem) (k4 : Int32 → Int32 → Option (Int32)) (x1 : Int32) (x2 : Int32) : Option (Int32) :=
  if (S.1 7 7) ≤ x2 then
    some x1
  else
    gIn x2 4 (
    if (S.2.1 7 6 x2.toNatClampNeg) = (-3) then
      f_Rn_whispers_b29 S k4 x2 0 x1
    else
      f_Rn_whispers_b29 S k4 x2 1 x1)
def f_Rn_whispers_l4 (S : Mem) : Nat → Int32 → Int32 → Option (Int32)
  | 0 => fun _ _ => none
  | n + 1 => f_Rn_whispers_b4 S (f_Rn_whispers_l4 S n)
def f_Rn_whispers_b0 (S : Mem) : Option (Int32) :=
  f_Rn_whispers_l4 S 5000 0 0
def f_Rn_whispers (S : Mem) : Option (Int32) := f_Rn_whispers_b0 S
theorem d_Rn_whispers_0 : decode bc_Rn_whispers 0 = .ok (.iconst 0, 1) := by decide +kernel
theorem d_Rn_whispers_1 : decode bc_Rn_whispers 1 = .ok (.istore_n 1, 1) := by decide +kernel
theorem d_Rn_whispers_2 : decode bc_Rn_whispers 2 = .ok (.iconst 0, 1) := by decide +kernel
theorem d_Rn_whispers_3 : decode bc_Rn_whispers 3 = .ok (.istore_n 2, 1) := by decide +kernel
theorem d_Rn_whispers_4 : decode bc_Rn_whispers 4 = .ok (.iload_n 2, 1) := by decide +kernel
theorem d_Rn_whispers_5 : decode bc_Rn_whispers 5 = .ok (.aload_n 0, 1) := by decide +kernel
theorem d_Rn_whispers_6 : decode bc_Rn_whispers 6 = .ok (.getfield 35, 3) := by decide +kernel
theorem d_Rn_whispers_9 : decode bc_Rn_whispers 9 = .ok (.if_icmp .ge 28, 3) := by decide +kernel
theorem d_Rn_whispers_12 : decode bc_Rn_whispers 12 = .ok (.iload_n 1, 1) := by decide +kernel
theorem d_Rn_whispers_13 : decode bc_Rn_whispers 13 = .ok (.aload_n 0, 1) := by decide +kernel
theorem d_Rn_whispers_14 : decode bc_Rn_whispers 14 = .ok (.getfield 32, 3) := by decide +kernel
theorem d_Rn_whispers_17 : decode bc_Rn_whispers 17 = .ok (.iload_n 2, 1) := by decide +kernel
theorem d_Rn_whispers_18 : decode bc_Rn_whispers 18 = .ok (.iaload, 1) := by decide +kernel
theorem d_Rn_whispers_19 : decode bc_Rn_whispers 19 = .ok (.bipush (-3), 2) := by decide +kernel
theorem d_Rn_whispers_21 : decode bc_Rn_whispers 21 = .ok (.if_icmp .ne 7, 3) := by decide +kernel
theorem d_Rn_whispers_24 : decode bc_Rn_whispers 24 = .ok (.iconst 0, 1) := by decide +kernel
theorem d_Rn_whispers_25 : decode bc_Rn_whispers 25 = .ok (.goto 4, 3) := by decide +kernel
theorem d_Rn_whispers_28 : decode bc_Rn_whispers 28 = .ok (.iconst 1, 1) := by decide +kernel
theorem d_Rn_whispers_29 : decode bc_Rn_whispers 29 = .ok (.iadd, 1) := by decide +kernel
theorem d_Rn_whispers_30 : decode bc_Rn_whispers 30 = .ok (.istore_n 1, 1) := by decide +kernel
theorem d_Rn_whispers_31 : decode bc_Rn_whispers 31 = .ok (.iinc 2 1, 3) := by decide +kernel
theorem d_Rn_whispers_34 : decode bc_Rn_whispers 34 = .ok (.goto (-30), 3) := by decide +kernel
theorem d_Rn_whispers_37 : decode bc_Rn_whispers 37 = .ok (.iload_n 1, 1) := by decide +kernel
theorem d_Rn_whispers_38 : decode bc_Rn_whispers 38 = .ok (.ireturn, 1) := by decide +kernel
set_option maxRecDepth 20000 in
theorem w_Rn_whispers_b29 {X : CX} {V : WV} (hV : IsC V) {S : Mem} {z : Int32} (hC : Ck X V bc_Rn_whispers 3 "SecretWells$Rain" (some .int) 0 0) (k4 : Int32 → Int32 → Option (Int32)) (hk4 : ∀ (x1 : Int32) (x2 : Int32), k4 x1 x2 = some z → G X V 3 (QI X V z S) 4 [some (.ref (V.2.2.1 7 0)), some (.int x1), some (.int x2)] [] S) (x2 : Int32) (s0 : Int32) (s1 : Int32) (h : f_Rn_whispers_b29 S k4 x2 s0 s1 = some z) : G X V 3 (QI X V z S) 29 [some (.ref (V.2.2.1 7 0)), none, some (.int x2)] [.int s0, .int s1] S := by
  unfold f_Rn_whispers_b29 at h
  refine g_iadd (pc := 29) hC d_Rn_whispers_29 ?_
  refine g_leti h (fun y30 h => ?_)
  refine s_istore_n (pc := 30) hC (i := 1) rfl (by decide) d_Rn_whispers_30 (lv2 := [some (.ref (V.2.2.1 7 0)), some (.int y30), some (.int x2)]) rfl ?_
  refine s_iinc (pc := 31) hC (i := 2) (x := x2) (v := x2 + 1) rfl (by rw [kc_1]) (by decide) d_Rn_whispers_31 (lv2 := [some (.ref (V.2.2.1 7 0)), some (.int y30), some (.int (x2 + 1))]) rfl ?_
  refine g_goto (pc := 34) hC (tgt := 4) (by decide) d_Rn_whispers_34 ?_
  exact hk4 y30 (x2 + 1) h
set_option maxRecDepth 20000 in
theorem w_Rn_whispers_b4 {X : CX} {V : WV} (hV : IsC V) {S : Mem} {z : Int32} (hC : Ck X V bc_Rn_whispers 3 "SecretWells$Rain" (some .int) 0 0) (k4 : Int32 → Int32 → Option (Int32)) (hk4 : ∀ (x1 : Int32) (x2 : Int32), k4 x1 x2 = some z → G X V 3 (QI X V z S) 4 [some (.ref (V.2.2.1 7 0)), some (.int x1), some (.int x2)] [] S) (x1 : Int32) (x2 : Int32) (h : f_Rn_whispers_b4 S k4 x1 x2 = some z) : G X V 3 (QI X V z S) 4 [some (.ref (V.2.2.1 7 0)), some (.int x1), some (.int x2)] [] S := by
  unfold f_Rn_whispers_b4 at h
  refine g_iload_n (pc := 4) hC (i := 2) (x := x2) rfl rfl d_Rn_whispers_4 ?_
  refine g_aload_n (pc := 5) hC (i := 0) (x := (V.2.2.1 7 0)) rfl rfl d_Rn_whispers_5 ?_
  refine g_getI (pc := 6) hC fo_Rn_35 (ob_Rn hV) rfl d_Rn_whispers_6 ?_
  refine g_icmp_ge (pc := 9) hC (tgt := 37) (by decide) d_Rn_whispers_9 h (fun h => ?_) (fun h => ?_)
  · refine g_iload_n (pc := 37) hC (i := 1) (x := x1) rfl rfl d_Rn_whispers_37 ?_
    exact g_iN (pc := 38) hC rfl d_Rn_whispers_38 h
  · refine g_iload_n (pc := 12) hC (i := 1) (x := x1) rfl rfl d_Rn_whispers_12 ?_
    refine g_aload_n (pc := 13) hC (i := 0) (x := (V.2.2.1 7 0)) rfl rfl d_Rn_whispers_13 ?_
    refine g_getA (pc := 14) hC fo_Rn_32 (ob_Rn hV) rfl d_Rn_whispers_14 ?_
    refine g_iload_n (pc := 17) hC (i := 2) (x := x2) rfl rfl d_Rn_whispers_17 ?_
    refine g_iald (pc := 18) hC (ar_Rn_6 hV) d_Rn_whispers_18 h (fun h => ?_)
    refine g_bipush (pc := 19) hC kb_m3 d_Rn_whispers_19 ?_
    refine g_icmp_ne (pc := 21) hC (tgt := 28) (by decide) d_Rn_whispers_21 h (fun h => ?_) (fun h => ?_)
    · refine g_iconst (pc := 28) hC kc_1 d_Rn_whispers_28 ?_
      refine g_le (lv2 := [some (.ref (V.2.2.1 7 0)), none, some (.int x2)]) (⟨rfl, ⟨rfl, trivial⟩⟩) ?_
      exact w_Rn_whispers_b29 hV hC k4 hk4 x2 1 x1 h
    · refine g_iconst (pc := 24) hC kc_0 d_Rn_whispers_24 ?_
      refine g_goto (pc := 25) hC (tgt := 29) (by decide) d_Rn_whispers_25 ?_
      refine g_le (lv2 := [some (.ref (V.2.2.1 7 0)), none, some (.int x2)]) (⟨rfl, ⟨rfl, trivial⟩⟩) ?_
      exact w_Rn_whispers_b29 hV hC k4 hk4 x2 0 x1 h
theorem w_Rn_whispers_l4 {X : CX} {V : WV} (hV : IsC V) {S : Mem} {z : Int32} (hC : Ck X V bc_Rn_whispers 3 "SecretWells$Rain" (some .int) 0 0) : ∀ (n : Nat) (x1 : Int32) (x2 : Int32), f_Rn_whispers_l4 S n x1 x2 = some z → G X V 3 (QI X V z S) 4 [some (.ref (V.2.2.1 7 0)), some (.int x1), some (.int x2)] [] S := by
  intro n
  induction n with
  | zero =>
    intro x1 x2 h
    have h : (none : Option (Int32)) = some z := h
    cases h
  | succ n ih =>
    intro x1 x2 h
    exact w_Rn_whispers_b4 hV hC (f_Rn_whispers_l4 S n) ih x1 x2 h
set_option maxRecDepth 20000 in
theorem w_Rn_whispers_b0 {X : CX} {V : WV} (hV : IsC V) {S : Mem} {z : Int32} (hC : Ck X V bc_Rn_whispers 3 "SecretWells$Rain" (some .int) 0 0) (h : f_Rn_whispers_b0 S = some z) : G X V 3 (QI X V z S) 0 [some (.ref (V.2.2.1 7 0)), none, none] [] S := by
  unfold f_Rn_whispers_b0 at h
  refine g_iconst (pc := 0) hC kc_0 d_Rn_whispers_0 ?_
  refine s_istore_n (pc := 1) hC (i := 1) rfl (by decide) d_Rn_whispers_1 (lv2 := [some (.ref (V.2.2.1 7 0)), some (.int 0), none]) rfl ?_
  refine g_iconst (pc := 2) hC kc_0 d_Rn_whispers_2 ?_
  refine s_istore_n (pc := 3) hC (i := 2) rfl (by decide) d_Rn_whispers_3 (lv2 := [some (.ref (V.2.2.1 7 0)), some (.int 0), some (.int 0)]) rfl ?_
  exact w_Rn_whispers_l4 hV hC 5000 0 0 h
theorem c_Rn_whispers {V : WV} {l : Launch} (hV : IsC V) {S : Mem} {z : Int32} (h : f_Rn_whispers S = some z) : CI V l y_Rn_whispers bc_Rn_whispers 3 (some .int) 0 0 [.ref (V.2.2.1 7 0)] S z S :=
  ct_i rfl (IsC.ok hV) (Nat.le_of_ble_eq_true rfl) (fun _ _ hC => w_Rn_whispers_b0 hV hC h)
def f_Rn_mayBeBetter_b0 (S : Mem) : Option (Int32) :=
  if 0 < (S.1 7 1) then
    some 1
  else
    if 0 < (S.1 7 2) then
      some 1
    else
      Option.bind (f_Rn_whispers S) (fun q15 =>
      if (S.1 7 3) ≤ q15 then
        some 0
      else
        some 1)
def f_Rn_mayBeBetter (S : Mem) : Option (Int32) := f_Rn_mayBeBetter_b0 S
theorem d_Rn_mayBeBetter_0 : decode bc_Rn_mayBeBetter 0 = .ok (.aload_n 0, 1) := by decide +kernel
theorem d_Rn_mayBeBetter_1 : decode bc_Rn_mayBeBetter 1 = .ok (.getfield 15, 3) := by decide +kernel
theorem d_Rn_mayBeBetter_4 : decode bc_Rn_mayBeBetter 4 = .ok (.ifCond .gt 21, 3) := by decide +kernel
theorem d_Rn_mayBeBetter_7 : decode bc_Rn_mayBeBetter 7 = .ok (.aload_n 0, 1) := by decide +kernel
theorem d_Rn_mayBeBetter_8 : decode bc_Rn_mayBeBetter 8 = .ok (.getfield 19, 3) := by decide +kernel
theorem d_Rn_mayBeBetter_11 : decode bc_Rn_mayBeBetter 11 = .ok (.ifCond .gt 14, 3) := by decide +kernel
theorem d_Rn_mayBeBetter_14 : decode bc_Rn_mayBeBetter 14 = .ok (.aload_n 0, 1) := by decide +kernel
theorem d_Rn_mayBeBetter_15 : decode bc_Rn_mayBeBetter 15 = .ok (.invokevirtual 88, 3) := by decide +kernel
theorem d_Rn_mayBeBetter_18 : decode bc_Rn_mayBeBetter 18 = .ok (.aload_n 0, 1) := by decide +kernel
theorem d_Rn_mayBeBetter_19 : decode bc_Rn_mayBeBetter 19 = .ok (.getfield 22, 3) := by decide +kernel
theorem d_Rn_mayBeBetter_22 : decode bc_Rn_mayBeBetter 22 = .ok (.if_icmp .ge 7, 3) := by decide +kernel
theorem d_Rn_mayBeBetter_25 : decode bc_Rn_mayBeBetter 25 = .ok (.iconst 1, 1) := by decide +kernel
theorem d_Rn_mayBeBetter_26 : decode bc_Rn_mayBeBetter 26 = .ok (.goto 4, 3) := by decide +kernel
theorem d_Rn_mayBeBetter_29 : decode bc_Rn_mayBeBetter 29 = .ok (.iconst 0, 1) := by decide +kernel
theorem d_Rn_mayBeBetter_30 : decode bc_Rn_mayBeBetter 30 = .ok (.ireturn, 1) := by decide +kernel
set_option maxRecDepth 20000 in
theorem w_Rn_mayBeBetter_b0 {X : CX} {V : WV} (hV : IsC V) {S : Mem} {z : Int32} (hC : Ck X V bc_Rn_mayBeBetter 1 "SecretWells$Rain" (some .boolean) 1 22) (h : f_Rn_mayBeBetter_b0 S = some z) : G X V 1 (QI X V z S) 0 [some (.ref (V.2.2.1 7 0))] [] S := by
  unfold f_Rn_mayBeBetter_b0 at h
  refine g_aload_n (pc := 0) hC (i := 0) (x := (V.2.2.1 7 0)) rfl rfl d_Rn_mayBeBetter_0 ?_
  refine g_getI (pc := 1) hC fo_Rn_15 (ob_Rn hV) rfl d_Rn_mayBeBetter_1 ?_
  refine g_if_gt (pc := 4) hC (tgt := 25) (by decide) d_Rn_mayBeBetter_4 h (fun h => ?_) (fun h => ?_)
  · refine g_iconst (pc := 25) hC kc_1 d_Rn_mayBeBetter_25 ?_
    refine g_goto (pc := 26) hC (tgt := 30) (by decide) d_Rn_mayBeBetter_26 ?_
    exact g_iN (pc := 30) hC rfl d_Rn_mayBeBetter_30 h
  · refine g_aload_n (pc := 7) hC (i := 0) (x := (V.2.2.1 7 0)) rfl rfl d_Rn_mayBeBetter_7 ?_
    refine g_getI (pc := 8) hC fo_Rn_19 (ob_Rn hV) rfl d_Rn_mayBeBetter_8 ?_
    refine g_if_gt (pc := 11) hC (tgt := 25) (by decide) d_Rn_mayBeBetter_11 h (fun h => ?_) (fun h => ?_)
    · refine g_iconst (pc := 25) hC kc_1 d_Rn_mayBeBetter_25 ?_
      refine g_goto (pc := 26) hC (tgt := 30) (by decide) d_Rn_mayBeBetter_26 ?_
      exact g_iN (pc := 30) hC rfl d_Rn_mayBeBetter_30 h
    · refine g_aload_n (pc := 14) hC (i := 0) (x := (V.2.2.1 7 0)) rfl rfl d_Rn_mayBeBetter_14 ?_
      obtain ⟨q15, hq15, h⟩ := Option.bind_eq_some_iff.mp h
      refine g_vi (pc := 15) hC (As := []) (st := []) mt_Rn_whispers lk_Rn_88 rfl (ob_Rn hV) (Nat.le_of_ble_eq_true rfl) ⟨Nat.le_of_ble_eq_true rfl, Nat.le_of_ble_eq_true rfl⟩ rfl d_Rn_mayBeBetter_15 (c_Rn_whispers hV hq15) ?_
      refine g_aload_n (pc := 18) hC (i := 0) (x := (V.2.2.1 7 0)) rfl rfl d_Rn_mayBeBetter_18 ?_
      refine g_getI (pc := 19) hC fo_Rn_22 (ob_Rn hV) rfl d_Rn_mayBeBetter_19 ?_
      refine g_icmp_ge (pc := 22) hC (tgt := 29) (by decide) d_Rn_mayBeBetter_22 h (fun h => ?_) (fun h => ?_)
      · refine g_iconst (pc := 29) hC kc_0 d_Rn_mayBeBetter_29 ?_
        exact g_iN (pc := 30) hC rfl d_Rn_mayBeBetter_30 h
      · refine g_iconst (pc := 25) hC kc_1 d_Rn_mayBeBetter_25 ?_
        refine g_goto (pc := 26) hC (tgt := 30) (by decide) d_Rn_mayBeBetter_26 ?_
        exact g_iN (pc := 30) hC rfl d_Rn_mayBeBetter_30 h
theorem c_Rn_mayBeBetter {V : WV} {l : Launch} (hV : IsC V) {S : Mem} {z : Int32} (h : f_Rn_mayBeBetter S = some z) : CI V l y_Rn_mayBeBetter bc_Rn_mayBeBetter 1 (some .boolean) 1 22 [.ref (V.2.2.1 7 0)] S z S :=
  ct_i rfl (IsC.ok hV) (Nat.le_of_ble_eq_true rfl) (fun _ _ hC => w_Rn_mayBeBetter_b0 hV hC h)
def f_St_copyOf_b0 (st : Nat) (st2 : Nat) (S : Mem) : Option (Mem) :=
  letS (pI S st 0 (S.1 st2 0)) (fun S5 =>
  letS (pI S5 st 1 (S5.1 st2 1)) (fun S13 =>
  letS (pI S13 st 2 (S13.1 st2 2)) (fun S21 =>
  letS (pI S21 st 3 (S21.1 st2 3)) (fun S29 =>
  gCp 0 0 4 4 4 (letS (sCp S29 st2 4 st 4 0 0 4) (fun S43 =>
  gCp 0 0 7 7 7 (letS (sCp S43 st2 5 st 5 0 0 7) (fun S58 =>
  gCp 0 0 7 7 7 (letS (sCp S58 st2 6 st 6 0 0 7) (fun S73 =>
  gCp 0 0 7 7 7 (letS (sCp S73 st2 7 st 7 0 0 7) (fun S88 =>
  gCp 0 0 8 8 8 (letS (sCp S88 st2 8 st 8 0 0 8) (fun S103 =>
  gCp 0 0 4 4 4 (letS (sCp S103 st2 9 st 9 0 0 4) (fun S117 =>
  gCp 0 0 4 4 4 (letS (sCp S117 st2 10 st 10 0 0 4) (fun S131 =>
  gCp 0 0 4 4 4 (letS (sCp S131 st2 11 st 11 0 0 4) (fun S145 =>
  gCp 0 0 8 8 8 (letS (sCp S145 st2 12 st 12 0 0 8) (fun S160 =>
  some S160))))))))))))))))))))))
def f_St_copyOf (st : Nat) (st2 : Nat) (S : Mem) : Option (Mem) := f_St_copyOf_b0 st st2 S
theorem d_St_copyOf_0 : decode bc_St_copyOf 0 = .ok (.aload_n 0, 1) := by decide +kernel
theorem d_St_copyOf_1 : decode bc_St_copyOf 1 = .ok (.aload_n 1, 1) := by decide +kernel
theorem d_St_copyOf_2 : decode bc_St_copyOf 2 = .ok (.getfield 9, 3) := by decide +kernel
theorem d_St_copyOf_5 : decode bc_St_copyOf 5 = .ok (.putfield 9, 3) := by decide +kernel
theorem d_St_copyOf_8 : decode bc_St_copyOf 8 = .ok (.aload_n 0, 1) := by decide +kernel
theorem d_St_copyOf_9 : decode bc_St_copyOf 9 = .ok (.aload_n 1, 1) := by decide +kernel
theorem d_St_copyOf_10 : decode bc_St_copyOf 10 = .ok (.getfield 15, 3) := by decide +kernel
theorem d_St_copyOf_13 : decode bc_St_copyOf 13 = .ok (.putfield 15, 3) := by decide +kernel
theorem d_St_copyOf_16 : decode bc_St_copyOf 16 = .ok (.aload_n 0, 1) := by decide +kernel
theorem d_St_copyOf_17 : decode bc_St_copyOf 17 = .ok (.aload_n 1, 1) := by decide +kernel
theorem d_St_copyOf_18 : decode bc_St_copyOf 18 = .ok (.getfield 18, 3) := by decide +kernel
theorem d_St_copyOf_21 : decode bc_St_copyOf 21 = .ok (.putfield 18, 3) := by decide +kernel
theorem d_St_copyOf_24 : decode bc_St_copyOf 24 = .ok (.aload_n 0, 1) := by decide +kernel
theorem d_St_copyOf_25 : decode bc_St_copyOf 25 = .ok (.aload_n 1, 1) := by decide +kernel
theorem d_St_copyOf_26 : decode bc_St_copyOf 26 = .ok (.getfield 21, 3) := by decide +kernel
theorem d_St_copyOf_29 : decode bc_St_copyOf 29 = .ok (.putfield 21, 3) := by decide +kernel
theorem d_St_copyOf_32 : decode bc_St_copyOf 32 = .ok (.aload_n 1, 1) := by decide +kernel
theorem d_St_copyOf_33 : decode bc_St_copyOf 33 = .ok (.getfield 24, 3) := by decide +kernel
theorem d_St_copyOf_36 : decode bc_St_copyOf 36 = .ok (.iconst 0, 1) := by decide +kernel
theorem d_St_copyOf_37 : decode bc_St_copyOf 37 = .ok (.aload_n 0, 1) := by decide +kernel
theorem d_St_copyOf_38 : decode bc_St_copyOf 38 = .ok (.getfield 24, 3) := by decide +kernel
theorem d_St_copyOf_41 : decode bc_St_copyOf 41 = .ok (.iconst 0, 1) := by decide +kernel
theorem d_St_copyOf_42 : decode bc_St_copyOf 42 = .ok (.iconst 4, 1) := by decide +kernel
theorem d_St_copyOf_43 : decode bc_St_copyOf 43 = .ok (.invokestatic 58, 3) := by decide +kernel
theorem d_St_copyOf_46 : decode bc_St_copyOf 46 = .ok (.aload_n 1, 1) := by decide +kernel
theorem d_St_copyOf_47 : decode bc_St_copyOf 47 = .ok (.getfield 28, 3) := by decide +kernel
theorem d_St_copyOf_50 : decode bc_St_copyOf 50 = .ok (.iconst 0, 1) := by decide +kernel
theorem d_St_copyOf_51 : decode bc_St_copyOf 51 = .ok (.aload_n 0, 1) := by decide +kernel
theorem d_St_copyOf_52 : decode bc_St_copyOf 52 = .ok (.getfield 28, 3) := by decide +kernel
theorem d_St_copyOf_55 : decode bc_St_copyOf 55 = .ok (.iconst 0, 1) := by decide +kernel
theorem d_St_copyOf_56 : decode bc_St_copyOf 56 = .ok (.bipush 7, 2) := by decide +kernel
theorem d_St_copyOf_58 : decode bc_St_copyOf 58 = .ok (.invokestatic 58, 3) := by decide +kernel
theorem d_St_copyOf_61 : decode bc_St_copyOf 61 = .ok (.aload_n 1, 1) := by decide +kernel
theorem d_St_copyOf_62 : decode bc_St_copyOf 62 = .ok (.getfield 31, 3) := by decide +kernel
theorem d_St_copyOf_65 : decode bc_St_copyOf 65 = .ok (.iconst 0, 1) := by decide +kernel
theorem d_St_copyOf_66 : decode bc_St_copyOf 66 = .ok (.aload_n 0, 1) := by decide +kernel
theorem d_St_copyOf_67 : decode bc_St_copyOf 67 = .ok (.getfield 31, 3) := by decide +kernel
theorem d_St_copyOf_70 : decode bc_St_copyOf 70 = .ok (.iconst 0, 1) := by decide +kernel
theorem d_St_copyOf_71 : decode bc_St_copyOf 71 = .ok (.bipush 7, 2) := by decide +kernel
theorem d_St_copyOf_73 : decode bc_St_copyOf 73 = .ok (.invokestatic 58, 3) := by decide +kernel
theorem d_St_copyOf_76 : decode bc_St_copyOf 76 = .ok (.aload_n 1, 1) := by decide +kernel
theorem d_St_copyOf_77 : decode bc_St_copyOf 77 = .ok (.getfield 34, 3) := by decide +kernel
theorem d_St_copyOf_80 : decode bc_St_copyOf 80 = .ok (.iconst 0, 1) := by decide +kernel
theorem d_St_copyOf_81 : decode bc_St_copyOf 81 = .ok (.aload_n 0, 1) := by decide +kernel
theorem d_St_copyOf_82 : decode bc_St_copyOf 82 = .ok (.getfield 34, 3) := by decide +kernel
theorem d_St_copyOf_85 : decode bc_St_copyOf 85 = .ok (.iconst 0, 1) := by decide +kernel
theorem d_St_copyOf_86 : decode bc_St_copyOf 86 = .ok (.bipush 7, 2) := by decide +kernel
theorem d_St_copyOf_88 : decode bc_St_copyOf 88 = .ok (.invokestatic 58, 3) := by decide +kernel
theorem d_St_copyOf_91 : decode bc_St_copyOf 91 = .ok (.aload_n 1, 1) := by decide +kernel
theorem d_St_copyOf_92 : decode bc_St_copyOf 92 = .ok (.getfield 37, 3) := by decide +kernel
theorem d_St_copyOf_95 : decode bc_St_copyOf 95 = .ok (.iconst 0, 1) := by decide +kernel
theorem d_St_copyOf_96 : decode bc_St_copyOf 96 = .ok (.aload_n 0, 1) := by decide +kernel
theorem d_St_copyOf_97 : decode bc_St_copyOf 97 = .ok (.getfield 37, 3) := by decide +kernel
theorem d_St_copyOf_100 : decode bc_St_copyOf 100 = .ok (.iconst 0, 1) := by decide +kernel
theorem d_St_copyOf_101 : decode bc_St_copyOf 101 = .ok (.bipush 8, 2) := by decide +kernel
theorem d_St_copyOf_103 : decode bc_St_copyOf 103 = .ok (.invokestatic 58, 3) := by decide +kernel
theorem d_St_copyOf_106 : decode bc_St_copyOf 106 = .ok (.aload_n 1, 1) := by decide +kernel
theorem d_St_copyOf_107 : decode bc_St_copyOf 107 = .ok (.getfield 40, 3) := by decide +kernel
theorem d_St_copyOf_110 : decode bc_St_copyOf 110 = .ok (.iconst 0, 1) := by decide +kernel
theorem d_St_copyOf_111 : decode bc_St_copyOf 111 = .ok (.aload_n 0, 1) := by decide +kernel
theorem d_St_copyOf_112 : decode bc_St_copyOf 112 = .ok (.getfield 40, 3) := by decide +kernel
theorem d_St_copyOf_115 : decode bc_St_copyOf 115 = .ok (.iconst 0, 1) := by decide +kernel
theorem d_St_copyOf_116 : decode bc_St_copyOf 116 = .ok (.iconst 4, 1) := by decide +kernel
theorem d_St_copyOf_117 : decode bc_St_copyOf 117 = .ok (.invokestatic 58, 3) := by decide +kernel
theorem d_St_copyOf_120 : decode bc_St_copyOf 120 = .ok (.aload_n 1, 1) := by decide +kernel
theorem d_St_copyOf_121 : decode bc_St_copyOf 121 = .ok (.getfield 43, 3) := by decide +kernel
theorem d_St_copyOf_124 : decode bc_St_copyOf 124 = .ok (.iconst 0, 1) := by decide +kernel
theorem d_St_copyOf_125 : decode bc_St_copyOf 125 = .ok (.aload_n 0, 1) := by decide +kernel
theorem d_St_copyOf_126 : decode bc_St_copyOf 126 = .ok (.getfield 43, 3) := by decide +kernel
theorem d_St_copyOf_129 : decode bc_St_copyOf 129 = .ok (.iconst 0, 1) := by decide +kernel
theorem d_St_copyOf_130 : decode bc_St_copyOf 130 = .ok (.iconst 4, 1) := by decide +kernel
theorem d_St_copyOf_131 : decode bc_St_copyOf 131 = .ok (.invokestatic 58, 3) := by decide +kernel
theorem d_St_copyOf_134 : decode bc_St_copyOf 134 = .ok (.aload_n 1, 1) := by decide +kernel
theorem d_St_copyOf_135 : decode bc_St_copyOf 135 = .ok (.getfield 46, 3) := by decide +kernel
theorem d_St_copyOf_138 : decode bc_St_copyOf 138 = .ok (.iconst 0, 1) := by decide +kernel
theorem d_St_copyOf_139 : decode bc_St_copyOf 139 = .ok (.aload_n 0, 1) := by decide +kernel
theorem d_St_copyOf_140 : decode bc_St_copyOf 140 = .ok (.getfield 46, 3) := by decide +kernel
theorem d_St_copyOf_143 : decode bc_St_copyOf 143 = .ok (.iconst 0, 1) := by decide +kernel
theorem d_St_copyOf_144 : decode bc_St_copyOf 144 = .ok (.iconst 4, 1) := by decide +kernel
theorem d_St_copyOf_145 : decode bc_St_copyOf 145 = .ok (.invokestatic 58, 3) := by decide +kernel
theorem d_St_copyOf_148 : decode bc_St_copyOf 148 = .ok (.aload_n 1, 1) := by decide +kernel
theorem d_St_copyOf_149 : decode bc_St_copyOf 149 = .ok (.getfield 49, 3) := by decide +kernel
theorem d_St_copyOf_152 : decode bc_St_copyOf 152 = .ok (.iconst 0, 1) := by decide +kernel
theorem d_St_copyOf_153 : decode bc_St_copyOf 153 = .ok (.aload_n 0, 1) := by decide +kernel
theorem d_St_copyOf_154 : decode bc_St_copyOf 154 = .ok (.getfield 49, 3) := by decide +kernel
theorem d_St_copyOf_157 : decode bc_St_copyOf 157 = .ok (.iconst 0, 1) := by decide +kernel
theorem d_St_copyOf_158 : decode bc_St_copyOf 158 = .ok (.bipush 8, 2) := by decide +kernel
theorem d_St_copyOf_160 : decode bc_St_copyOf 160 = .ok (.invokestatic 58, 3) := by decide +kernel
theorem d_St_copyOf_163 : decode bc_St_copyOf 163 = .ok (.return_, 1) := by decide +kernel
set_option maxRecDepth 20000 in
theorem w_St_copyOf_b0 {X : CX} {V : WV} {st : Nat} {st2 : Nat} (hV : IsC V) (hst : isSt st) (hst2 : isSt st2) {z : Mem} (hC : Ck X V bc_St_copyOf 2 "SecretWells$State" none 1 26) (S : Mem) (h : f_St_copyOf_b0 st st2 S = some z) : G X V 2 (QV X V z) 0 [some (.ref (V.2.2.1 st 0)), some (.ref (V.2.2.1 st2 0))] [] S := by
  unfold f_St_copyOf_b0 at h
  refine g_aload_n (pc := 0) hC (i := 0) (x := (V.2.2.1 st 0)) rfl rfl d_St_copyOf_0 ?_
  refine g_aload_n (pc := 1) hC (i := 1) (x := (V.2.2.1 st2 0)) rfl rfl d_St_copyOf_1 ?_
  refine g_getI (pc := 2) hC fo_St_9 (ob_St hV hst2) rfl d_St_copyOf_2 ?_
  refine g_putI (pc := 5) hC po_St_9 (ob_St hV hst) rfl rfl rfl d_St_copyOf_5 ?_
  refine g_letS h (fun S5 h => ?_)
  refine g_aload_n (pc := 8) hC (i := 0) (x := (V.2.2.1 st 0)) rfl rfl d_St_copyOf_8 ?_
  refine g_aload_n (pc := 9) hC (i := 1) (x := (V.2.2.1 st2 0)) rfl rfl d_St_copyOf_9 ?_
  refine g_getI (pc := 10) hC fo_St_15 (ob_St hV hst2) rfl d_St_copyOf_10 ?_
  refine g_putI (pc := 13) hC po_St_15 (ob_St hV hst) rfl rfl rfl d_St_copyOf_13 ?_
  refine g_letS h (fun S13 h => ?_)
  refine g_aload_n (pc := 16) hC (i := 0) (x := (V.2.2.1 st 0)) rfl rfl d_St_copyOf_16 ?_
  refine g_aload_n (pc := 17) hC (i := 1) (x := (V.2.2.1 st2 0)) rfl rfl d_St_copyOf_17 ?_
  refine g_getI (pc := 18) hC fo_St_18 (ob_St hV hst2) rfl d_St_copyOf_18 ?_
  refine g_putI (pc := 21) hC po_St_18 (ob_St hV hst) rfl rfl rfl d_St_copyOf_21 ?_
  refine g_letS h (fun S21 h => ?_)
  refine g_aload_n (pc := 24) hC (i := 0) (x := (V.2.2.1 st 0)) rfl rfl d_St_copyOf_24 ?_
  refine g_aload_n (pc := 25) hC (i := 1) (x := (V.2.2.1 st2 0)) rfl rfl d_St_copyOf_25 ?_
  refine g_getI (pc := 26) hC fo_St_21 (ob_St hV hst2) rfl d_St_copyOf_26 ?_
  refine g_putI (pc := 29) hC po_St_21 (ob_St hV hst) rfl rfl rfl d_St_copyOf_29 ?_
  refine g_letS h (fun S29 h => ?_)
  refine g_aload_n (pc := 32) hC (i := 1) (x := (V.2.2.1 st2 0)) rfl rfl d_St_copyOf_32 ?_
  refine g_getA (pc := 33) hC fo_St_24 (ob_St hV hst2) rfl d_St_copyOf_33 ?_
  refine g_iconst (pc := 36) hC kc_0 d_St_copyOf_36 ?_
  refine g_aload_n (pc := 37) hC (i := 0) (x := (V.2.2.1 st 0)) rfl rfl d_St_copyOf_37 ?_
  refine g_getA (pc := 38) hC fo_St_24 (ob_St hV hst) rfl d_St_copyOf_38 ?_
  refine g_iconst (pc := 41) hC kc_0 d_St_copyOf_41 ?_
  refine g_iconst (pc := 42) hC kc_4 d_St_copyOf_42 ?_
  refine g_copy (pc := 43) hC lk_St_58 (ar_St_4 hV hst2) (ar_St_4 hV hst) (Nat.le_of_ble_eq_true rfl) ⟨Nat.le_of_ble_eq_true rfl, Nat.le_of_ble_eq_true rfl⟩ d_St_copyOf_43 h (fun h => ?_)
  refine g_letS h (fun S43 h => ?_)
  refine g_aload_n (pc := 46) hC (i := 1) (x := (V.2.2.1 st2 0)) rfl rfl d_St_copyOf_46 ?_
  refine g_getA (pc := 47) hC fo_St_28 (ob_St hV hst2) rfl d_St_copyOf_47 ?_
  refine g_iconst (pc := 50) hC kc_0 d_St_copyOf_50 ?_
  refine g_aload_n (pc := 51) hC (i := 0) (x := (V.2.2.1 st 0)) rfl rfl d_St_copyOf_51 ?_
  refine g_getA (pc := 52) hC fo_St_28 (ob_St hV hst) rfl d_St_copyOf_52 ?_
  refine g_iconst (pc := 55) hC kc_0 d_St_copyOf_55 ?_
  refine g_bipush (pc := 56) hC kb_7 d_St_copyOf_56 ?_
  refine g_copy (pc := 58) hC lk_St_58 (ar_St_5 hV hst2) (ar_St_5 hV hst) (Nat.le_of_ble_eq_true rfl) ⟨Nat.le_of_ble_eq_true rfl, Nat.le_of_ble_eq_true rfl⟩ d_St_copyOf_58 h (fun h => ?_)
  refine g_letS h (fun S58 h => ?_)
  refine g_aload_n (pc := 61) hC (i := 1) (x := (V.2.2.1 st2 0)) rfl rfl d_St_copyOf_61 ?_
  refine g_getA (pc := 62) hC fo_St_31 (ob_St hV hst2) rfl d_St_copyOf_62 ?_
  refine g_iconst (pc := 65) hC kc_0 d_St_copyOf_65 ?_
  refine g_aload_n (pc := 66) hC (i := 0) (x := (V.2.2.1 st 0)) rfl rfl d_St_copyOf_66 ?_
  refine g_getA (pc := 67) hC fo_St_31 (ob_St hV hst) rfl d_St_copyOf_67 ?_
  refine g_iconst (pc := 70) hC kc_0 d_St_copyOf_70 ?_
  refine g_bipush (pc := 71) hC kb_7 d_St_copyOf_71 ?_
  refine g_copy (pc := 73) hC lk_St_58 (ar_St_6 hV hst2) (ar_St_6 hV hst) (Nat.le_of_ble_eq_true rfl) ⟨Nat.le_of_ble_eq_true rfl, Nat.le_of_ble_eq_true rfl⟩ d_St_copyOf_73 h (fun h => ?_)
  refine g_letS h (fun S73 h => ?_)
  refine g_aload_n (pc := 76) hC (i := 1) (x := (V.2.2.1 st2 0)) rfl rfl d_St_copyOf_76 ?_
  refine g_getA (pc := 77) hC fo_St_34 (ob_St hV hst2) rfl d_St_copyOf_77 ?_
  refine g_iconst (pc := 80) hC kc_0 d_St_copyOf_80 ?_
  refine g_aload_n (pc := 81) hC (i := 0) (x := (V.2.2.1 st 0)) rfl rfl d_St_copyOf_81 ?_
  refine g_getA (pc := 82) hC fo_St_34 (ob_St hV hst) rfl d_St_copyOf_82 ?_
  refine g_iconst (pc := 85) hC kc_0 d_St_copyOf_85 ?_
  refine g_bipush (pc := 86) hC kb_7 d_St_copyOf_86 ?_
  refine g_copy (pc := 88) hC lk_St_58 (ar_St_7 hV hst2) (ar_St_7 hV hst) (Nat.le_of_ble_eq_true rfl) ⟨Nat.le_of_ble_eq_true rfl, Nat.le_of_ble_eq_true rfl⟩ d_St_copyOf_88 h (fun h => ?_)
  refine g_letS h (fun S88 h => ?_)
  refine g_aload_n (pc := 91) hC (i := 1) (x := (V.2.2.1 st2 0)) rfl rfl d_St_copyOf_91 ?_
  refine g_getA (pc := 92) hC fo_St_37 (ob_St hV hst2) rfl d_St_copyOf_92 ?_
  refine g_iconst (pc := 95) hC kc_0 d_St_copyOf_95 ?_
  refine g_aload_n (pc := 96) hC (i := 0) (x := (V.2.2.1 st 0)) rfl rfl d_St_copyOf_96 ?_
  refine g_getA (pc := 97) hC fo_St_37 (ob_St hV hst) rfl d_St_copyOf_97 ?_
  refine g_iconst (pc := 100) hC kc_0 d_St_copyOf_100 ?_
  refine g_bipush (pc := 101) hC kb_8 d_St_copyOf_101 ?_
  refine g_copy (pc := 103) hC lk_St_58 (ar_St_8 hV hst2) (ar_St_8 hV hst) (Nat.le_of_ble_eq_true rfl) ⟨Nat.le_of_ble_eq_true rfl, Nat.le_of_ble_eq_true rfl⟩ d_St_copyOf_103 h (fun h => ?_)
  refine g_letS h (fun S103 h => ?_)
  refine g_aload_n (pc := 106) hC (i := 1) (x := (V.2.2.1 st2 0)) rfl rfl d_St_copyOf_106 ?_
  refine g_getA (pc := 107) hC fo_St_40 (ob_St hV hst2) rfl d_St_copyOf_107 ?_
  refine g_iconst (pc := 110) hC kc_0 d_St_copyOf_110 ?_
  refine g_aload_n (pc := 111) hC (i := 0) (x := (V.2.2.1 st 0)) rfl rfl d_St_copyOf_111 ?_
  refine g_getA (pc := 112) hC fo_St_40 (ob_St hV hst) rfl d_St_copyOf_112 ?_
  refine g_iconst (pc := 115) hC kc_0 d_St_copyOf_115 ?_
  refine g_iconst (pc := 116) hC kc_4 d_St_copyOf_116 ?_
  refine g_copy (pc := 117) hC lk_St_58 (ar_St_9 hV hst2) (ar_St_9 hV hst) (Nat.le_of_ble_eq_true rfl) ⟨Nat.le_of_ble_eq_true rfl, Nat.le_of_ble_eq_true rfl⟩ d_St_copyOf_117 h (fun h => ?_)
  refine g_letS h (fun S117 h => ?_)
  refine g_aload_n (pc := 120) hC (i := 1) (x := (V.2.2.1 st2 0)) rfl rfl d_St_copyOf_120 ?_
  refine g_getA (pc := 121) hC fo_St_43 (ob_St hV hst2) rfl d_St_copyOf_121 ?_
  refine g_iconst (pc := 124) hC kc_0 d_St_copyOf_124 ?_
  refine g_aload_n (pc := 125) hC (i := 0) (x := (V.2.2.1 st 0)) rfl rfl d_St_copyOf_125 ?_
  refine g_getA (pc := 126) hC fo_St_43 (ob_St hV hst) rfl d_St_copyOf_126 ?_
  refine g_iconst (pc := 129) hC kc_0 d_St_copyOf_129 ?_
  refine g_iconst (pc := 130) hC kc_4 d_St_copyOf_130 ?_
  refine g_copy (pc := 131) hC lk_St_58 (ar_St_10 hV hst2) (ar_St_10 hV hst) (Nat.le_of_ble_eq_true rfl) ⟨Nat.le_of_ble_eq_true rfl, Nat.le_of_ble_eq_true rfl⟩ d_St_copyOf_131 h (fun h => ?_)
  refine g_letS h (fun S131 h => ?_)
  refine g_aload_n (pc := 134) hC (i := 1) (x := (V.2.2.1 st2 0)) rfl rfl d_St_copyOf_134 ?_
  refine g_getA (pc := 135) hC fo_St_46 (ob_St hV hst2) rfl d_St_copyOf_135 ?_
  refine g_iconst (pc := 138) hC kc_0 d_St_copyOf_138 ?_
  refine g_aload_n (pc := 139) hC (i := 0) (x := (V.2.2.1 st 0)) rfl rfl d_St_copyOf_139 ?_
  refine g_getA (pc := 140) hC fo_St_46 (ob_St hV hst) rfl d_St_copyOf_140 ?_
  refine g_iconst (pc := 143) hC kc_0 d_St_copyOf_143 ?_
  refine g_iconst (pc := 144) hC kc_4 d_St_copyOf_144 ?_
  refine g_copy (pc := 145) hC lk_St_58 (ar_St_11 hV hst2) (ar_St_11 hV hst) (Nat.le_of_ble_eq_true rfl) ⟨Nat.le_of_ble_eq_true rfl, Nat.le_of_ble_eq_true rfl⟩ d_St_copyOf_145 h (fun h => ?_)
  refine g_letS h (fun S145 h => ?_)
  refine g_aload_n (pc := 148) hC (i := 1) (x := (V.2.2.1 st2 0)) rfl rfl d_St_copyOf_148 ?_
  refine g_getA (pc := 149) hC fo_St_49 (ob_St hV hst2) rfl d_St_copyOf_149 ?_
  refine g_iconst (pc := 152) hC kc_0 d_St_copyOf_152 ?_
  refine g_aload_n (pc := 153) hC (i := 0) (x := (V.2.2.1 st 0)) rfl rfl d_St_copyOf_153 ?_
  refine g_getA (pc := 154) hC fo_St_49 (ob_St hV hst) rfl d_St_copyOf_154 ?_
  refine g_iconst (pc := 157) hC kc_0 d_St_copyOf_157 ?_
  refine g_bipush (pc := 158) hC kb_8 d_St_copyOf_158 ?_
  refine g_copy (pc := 160) hC lk_St_58 (ar_St_12 hV hst2) (ar_St_12 hV hst) (Nat.le_of_ble_eq_true rfl) ⟨Nat.le_of_ble_eq_true rfl, Nat.le_of_ble_eq_true rfl⟩ d_St_copyOf_160 h (fun h => ?_)
  refine g_letS h (fun S160 h => ?_)
  exact g_vW (pc := 163) hC d_St_copyOf_163 h
theorem c_St_copyOf {V : WV} {l : Launch} (hV : IsC V) {st : Nat} {st2 : Nat} (hst : isSt st) (hst2 : isSt st2) {S : Mem} {z : Mem} (h : f_St_copyOf st st2 S = some z) : CV V l y_St_copyOf bc_St_copyOf 2 none 1 26 [.ref (V.2.2.1 st 0), .ref (V.2.2.1 st2 0)] S z :=
  ct_v rfl (IsC.ok hV) (Nat.le_of_ble_eq_true rfl) (fun _ _ hC => w_St_copyOf_b0 hV hst hst2 hC S h)
