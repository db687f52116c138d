/-! methods of the bytecode as functions, and the machine's walks of them. By program (wip/whole/gen/make.py): Co_whisper, Co_drill, Co_tell, Co_go, Co_cut, Co_undo, Co_hold, Co_restore, Co_lookAhead, Co_wellIn, Co_manIn, Co_dryBy, Co_first, Co_isSet, Co_isRain, Co_rain, Co_rainAt, Co_isSeeds, Co_odds, Co_deaths, Co_worth, Co_silence, Co_reach, Co_holds, Co_rings, Co_quiet, Co_note, Co_forget, Co_isKnownBy, Co_truth, Co_sure -/
def f_Co_whisper_b0 (x1 : Int32) (x2 : Int32) (x3 : Int32) (S : Mem) : Option (Int32 × Mem) :=
  Option.bind (f_Co_whisperInto x1 x2 x3 0 S) (fun q5 =>
  some (q5.1, q5.2))
def f_Co_whisper (x1 : Int32) (x2 : Int32) (x3 : Int32) (S : Mem) : Option (Int32 × Mem) := f_Co_whisper_b0  x1 x2 x3 S
theorem d_Co_whisper_0 : decode bc_Co_whisper 0 = .ok (.aload_n 0, 1) := by decide +kernel
theorem d_Co_whisper_1 : decode bc_Co_whisper 1 = .ok (.iload_n 1, 1) := by decide +kernel
theorem d_Co_whisper_2 : decode bc_Co_whisper 2 = .ok (.iload_n 2, 1) := by decide +kernel
theorem d_Co_whisper_3 : decode bc_Co_whisper 3 = .ok (.iload_n 3, 1) := by decide +kernel
theorem d_Co_whisper_4 : decode bc_Co_whisper 4 = .ok (.iconst 0, 1) := by decide +kernel
theorem d_Co_whisper_5 : decode bc_Co_whisper 5 = .ok (.invokevirtual 258, 3) := by decide +kernel
theorem d_Co_whisper_8 : decode bc_Co_whisper 8 = .ok (.ireturn, 1) := by decide +kernel
set_option maxRecDepth 20000 in
theorem w_Co_whisper_b0 {X : CX} {V : WV} (hV : IsC V) {z : Int32 × Mem} (hC : Ck X V bc_Co_whisper 4 "SecretWells" (some .int) 4 93) (x1 : Int32) (x2 : Int32) (x3 : Int32) (S : Mem) (h : f_Co_whisper_b0  x1 x2 x3 S = some z) : G X V 4 (QI X V z.1 z.2) 0 [some (.ref (V.2.2.1 0 0)), some (.int x1), some (.int x2), some (.int x3)] [] S := by
  unfold f_Co_whisper_b0 at h
  refine g_aload_n (pc := 0) hC (i := 0) (x := (V.2.2.1 0 0)) rfl rfl d_Co_whisper_0 ?_
  refine g_iload_n (pc := 1) hC (i := 1) (x := x1) rfl rfl d_Co_whisper_1 ?_
  refine g_iload_n (pc := 2) hC (i := 2) (x := x2) rfl rfl d_Co_whisper_2 ?_
  refine g_iload_n (pc := 3) hC (i := 3) (x := x3) rfl rfl d_Co_whisper_3 ?_
  refine g_iconst (pc := 4) hC kc_0 d_Co_whisper_4 ?_
  obtain ⟨q5, hq5, h⟩ := Option.bind_eq_some_iff.mp h
  refine g_vi (pc := 5) hC (As := [.int x1, .int x2, .int x3, .int 0]) (st := []) mt_Co_whisperInto lk_Co_258 rfl (ob_Co hV) (Nat.le_of_ble_eq_true rfl) ⟨Nat.le_of_ble_eq_true rfl, Nat.le_of_ble_eq_true rfl⟩ rfl d_Co_whisper_5 (c_Co_whisperInto hV hq5) ?_
  exact g_iW (pc := 8) hC rfl d_Co_whisper_8 h
theorem c_Co_whisper {V : WV} {l : Launch} (hV : IsC V) {x1 : Int32} {x2 : Int32} {x3 : Int32} {S : Mem} {z : Int32 × Mem} (h : f_Co_whisper x1 x2 x3 S = some z) : CI V l y_Co_whisper bc_Co_whisper 4 (some .int) 4 93 [.ref (V.2.2.1 0 0), .int x1, .int x2, .int x3] S z.1 z.2 :=
  ct_i rfl (IsC.ok hV) (Nat.le_of_ble_eq_true rfl) (fun _ _ hC => w_Co_whisper_b0 hV hC x1 x2 x3 S h)
def f_Co_drill_b0 (x1 : Int32) (x2 : Int32) (x3 : Int32) (S : Mem) : Option (Int32 × Mem) :=
  gTx (S.1 0 11) (
  Option.bind (f_Co_whisperInto x1 x2 x3 (S.1 ((S.1 0 11).toNatClampNeg) 6) S) (fun q11 =>
  some (q11.1, q11.2)))
def f_Co_drill (x1 : Int32) (x2 : Int32) (x3 : Int32) (S : Mem) : Option (Int32 × Mem) := f_Co_drill_b0  x1 x2 x3 S
theorem d_Co_drill_0 : decode bc_Co_drill 0 = .ok (.aload_n 0, 1) := by decide +kernel
theorem d_Co_drill_1 : decode bc_Co_drill 1 = .ok (.iload_n 1, 1) := by decide +kernel
theorem d_Co_drill_2 : decode bc_Co_drill 2 = .ok (.iload_n 2, 1) := by decide +kernel
theorem d_Co_drill_3 : decode bc_Co_drill 3 = .ok (.iload_n 3, 1) := by decide +kernel
theorem d_Co_drill_4 : decode bc_Co_drill 4 = .ok (.aload_n 0, 1) := by decide +kernel
theorem d_Co_drill_5 : decode bc_Co_drill 5 = .ok (.getfield 85, 3) := by decide +kernel
theorem d_Co_drill_8 : decode bc_Co_drill 8 = .ok (.getfield 262, 3) := by decide +kernel
theorem d_Co_drill_11 : decode bc_Co_drill 11 = .ok (.invokevirtual 258, 3) := by decide +kernel
theorem d_Co_drill_14 : decode bc_Co_drill 14 = .ok (.ireturn, 1) := by decide +kernel
set_option maxRecDepth 20000 in
theorem w_Co_drill_b0 {X : CX} {V : WV} (hV : IsC V) {z : Int32 × Mem} (hC : Ck X V bc_Co_drill 4 "SecretWells" (some .int) 4 93) (x1 : Int32) (x2 : Int32) (x3 : Int32) (S : Mem) (h : f_Co_drill_b0  x1 x2 x3 S = some z) : G X V 4 (QI X V z.1 z.2) 0 [some (.ref (V.2.2.1 0 0)), some (.int x1), some (.int x2), some (.int x3)] [] S := by
  unfold f_Co_drill_b0 at h
  refine g_aload_n (pc := 0) hC (i := 0) (x := (V.2.2.1 0 0)) rfl rfl d_Co_drill_0 ?_
  refine g_iload_n (pc := 1) hC (i := 1) (x := x1) rfl rfl d_Co_drill_1 ?_
  refine g_iload_n (pc := 2) hC (i := 2) (x := x2) rfl rfl d_Co_drill_2 ?_
  refine g_iload_n (pc := 3) hC (i := 3) (x := x3) rfl rfl d_Co_drill_3 ?_
  refine g_aload_n (pc := 4) hC (i := 0) (x := (V.2.2.1 0 0)) rfl rfl d_Co_drill_4 ?_
  refine g_getM (pc := 5) hC fo_Co_85 (ob_Co hV) rfl d_Co_drill_5 ?_
  obtain ⟨ht5, h⟩ := gTx_some h
  refine g_getI (pc := 8) hC fo_Co_262 (ob_Tx hV ht5) rfl d_Co_drill_8 ?_
  obtain ⟨q11, hq11, h⟩ := Option.bind_eq_some_iff.mp h
  refine g_vi (pc := 11) hC (As := [.int x1, .int x2, .int x3, .int (S.1 ((S.1 0 11).toNatClampNeg) 6)]) (st := []) mt_Co_whisperInto lk_Co_258 rfl (ob_Co hV) (Nat.le_of_ble_eq_true rfl) ⟨Nat.le_of_ble_eq_true rfl, Nat.le_of_ble_eq_true rfl⟩ rfl d_Co_drill_11 (c_Co_whisperInto hV hq11) ?_
  exact g_iW (pc := 14) hC rfl d_Co_drill_14 h
theorem c_Co_drill {V : WV} {l : Launch} (hV : IsC V) {x1 : Int32} {x2 : Int32} {x3 : Int32} {S : Mem} {z : Int32 × Mem} (h : f_Co_drill x1 x2 x3 S = some z) : CI V l y_Co_drill bc_Co_drill 4 (some .int) 4 93 [.ref (V.2.2.1 0 0), .int x1, .int x2, .int x3] S z.1 z.2 :=
  ct_i rfl (IsC.ok hV) (Nat.le_of_ble_eq_true rfl) (fun _ _ hC => w_Co_drill_b0 hV hC x1 x2 x3 S h)
def f_Co_tell_b0 (x1 : Int32) (x2 : Int32) (x3 : Int32) (S : Mem) : Option (Int32 × Mem) :=
  Option.bind (f_Co_isMan x1 S) (fun q2 =>
  if q2 = 0 then
    some (0, S)
  else
    Option.bind (f_Co_isMan x2 S) (fun q10 =>
    if q10 = 0 then
      some (0, S)
    else
      Option.bind (f_Co_isSecret x3 S) (fun q18 =>
      if q18 = 0 then
        some (0, S)
      else
        Option.bind (f_St_isAlive 4 x1 S) (fun q31 =>
        if q31 = 0 then
          some (0, S)
        else
          Option.bind (f_St_isAlive 4 x2 S) (fun q42 =>
          if q42 = 0 then
            some (0, S)
          else
            Option.bind (f_St_isKnownTo 4 x1 x3 S) (fun q56 =>
            if q56 = 0 then
              some (0, S)
            else
              Option.bind (f_St_isKnownTo 4 x2 x3 S) (fun q68 =>
              if q68 = 0 then
                Option.bind (f_Co_keepForUndo S) (fun q77 =>
                gIn x2 7 (
                gIn x2 7 (letS (sA q77 4 7 x2 ((q77.2.1 4 7 x2.toNatClampNeg) ||| ((1 : Int32) <<< (x3 &&& 31)))) (fun S94 =>
                Option.bind (f_Co_changed S94) (fun q96 =>
                some (1, q96))))))
              else
                some (0, S))))))))
def f_Co_tell (x1 : Int32) (x2 : Int32) (x3 : Int32) (S : Mem) : Option (Int32 × Mem) := f_Co_tell_b0  x1 x2 x3 S
theorem d_Co_tell_0 : decode bc_Co_tell 0 = .ok (.aload_n 0, 1) := by decide +kernel
theorem d_Co_tell_1 : decode bc_Co_tell 1 = .ok (.iload_n 1, 1) := by decide +kernel
theorem d_Co_tell_2 : decode bc_Co_tell 2 = .ok (.invokevirtual 169, 3) := by decide +kernel
theorem d_Co_tell_5 : decode bc_Co_tell 5 = .ok (.ifCond .eq 19, 3) := by decide +kernel
theorem d_Co_tell_8 : decode bc_Co_tell 8 = .ok (.aload_n 0, 1) := by decide +kernel
theorem d_Co_tell_9 : decode bc_Co_tell 9 = .ok (.iload_n 2, 1) := by decide +kernel
theorem d_Co_tell_10 : decode bc_Co_tell 10 = .ok (.invokevirtual 169, 3) := by decide +kernel
theorem d_Co_tell_13 : decode bc_Co_tell 13 = .ok (.ifCond .eq 11, 3) := by decide +kernel
theorem d_Co_tell_16 : decode bc_Co_tell 16 = .ok (.aload_n 0, 1) := by decide +kernel
theorem d_Co_tell_17 : decode bc_Co_tell 17 = .ok (.iload_n 3, 1) := by decide +kernel
theorem d_Co_tell_18 : decode bc_Co_tell 18 = .ok (.invokevirtual 187, 3) := by decide +kernel
theorem d_Co_tell_21 : decode bc_Co_tell 21 = .ok (.ifCond .ne 5, 3) := by decide +kernel
theorem d_Co_tell_24 : decode bc_Co_tell 24 = .ok (.iconst 0, 1) := by decide +kernel
theorem d_Co_tell_25 : decode bc_Co_tell 25 = .ok (.ireturn, 1) := by decide +kernel
theorem d_Co_tell_26 : decode bc_Co_tell 26 = .ok (.aload_n 0, 1) := by decide +kernel
theorem d_Co_tell_27 : decode bc_Co_tell 27 = .ok (.getfield 35, 3) := by decide +kernel
theorem d_Co_tell_30 : decode bc_Co_tell 30 = .ok (.iload_n 1, 1) := by decide +kernel
theorem d_Co_tell_31 : decode bc_Co_tell 31 = .ok (.invokevirtual 172, 3) := by decide +kernel
theorem d_Co_tell_34 : decode bc_Co_tell 34 = .ok (.ifCond .eq 14, 3) := by decide +kernel
theorem d_Co_tell_37 : decode bc_Co_tell 37 = .ok (.aload_n 0, 1) := by decide +kernel
theorem d_Co_tell_38 : decode bc_Co_tell 38 = .ok (.getfield 35, 3) := by decide +kernel
theorem d_Co_tell_41 : decode bc_Co_tell 41 = .ok (.iload_n 2, 1) := by decide +kernel
theorem d_Co_tell_42 : decode bc_Co_tell 42 = .ok (.invokevirtual 172, 3) := by decide +kernel
theorem d_Co_tell_45 : decode bc_Co_tell 45 = .ok (.ifCond .ne 5, 3) := by decide +kernel
theorem d_Co_tell_48 : decode bc_Co_tell 48 = .ok (.iconst 0, 1) := by decide +kernel
theorem d_Co_tell_49 : decode bc_Co_tell 49 = .ok (.ireturn, 1) := by decide +kernel
theorem d_Co_tell_50 : decode bc_Co_tell 50 = .ok (.aload_n 0, 1) := by decide +kernel
theorem d_Co_tell_51 : decode bc_Co_tell 51 = .ok (.getfield 35, 3) := by decide +kernel
theorem d_Co_tell_54 : decode bc_Co_tell 54 = .ok (.iload_n 1, 1) := by decide +kernel
theorem d_Co_tell_55 : decode bc_Co_tell 55 = .ok (.iload_n 3, 1) := by decide +kernel
theorem d_Co_tell_56 : decode bc_Co_tell 56 = .ok (.invokevirtual 265, 3) := by decide +kernel
theorem d_Co_tell_59 : decode bc_Co_tell 59 = .ok (.ifCond .eq 15, 3) := by decide +kernel
theorem d_Co_tell_62 : decode bc_Co_tell 62 = .ok (.aload_n 0, 1) := by decide +kernel
theorem d_Co_tell_63 : decode bc_Co_tell 63 = .ok (.getfield 35, 3) := by decide +kernel
theorem d_Co_tell_66 : decode bc_Co_tell 66 = .ok (.iload_n 2, 1) := by decide +kernel
theorem d_Co_tell_67 : decode bc_Co_tell 67 = .ok (.iload_n 3, 1) := by decide +kernel
theorem d_Co_tell_68 : decode bc_Co_tell 68 = .ok (.invokevirtual 265, 3) := by decide +kernel
theorem d_Co_tell_71 : decode bc_Co_tell 71 = .ok (.ifCond .eq 5, 3) := by decide +kernel
theorem d_Co_tell_74 : decode bc_Co_tell 74 = .ok (.iconst 0, 1) := by decide +kernel
theorem d_Co_tell_75 : decode bc_Co_tell 75 = .ok (.ireturn, 1) := by decide +kernel
theorem d_Co_tell_76 : decode bc_Co_tell 76 = .ok (.aload_n 0, 1) := by decide +kernel
theorem d_Co_tell_77 : decode bc_Co_tell 77 = .ok (.invokevirtual 248, 3) := by decide +kernel
theorem d_Co_tell_80 : decode bc_Co_tell 80 = .ok (.aload_n 0, 1) := by decide +kernel
theorem d_Co_tell_81 : decode bc_Co_tell 81 = .ok (.getfield 35, 3) := by decide +kernel
theorem d_Co_tell_84 : decode bc_Co_tell 84 = .ok (.getfield 181, 3) := by decide +kernel
theorem d_Co_tell_87 : decode bc_Co_tell 87 = .ok (.iload_n 2, 1) := by decide +kernel
theorem d_Co_tell_88 : decode bc_Co_tell 88 = .ok (.dup2, 1) := by decide +kernel
theorem d_Co_tell_89 : decode bc_Co_tell 89 = .ok (.iaload, 1) := by decide +kernel
theorem d_Co_tell_90 : decode bc_Co_tell 90 = .ok (.iconst 1, 1) := by decide +kernel
theorem d_Co_tell_91 : decode bc_Co_tell 91 = .ok (.iload_n 3, 1) := by decide +kernel
theorem d_Co_tell_92 : decode bc_Co_tell 92 = .ok (.ishl, 1) := by decide +kernel
theorem d_Co_tell_93 : decode bc_Co_tell 93 = .ok (.ior, 1) := by decide +kernel
theorem d_Co_tell_94 : decode bc_Co_tell 94 = .ok (.iastore, 1) := by decide +kernel
theorem d_Co_tell_95 : decode bc_Co_tell 95 = .ok (.aload_n 0, 1) := by decide +kernel
theorem d_Co_tell_96 : decode bc_Co_tell 96 = .ok (.invokevirtual 141, 3) := by decide +kernel
theorem d_Co_tell_99 : decode bc_Co_tell 99 = .ok (.iconst 1, 1) := by decide +kernel
theorem d_Co_tell_100 : decode bc_Co_tell 100 = .ok (.ireturn, 1) := by decide +kernel
set_option maxRecDepth 20000 in
theorem w_Co_tell_b0 {X : CX} {V : WV} (hV : IsC V) {z : Int32 × Mem} (hC : Ck X V bc_Co_tell 4 "SecretWells" (some .boolean) 3 69) (x1 : Int32) (x2 : Int32) (x3 : Int32) (S : Mem) (h : f_Co_tell_b0  x1 x2 x3 S = some z) : G X V 4 (QI X V z.1 z.2) 0 [some (.ref (V.2.2.1 0 0)), some (.int x1), some (.int x2), some (.int x3)] [] S := by
  unfold f_Co_tell_b0 at h
  refine g_aload_n (pc := 0) hC (i := 0) (x := (V.2.2.1 0 0)) rfl rfl d_Co_tell_0 ?_
  refine g_iload_n (pc := 1) hC (i := 1) (x := x1) rfl rfl d_Co_tell_1 ?_
  obtain ⟨q2, hq2, h⟩ := Option.bind_eq_some_iff.mp h
  refine g_vi (pc := 2) hC (As := [.int x1]) (st := []) mt_Co_isMan lk_Co_169 rfl (ob_Co hV) (Nat.le_of_ble_eq_true rfl) ⟨Nat.le_of_ble_eq_true rfl, Nat.le_of_ble_eq_true rfl⟩ rfl d_Co_tell_2 (c_Co_isMan hV hq2) ?_
  refine g_if_eq (pc := 5) hC (tgt := 24) (by decide) d_Co_tell_5 h (fun h => ?_) (fun h => ?_)
  · refine g_iconst (pc := 24) hC kc_0 d_Co_tell_24 ?_
    exact g_iW (pc := 25) hC rfl d_Co_tell_25 h
  · refine g_aload_n (pc := 8) hC (i := 0) (x := (V.2.2.1 0 0)) rfl rfl d_Co_tell_8 ?_
    refine g_iload_n (pc := 9) hC (i := 2) (x := x2) rfl rfl d_Co_tell_9 ?_
    obtain ⟨q10, hq10, h⟩ := Option.bind_eq_some_iff.mp h
    refine g_vi (pc := 10) hC (As := [.int x2]) (st := []) mt_Co_isMan lk_Co_169 rfl (ob_Co hV) (Nat.le_of_ble_eq_true rfl) ⟨Nat.le_of_ble_eq_true rfl, Nat.le_of_ble_eq_true rfl⟩ rfl d_Co_tell_10 (c_Co_isMan hV hq10) ?_
    refine g_if_eq (pc := 13) hC (tgt := 24) (by decide) d_Co_tell_13 h (fun h => ?_) (fun h => ?_)
    · refine g_iconst (pc := 24) hC kc_0 d_Co_tell_24 ?_
      exact g_iW (pc := 25) hC rfl d_Co_tell_25 h
    · refine g_aload_n (pc := 16) hC (i := 0) (x := (V.2.2.1 0 0)) rfl rfl d_Co_tell_16 ?_
      refine g_iload_n (pc := 17) hC (i := 3) (x := x3) rfl rfl d_Co_tell_17 ?_
      obtain ⟨q18, hq18, h⟩ := Option.bind_eq_some_iff.mp h
      refine g_vi (pc := 18) hC (As := [.int x3]) (st := []) mt_Co_isSecret lk_Co_187 rfl (ob_Co hV) (Nat.le_of_ble_eq_true rfl) ⟨Nat.le_of_ble_eq_true rfl, Nat.le_of_ble_eq_true rfl⟩ rfl d_Co_tell_18 (c_Co_isSecret hV hq18) ?_
      refine g_if_ne (pc := 21) hC (tgt := 26) (by decide) d_Co_tell_21 h (fun h => ?_) (fun h => ?_)
      · refine g_aload_n (pc := 26) hC (i := 0) (x := (V.2.2.1 0 0)) rfl rfl d_Co_tell_26 ?_
        refine g_getC (pc := 27) hC (j := 4) fo_Co_35 (ob_Co hV) rfl d_Co_tell_27 ?_
        refine g_iload_n (pc := 30) hC (i := 1) (x := x1) rfl rfl d_Co_tell_30 ?_
        obtain ⟨q31, hq31, h⟩ := Option.bind_eq_some_iff.mp h
        refine g_vi (pc := 31) hC (As := [.int x1]) (st := []) mt_St_isAlive lk_Co_172 rfl (ob_St hV is_4) (Nat.le_of_ble_eq_true rfl) ⟨Nat.le_of_ble_eq_true rfl, Nat.le_of_ble_eq_true rfl⟩ rfl d_Co_tell_31 (c_St_isAlive hV is_4 hq31) ?_
        refine g_if_eq (pc := 34) hC (tgt := 48) (by decide) d_Co_tell_34 h (fun h => ?_) (fun h => ?_)
        · refine g_iconst (pc := 48) hC kc_0 d_Co_tell_48 ?_
          exact g_iW (pc := 49) hC rfl d_Co_tell_49 h
        · refine g_aload_n (pc := 37) hC (i := 0) (x := (V.2.2.1 0 0)) rfl rfl d_Co_tell_37 ?_
          refine g_getC (pc := 38) hC (j := 4) fo_Co_35 (ob_Co hV) rfl d_Co_tell_38 ?_
          refine g_iload_n (pc := 41) hC (i := 2) (x := x2) rfl rfl d_Co_tell_41 ?_
          obtain ⟨q42, hq42, h⟩ := Option.bind_eq_some_iff.mp h
          refine g_vi (pc := 42) hC (As := [.int x2]) (st := []) mt_St_isAlive lk_Co_172 rfl (ob_St hV is_4) (Nat.le_of_ble_eq_true rfl) ⟨Nat.le_of_ble_eq_true rfl, Nat.le_of_ble_eq_true rfl⟩ rfl d_Co_tell_42 (c_St_isAlive hV is_4 hq42) ?_
          refine g_if_ne (pc := 45) hC (tgt := 50) (by decide) d_Co_tell_45 h (fun h => ?_) (fun h => ?_)
          · refine g_aload_n (pc := 50) hC (i := 0) (x := (V.2.2.1 0 0)) rfl rfl d_Co_tell_50 ?_
            refine g_getC (pc := 51) hC (j := 4) fo_Co_35 (ob_Co hV) rfl d_Co_tell_51 ?_
            refine g_iload_n (pc := 54) hC (i := 1) (x := x1) rfl rfl d_Co_tell_54 ?_
            refine g_iload_n (pc := 55) hC (i := 3) (x := x3) rfl rfl d_Co_tell_55 ?_
            obtain ⟨q56, hq56, h⟩ := Option.bind_eq_some_iff.mp h
            refine g_vi (pc := 56) hC (As := [.int x1, .int x3]) (st := []) mt_St_isKnownTo lk_Co_265 rfl (ob_St hV is_4) (Nat.le_of_ble_eq_true rfl) ⟨Nat.le_of_ble_eq_true rfl, Nat.le_of_ble_eq_true rfl⟩ rfl d_Co_tell_56 (c_St_isKnownTo hV is_4 hq56) ?_
            refine g_if_eq (pc := 59) hC (tgt := 74) (by decide) d_Co_tell_59 h (fun h => ?_) (fun h => ?_)
            · refine g_iconst (pc := 74) hC kc_0 d_Co_tell_74 ?_
              exact g_iW (pc := 75) hC rfl d_Co_tell_75 h
            · refine g_aload_n (pc := 62) hC (i := 0) (x := (V.2.2.1 0 0)) rfl rfl d_Co_tell_62 ?_
              refine g_getC (pc := 63) hC (j := 4) fo_Co_35 (ob_Co hV) rfl d_Co_tell_63 ?_
              refine g_iload_n (pc := 66) hC (i := 2) (x := x2) rfl rfl d_Co_tell_66 ?_
              refine g_iload_n (pc := 67) hC (i := 3) (x := x3) rfl rfl d_Co_tell_67 ?_
              obtain ⟨q68, hq68, h⟩ := Option.bind_eq_some_iff.mp h
              refine g_vi (pc := 68) hC (As := [.int x2, .int x3]) (st := []) mt_St_isKnownTo lk_Co_265 rfl (ob_St hV is_4) (Nat.le_of_ble_eq_true rfl) ⟨Nat.le_of_ble_eq_true rfl, Nat.le_of_ble_eq_true rfl⟩ rfl d_Co_tell_68 (c_St_isKnownTo hV is_4 hq68) ?_
              refine g_if_eq (pc := 71) hC (tgt := 76) (by decide) d_Co_tell_71 h (fun h => ?_) (fun h => ?_)
              · refine g_aload_n (pc := 76) hC (i := 0) (x := (V.2.2.1 0 0)) rfl rfl d_Co_tell_76 ?_
                obtain ⟨q77, hq77, h⟩ := Option.bind_eq_some_iff.mp h
                refine g_vv (pc := 77) hC (As := []) (st := []) mt_Co_keepForUndo lk_Co_248 rfl (ob_Co hV) (Nat.le_of_ble_eq_true rfl) ⟨Nat.le_of_ble_eq_true rfl, Nat.le_of_ble_eq_true rfl⟩ rfl d_Co_tell_77 (c_Co_keepForUndo hV hq77) ?_
                refine g_aload_n (pc := 80) hC (i := 0) (x := (V.2.2.1 0 0)) rfl rfl d_Co_tell_80 ?_
                refine g_getC (pc := 81) hC (j := 4) fo_Co_35 (ob_Co hV) rfl d_Co_tell_81 ?_
                refine g_getA (pc := 84) hC fo_Co_181 (ob_St hV is_4) rfl d_Co_tell_84 ?_
                refine g_iload_n (pc := 87) hC (i := 2) (x := x2) rfl rfl d_Co_tell_87 ?_
                refine g_dup2 (pc := 88) hC rfl rfl d_Co_tell_88 ?_
                refine g_iald (pc := 89) hC (ar_St_7 hV is_4) d_Co_tell_89 h (fun h => ?_)
                refine g_iconst (pc := 90) hC kc_1 d_Co_tell_90 ?_
                refine g_iload_n (pc := 91) hC (i := 3) (x := x3) rfl rfl d_Co_tell_91 ?_
                refine g_ishl (pc := 92) hC d_Co_tell_92 ?_
                refine g_ior (pc := 93) hC d_Co_tell_93 ?_
                refine g_iast (pc := 94) hC (ar_St_7 hV is_4) d_Co_tell_94 h (fun h => ?_)
                refine g_letS h (fun S94 h => ?_)
                refine g_aload_n (pc := 95) hC (i := 0) (x := (V.2.2.1 0 0)) rfl rfl d_Co_tell_95 ?_
                obtain ⟨q96, hq96, h⟩ := Option.bind_eq_some_iff.mp h
                refine g_vv (pc := 96) hC (As := []) (st := []) mt_Co_changed lk_Co_141 rfl (ob_Co hV) (Nat.le_of_ble_eq_true rfl) ⟨Nat.le_of_ble_eq_true rfl, Nat.le_of_ble_eq_true rfl⟩ rfl d_Co_tell_96 (c_Co_changed hV hq96) ?_
                refine g_iconst (pc := 99) hC kc_1 d_Co_tell_99 ?_
                exact g_iW (pc := 100) hC rfl d_Co_tell_100 h
              · refine g_iconst (pc := 74) hC kc_0 d_Co_tell_74 ?_
                exact g_iW (pc := 75) hC rfl d_Co_tell_75 h
          · refine g_iconst (pc := 48) hC kc_0 d_Co_tell_48 ?_
            exact g_iW (pc := 49) hC rfl d_Co_tell_49 h
      · refine g_iconst (pc := 24) hC kc_0 d_Co_tell_24 ?_
        exact g_iW (pc := 25) hC rfl d_Co_tell_25 h
theorem c_Co_tell {V : WV} {l : Launch} (hV : IsC V) {x1 : Int32} {x2 : Int32} {x3 : Int32} {S : Mem} {z : Int32 × Mem} (h : f_Co_tell x1 x2 x3 S = some z) : CI V l y_Co_tell bc_Co_tell 4 (some .boolean) 3 69 [.ref (V.2.2.1 0 0), .int x1, .int x2, .int x3] S z.1 z.2 :=
  ct_i rfl (IsC.ok hV) (Nat.le_of_ble_eq_true rfl) (fun _ _ hC => w_Co_tell_b0 hV hC x1 x2 x3 S h)
def f_Co_go_b0 (x1 : Int32) (x2 : Int32) (S : Mem) : Option (Int32 × Mem) :=
  Option.bind (f_Co_isMan x1 S) (fun q2 =>
  if q2 = 0 then
    some (0, S)
  else
    Option.bind (f_Co_isWell x2 S) (fun q10 =>
    if q10 = 0 then
      some (0, S)
    else
      Option.bind (f_St_isAlive 4 x1 S) (fun q21 =>
      if q21 = 0 then
        some (0, S)
      else
        gIn x1 7 (
        if (S.2.1 4 5 x1.toNatClampNeg) = x2 then
          some (0, S)
        else
          Option.bind (f_Co_keepForUndo S) (fun q43 =>
          gIn x1 7 (letS (sA q43 4 5 x1 x2) (fun S55 =>
          Option.bind (f_Co_changed S55) (fun q57 =>
          some (1, q57)))))))))
def f_Co_go (x1 : Int32) (x2 : Int32) (S : Mem) : Option (Int32 × Mem) := f_Co_go_b0  x1 x2 S
theorem d_Co_go_0 : decode bc_Co_go 0 = .ok (.aload_n 0, 1) := by decide +kernel
theorem d_Co_go_1 : decode bc_Co_go 1 = .ok (.iload_n 1, 1) := by decide +kernel
theorem d_Co_go_2 : decode bc_Co_go 2 = .ok (.invokevirtual 169, 3) := by decide +kernel
theorem d_Co_go_5 : decode bc_Co_go 5 = .ok (.ifCond .eq 35, 3) := by decide +kernel
theorem d_Co_go_8 : decode bc_Co_go 8 = .ok (.aload_n 0, 1) := by decide +kernel
theorem d_Co_go_9 : decode bc_Co_go 9 = .ok (.iload_n 2, 1) := by decide +kernel
theorem d_Co_go_10 : decode bc_Co_go 10 = .ok (.invokevirtual 144, 3) := by decide +kernel
theorem d_Co_go_13 : decode bc_Co_go 13 = .ok (.ifCond .eq 27, 3) := by decide +kernel
theorem d_Co_go_16 : decode bc_Co_go 16 = .ok (.aload_n 0, 1) := by decide +kernel
theorem d_Co_go_17 : decode bc_Co_go 17 = .ok (.getfield 35, 3) := by decide +kernel
theorem d_Co_go_20 : decode bc_Co_go 20 = .ok (.iload_n 1, 1) := by decide +kernel
theorem d_Co_go_21 : decode bc_Co_go 21 = .ok (.invokevirtual 172, 3) := by decide +kernel
theorem d_Co_go_24 : decode bc_Co_go 24 = .ok (.ifCond .eq 16, 3) := by decide +kernel
theorem d_Co_go_27 : decode bc_Co_go 27 = .ok (.aload_n 0, 1) := by decide +kernel
theorem d_Co_go_28 : decode bc_Co_go 28 = .ok (.getfield 35, 3) := by decide +kernel
theorem d_Co_go_31 : decode bc_Co_go 31 = .ok (.getfield 175, 3) := by decide +kernel
theorem d_Co_go_34 : decode bc_Co_go 34 = .ok (.iload_n 1, 1) := by decide +kernel
theorem d_Co_go_35 : decode bc_Co_go 35 = .ok (.iaload, 1) := by decide +kernel
theorem d_Co_go_36 : decode bc_Co_go 36 = .ok (.iload_n 2, 1) := by decide +kernel
theorem d_Co_go_37 : decode bc_Co_go 37 = .ok (.if_icmp .ne 5, 3) := by decide +kernel
theorem d_Co_go_40 : decode bc_Co_go 40 = .ok (.iconst 0, 1) := by decide +kernel
theorem d_Co_go_41 : decode bc_Co_go 41 = .ok (.ireturn, 1) := by decide +kernel
theorem d_Co_go_42 : decode bc_Co_go 42 = .ok (.aload_n 0, 1) := by decide +kernel
theorem d_Co_go_43 : decode bc_Co_go 43 = .ok (.invokevirtual 248, 3) := by decide +kernel
theorem d_Co_go_46 : decode bc_Co_go 46 = .ok (.aload_n 0, 1) := by decide +kernel
theorem d_Co_go_47 : decode bc_Co_go 47 = .ok (.getfield 35, 3) := by decide +kernel
theorem d_Co_go_50 : decode bc_Co_go 50 = .ok (.getfield 175, 3) := by decide +kernel
theorem d_Co_go_53 : decode bc_Co_go 53 = .ok (.iload_n 1, 1) := by decide +kernel
theorem d_Co_go_54 : decode bc_Co_go 54 = .ok (.iload_n 2, 1) := by decide +kernel
theorem d_Co_go_55 : decode bc_Co_go 55 = .ok (.iastore, 1) := by decide +kernel
theorem d_Co_go_56 : decode bc_Co_go 56 = .ok (.aload_n 0, 1) := by decide +kernel
theorem d_Co_go_57 : decode bc_Co_go 57 = .ok (.invokevirtual 141, 3) := by decide +kernel
theorem d_Co_go_60 : decode bc_Co_go 60 = .ok (.iconst 1, 1) := by decide +kernel
theorem d_Co_go_61 : decode bc_Co_go 61 = .ok (.ireturn, 1) := by decide +kernel
set_option maxRecDepth 20000 in
theorem w_Co_go_b0 {X : CX} {V : WV} (hV : IsC V) {z : Int32 × Mem} (hC : Ck X V bc_Co_go 3 "SecretWells" (some .boolean) 3 69) (x1 : Int32) (x2 : Int32) (S : Mem) (h : f_Co_go_b0  x1 x2 S = some z) : G X V 3 (QI X V z.1 z.2) 0 [some (.ref (V.2.2.1 0 0)), some (.int x1), some (.int x2)] [] S := by
  unfold f_Co_go_b0 at h
  refine g_aload_n (pc := 0) hC (i := 0) (x := (V.2.2.1 0 0)) rfl rfl d_Co_go_0 ?_
  refine g_iload_n (pc := 1) hC (i := 1) (x := x1) rfl rfl d_Co_go_1 ?_
  obtain ⟨q2, hq2, h⟩ := Option.bind_eq_some_iff.mp h
  refine g_vi (pc := 2) hC (As := [.int x1]) (st := []) mt_Co_isMan lk_Co_169 rfl (ob_Co hV) (Nat.le_of_ble_eq_true rfl) ⟨Nat.le_of_ble_eq_true rfl, Nat.le_of_ble_eq_true rfl⟩ rfl d_Co_go_2 (c_Co_isMan hV hq2) ?_
  refine g_if_eq (pc := 5) hC (tgt := 40) (by decide) d_Co_go_5 h (fun h => ?_) (fun h => ?_)
  · refine g_iconst (pc := 40) hC kc_0 d_Co_go_40 ?_
    exact g_iW (pc := 41) hC rfl d_Co_go_41 h
  · refine g_aload_n (pc := 8) hC (i := 0) (x := (V.2.2.1 0 0)) rfl rfl d_Co_go_8 ?_
    refine g_iload_n (pc := 9) hC (i := 2) (x := x2) rfl rfl d_Co_go_9 ?_
    obtain ⟨q10, hq10, h⟩ := Option.bind_eq_some_iff.mp h
    refine g_vi (pc := 10) hC (As := [.int x2]) (st := []) mt_Co_isWell lk_Co_144 rfl (ob_Co hV) (Nat.le_of_ble_eq_true rfl) ⟨Nat.le_of_ble_eq_true rfl, Nat.le_of_ble_eq_true rfl⟩ rfl d_Co_go_10 (c_Co_isWell hV hq10) ?_
    refine g_if_eq (pc := 13) hC (tgt := 40) (by decide) d_Co_go_13 h (fun h => ?_) (fun h => ?_)
    · refine g_iconst (pc := 40) hC kc_0 d_Co_go_40 ?_
      exact g_iW (pc := 41) hC rfl d_Co_go_41 h
    · refine g_aload_n (pc := 16) hC (i := 0) (x := (V.2.2.1 0 0)) rfl rfl d_Co_go_16 ?_
      refine g_getC (pc := 17) hC (j := 4) fo_Co_35 (ob_Co hV) rfl d_Co_go_17 ?_
      refine g_iload_n (pc := 20) hC (i := 1) (x := x1) rfl rfl d_Co_go_20 ?_
      obtain ⟨q21, hq21, h⟩ := Option.bind_eq_some_iff.mp h
      refine g_vi (pc := 21) hC (As := [.int x1]) (st := []) mt_St_isAlive lk_Co_172 rfl (ob_St hV is_4) (Nat.le_of_ble_eq_true rfl) ⟨Nat.le_of_ble_eq_true rfl, Nat.le_of_ble_eq_true rfl⟩ rfl d_Co_go_21 (c_St_isAlive hV is_4 hq21) ?_
      refine g_if_eq (pc := 24) hC (tgt := 40) (by decide) d_Co_go_24 h (fun h => ?_) (fun h => ?_)
      · refine g_iconst (pc := 40) hC kc_0 d_Co_go_40 ?_
        exact g_iW (pc := 41) hC rfl d_Co_go_41 h
      · refine g_aload_n (pc := 27) hC (i := 0) (x := (V.2.2.1 0 0)) rfl rfl d_Co_go_27 ?_
        refine g_getC (pc := 28) hC (j := 4) fo_Co_35 (ob_Co hV) rfl d_Co_go_28 ?_
        refine g_getA (pc := 31) hC fo_Co_175 (ob_St hV is_4) rfl d_Co_go_31 ?_
        refine g_iload_n (pc := 34) hC (i := 1) (x := x1) rfl rfl d_Co_go_34 ?_
        refine g_iald (pc := 35) hC (ar_St_5 hV is_4) d_Co_go_35 h (fun h => ?_)
        refine g_iload_n (pc := 36) hC (i := 2) (x := x2) rfl rfl d_Co_go_36 ?_
        refine g_icmp_ne (pc := 37) hC (tgt := 42) (by decide) d_Co_go_37 h (fun h => ?_) (fun h => ?_)
        · refine g_aload_n (pc := 42) hC (i := 0) (x := (V.2.2.1 0 0)) rfl rfl d_Co_go_42 ?_
          obtain ⟨q43, hq43, h⟩ := Option.bind_eq_some_iff.mp h
          refine g_vv (pc := 43) hC (As := []) (st := []) mt_Co_keepForUndo lk_Co_248 rfl (ob_Co hV) (Nat.le_of_ble_eq_true rfl) ⟨Nat.le_of_ble_eq_true rfl, Nat.le_of_ble_eq_true rfl⟩ rfl d_Co_go_43 (c_Co_keepForUndo hV hq43) ?_
          refine g_aload_n (pc := 46) hC (i := 0) (x := (V.2.2.1 0 0)) rfl rfl d_Co_go_46 ?_
          refine g_getC (pc := 47) hC (j := 4) fo_Co_35 (ob_Co hV) rfl d_Co_go_47 ?_
          refine g_getA (pc := 50) hC fo_Co_175 (ob_St hV is_4) rfl d_Co_go_50 ?_
          refine g_iload_n (pc := 53) hC (i := 1) (x := x1) rfl rfl d_Co_go_53 ?_
          refine g_iload_n (pc := 54) hC (i := 2) (x := x2) rfl rfl d_Co_go_54 ?_
          refine g_iast (pc := 55) hC (ar_St_5 hV is_4) d_Co_go_55 h (fun h => ?_)
          refine g_letS h (fun S55 h => ?_)
          refine g_aload_n (pc := 56) hC (i := 0) (x := (V.2.2.1 0 0)) rfl rfl d_Co_go_56 ?_
          obtain ⟨q57, hq57, h⟩ := Option.bind_eq_some_iff.mp h
          refine g_vv (pc := 57) hC (As := []) (st := []) mt_Co_changed lk_Co_141 rfl (ob_Co hV) (Nat.le_of_ble_eq_true rfl) ⟨Nat.le_of_ble_eq_true rfl, Nat.le_of_ble_eq_true rfl⟩ rfl d_Co_go_57 (c_Co_changed hV hq57) ?_
          refine g_iconst (pc := 60) hC kc_1 d_Co_go_60 ?_
          exact g_iW (pc := 61) hC rfl d_Co_go_61 h
        · refine g_iconst (pc := 40) hC kc_0 d_Co_go_40 ?_
          exact g_iW (pc := 41) hC rfl d_Co_go_41 h
theorem c_Co_go {V : WV} {l : Launch} (hV : IsC V) {x1 : Int32} {x2 : Int32} {S : Mem} {z : Int32 × Mem} (h : f_Co_go x1 x2 S = some z) : CI V l y_Co_go bc_Co_go 3 (some .boolean) 3 69 [.ref (V.2.2.1 0 0), .int x1, .int x2] S z.1 z.2 :=
  ct_i rfl (IsC.ok hV) (Nat.le_of_ble_eq_true rfl) (fun _ _ hC => w_Co_go_b0 hV hC x1 x2 S h)
def f_Co_cut_b0 (x1 : Int32) (x2 : Int32) (S : Mem) : Option (Int32 × Mem) :=
  Option.bind (f_Co_isTie x1 S) (fun q2 =>
  if q2 = 0 then
    some (0, S)
  else
    Option.bind (f_St_isCut 4 x1 S) (fun q13 =>
    if q13 = x2 then
      some (0, S)
    else
      Option.bind (f_Co_keepForUndo S) (fun q23 =>
      letS (pI q23 4 2 ((q23.1 4 2) ^^^ ((1 : Int32) <<< (x1 &&& 31)))) (fun S38 =>
      Option.bind (f_Co_changed S38) (fun q42 =>
      some (1, q42))))))
def f_Co_cut (x1 : Int32) (x2 : Int32) (S : Mem) : Option (Int32 × Mem) := f_Co_cut_b0  x1 x2 S
theorem d_Co_cut_0 : decode bc_Co_cut 0 = .ok (.aload_n 0, 1) := by decide +kernel
theorem d_Co_cut_1 : decode bc_Co_cut 1 = .ok (.iload_n 1, 1) := by decide +kernel
theorem d_Co_cut_2 : decode bc_Co_cut 2 = .ok (.invokevirtual 208, 3) := by decide +kernel
theorem d_Co_cut_5 : decode bc_Co_cut 5 = .ok (.ifCond .eq 15, 3) := by decide +kernel
theorem d_Co_cut_8 : decode bc_Co_cut 8 = .ok (.aload_n 0, 1) := by decide +kernel
theorem d_Co_cut_9 : decode bc_Co_cut 9 = .ok (.getfield 35, 3) := by decide +kernel
theorem d_Co_cut_12 : decode bc_Co_cut 12 = .ok (.iload_n 1, 1) := by decide +kernel
theorem d_Co_cut_13 : decode bc_Co_cut 13 = .ok (.invokevirtual 275, 3) := by decide +kernel
theorem d_Co_cut_16 : decode bc_Co_cut 16 = .ok (.iload_n 2, 1) := by decide +kernel
theorem d_Co_cut_17 : decode bc_Co_cut 17 = .ok (.if_icmp .ne 5, 3) := by decide +kernel
theorem d_Co_cut_20 : decode bc_Co_cut 20 = .ok (.iconst 0, 1) := by decide +kernel
theorem d_Co_cut_21 : decode bc_Co_cut 21 = .ok (.ireturn, 1) := by decide +kernel
theorem d_Co_cut_22 : decode bc_Co_cut 22 = .ok (.aload_n 0, 1) := by decide +kernel
theorem d_Co_cut_23 : decode bc_Co_cut 23 = .ok (.invokevirtual 248, 3) := by decide +kernel
theorem d_Co_cut_26 : decode bc_Co_cut 26 = .ok (.aload_n 0, 1) := by decide +kernel
theorem d_Co_cut_27 : decode bc_Co_cut 27 = .ok (.getfield 35, 3) := by decide +kernel
theorem d_Co_cut_30 : decode bc_Co_cut 30 = .ok (.dup, 1) := by decide +kernel
theorem d_Co_cut_31 : decode bc_Co_cut 31 = .ok (.getfield 236, 3) := by decide +kernel
theorem d_Co_cut_34 : decode bc_Co_cut 34 = .ok (.iconst 1, 1) := by decide +kernel
theorem d_Co_cut_35 : decode bc_Co_cut 35 = .ok (.iload_n 1, 1) := by decide +kernel
theorem d_Co_cut_36 : decode bc_Co_cut 36 = .ok (.ishl, 1) := by decide +kernel
theorem d_Co_cut_37 : decode bc_Co_cut 37 = .ok (.ixor, 1) := by decide +kernel
theorem d_Co_cut_38 : decode bc_Co_cut 38 = .ok (.putfield 236, 3) := by decide +kernel
theorem d_Co_cut_41 : decode bc_Co_cut 41 = .ok (.aload_n 0, 1) := by decide +kernel
theorem d_Co_cut_42 : decode bc_Co_cut 42 = .ok (.invokevirtual 141, 3) := by decide +kernel
theorem d_Co_cut_45 : decode bc_Co_cut 45 = .ok (.iconst 1, 1) := by decide +kernel
theorem d_Co_cut_46 : decode bc_Co_cut 46 = .ok (.ireturn, 1) := by decide +kernel
set_option maxRecDepth 20000 in
theorem w_Co_cut_b0 {X : CX} {V : WV} (hV : IsC V) {z : Int32 × Mem} (hC : Ck X V bc_Co_cut 3 "SecretWells" (some .boolean) 3 69) (x1 : Int32) (x2 : Int32) (S : Mem) (h : f_Co_cut_b0  x1 x2 S = some z) : G X V 3 (QI X V z.1 z.2) 0 [some (.ref (V.2.2.1 0 0)), some (.int x1), some (.int x2)] [] S := by
  unfold f_Co_cut_b0 at h
  refine g_aload_n (pc := 0) hC (i := 0) (x := (V.2.2.1 0 0)) rfl rfl d_Co_cut_0 ?_
  refine g_iload_n (pc := 1) hC (i := 1) (x := x1) rfl rfl d_Co_cut_1 ?_
  obtain ⟨q2, hq2, h⟩ := Option.bind_eq_some_iff.mp h
  refine g_vi (pc := 2) hC (As := [.int x1]) (st := []) mt_Co_isTie lk_Co_208 rfl (ob_Co hV) (Nat.le_of_ble_eq_true rfl) ⟨Nat.le_of_ble_eq_true rfl, Nat.le_of_ble_eq_true rfl⟩ rfl d_Co_cut_2 (c_Co_isTie hV hq2) ?_
  refine g_if_eq (pc := 5) hC (tgt := 20) (by decide) d_Co_cut_5 h (fun h => ?_) (fun h => ?_)
  · refine g_iconst (pc := 20) hC kc_0 d_Co_cut_20 ?_
    exact g_iW (pc := 21) hC rfl d_Co_cut_21 h
  · refine g_aload_n (pc := 8) hC (i := 0) (x := (V.2.2.1 0 0)) rfl rfl d_Co_cut_8 ?_
    refine g_getC (pc := 9) hC (j := 4) fo_Co_35 (ob_Co hV) rfl d_Co_cut_9 ?_
    refine g_iload_n (pc := 12) hC (i := 1) (x := x1) rfl rfl d_Co_cut_12 ?_
    obtain ⟨q13, hq13, h⟩ := Option.bind_eq_some_iff.mp h
    refine g_vi (pc := 13) hC (As := [.int x1]) (st := []) mt_St_isCut lk_Co_275 rfl (ob_St hV is_4) (Nat.le_of_ble_eq_true rfl) ⟨Nat.le_of_ble_eq_true rfl, Nat.le_of_ble_eq_true rfl⟩ rfl d_Co_cut_13 (c_St_isCut hV is_4 hq13) ?_
    refine g_iload_n (pc := 16) hC (i := 2) (x := x2) rfl rfl d_Co_cut_16 ?_
    refine g_icmp_ne (pc := 17) hC (tgt := 22) (by decide) d_Co_cut_17 h (fun h => ?_) (fun h => ?_)
    · refine g_aload_n (pc := 22) hC (i := 0) (x := (V.2.2.1 0 0)) rfl rfl d_Co_cut_22 ?_
      obtain ⟨q23, hq23, h⟩ := Option.bind_eq_some_iff.mp h
      refine g_vv (pc := 23) hC (As := []) (st := []) mt_Co_keepForUndo lk_Co_248 rfl (ob_Co hV) (Nat.le_of_ble_eq_true rfl) ⟨Nat.le_of_ble_eq_true rfl, Nat.le_of_ble_eq_true rfl⟩ rfl d_Co_cut_23 (c_Co_keepForUndo hV hq23) ?_
      refine g_aload_n (pc := 26) hC (i := 0) (x := (V.2.2.1 0 0)) rfl rfl d_Co_cut_26 ?_
      refine g_getC (pc := 27) hC (j := 4) fo_Co_35 (ob_Co hV) rfl d_Co_cut_27 ?_
      refine g_dup (pc := 30) hC rfl d_Co_cut_30 ?_
      refine g_getI (pc := 31) hC fo_Co_236 (ob_St hV is_4) rfl d_Co_cut_31 ?_
      refine g_iconst (pc := 34) hC kc_1 d_Co_cut_34 ?_
      refine g_iload_n (pc := 35) hC (i := 1) (x := x1) rfl rfl d_Co_cut_35 ?_
      refine g_ishl (pc := 36) hC d_Co_cut_36 ?_
      refine g_ixor (pc := 37) hC d_Co_cut_37 ?_
      refine g_putI (pc := 38) hC po_Co_236 (ob_St hV is_4) rfl rfl rfl d_Co_cut_38 ?_
      refine g_letS h (fun S38 h => ?_)
      refine g_aload_n (pc := 41) hC (i := 0) (x := (V.2.2.1 0 0)) rfl rfl d_Co_cut_41 ?_
      obtain ⟨q42, hq42, h⟩ := Option.bind_eq_some_iff.mp h
      refine g_vv (pc := 42) hC (As := []) (st := []) mt_Co_changed lk_Co_141 rfl (ob_Co hV) (Nat.le_of_ble_eq_true rfl) ⟨Nat.le_of_ble_eq_true rfl, Nat.le_of_ble_eq_true rfl⟩ rfl d_Co_cut_42 (c_Co_changed hV hq42) ?_
      refine g_iconst (pc := 45) hC kc_1 d_Co_cut_45 ?_
      exact g_iW (pc := 46) hC rfl d_Co_cut_46 h
    · refine g_iconst (pc := 20) hC kc_0 d_Co_cut_20 ?_
      exact g_iW (pc := 21) hC rfl d_Co_cut_21 h
theorem c_Co_cut {V : WV} {l : Launch} (hV : IsC V) {x1 : Int32} {x2 : Int32} {S : Mem} {z : Int32 × Mem} (h : f_Co_cut x1 x2 S = some z) : CI V l y_Co_cut bc_Co_cut 3 (some .boolean) 3 69 [.ref (V.2.2.1 0 0), .int x1, .int x2] S z.1 z.2 :=
  ct_i rfl (IsC.ok hV) (Nat.le_of_ble_eq_true rfl) (fun _ _ hC => w_Co_cut_b0 hV hC x1 x2 S h)
def f_Co_undo_b0 (S : Mem) : Option (Int32 × Mem) :=
  if (S.1 0 15) = 0 then
    some (0, S)
  else
    letS (pI S 0 15 ((S.1 0 15) - 1)) (fun S16 =>
    gNz 40 (
    Option.bind (f_Rw_load 10 4 (((S16.1 0 14) + (S16.1 0 15)) - ((S16.1 0 14) + (S16.1 0 15)) / 40 * 40) S16) (fun q39 =>
    Option.bind (f_Co_changed q39) (fun q43 =>
    some (1, q43)))))
def f_Co_undo (S : Mem) : Option (Int32 × Mem) := f_Co_undo_b0  S
theorem d_Co_undo_0 : decode bc_Co_undo 0 = .ok (.aload_n 0, 1) := by decide +kernel
theorem d_Co_undo_1 : decode bc_Co_undo 1 = .ok (.getfield 99, 3) := by decide +kernel
theorem d_Co_undo_4 : decode bc_Co_undo 4 = .ok (.ifCond .ne 5, 3) := by decide +kernel
theorem d_Co_undo_7 : decode bc_Co_undo 7 = .ok (.iconst 0, 1) := by decide +kernel
theorem d_Co_undo_8 : decode bc_Co_undo 8 = .ok (.ireturn, 1) := by decide +kernel
theorem d_Co_undo_9 : decode bc_Co_undo 9 = .ok (.aload_n 0, 1) := by decide +kernel
theorem d_Co_undo_10 : decode bc_Co_undo 10 = .ok (.dup, 1) := by decide +kernel
theorem d_Co_undo_11 : decode bc_Co_undo 11 = .ok (.getfield 99, 3) := by decide +kernel
theorem d_Co_undo_14 : decode bc_Co_undo 14 = .ok (.iconst 1, 1) := by decide +kernel
theorem d_Co_undo_15 : decode bc_Co_undo 15 = .ok (.isub, 1) := by decide +kernel
theorem d_Co_undo_16 : decode bc_Co_undo 16 = .ok (.putfield 99, 3) := by decide +kernel
theorem d_Co_undo_19 : decode bc_Co_undo 19 = .ok (.aload_n 0, 1) := by decide +kernel
theorem d_Co_undo_20 : decode bc_Co_undo 20 = .ok (.getfield 75, 3) := by decide +kernel
theorem d_Co_undo_23 : decode bc_Co_undo 23 = .ok (.aload_n 0, 1) := by decide +kernel
theorem d_Co_undo_24 : decode bc_Co_undo 24 = .ok (.getfield 96, 3) := by decide +kernel
theorem d_Co_undo_27 : decode bc_Co_undo 27 = .ok (.aload_n 0, 1) := by decide +kernel
theorem d_Co_undo_28 : decode bc_Co_undo 28 = .ok (.getfield 99, 3) := by decide +kernel
theorem d_Co_undo_31 : decode bc_Co_undo 31 = .ok (.iadd, 1) := by decide +kernel
theorem d_Co_undo_32 : decode bc_Co_undo 32 = .ok (.bipush 40, 2) := by decide +kernel
theorem d_Co_undo_34 : decode bc_Co_undo 34 = .ok (.irem, 1) := by decide +kernel
theorem d_Co_undo_35 : decode bc_Co_undo 35 = .ok (.aload_n 0, 1) := by decide +kernel
theorem d_Co_undo_36 : decode bc_Co_undo 36 = .ok (.getfield 35, 3) := by decide +kernel
theorem d_Co_undo_39 : decode bc_Co_undo 39 = .ok (.invokevirtual 278, 3) := by decide +kernel
theorem d_Co_undo_42 : decode bc_Co_undo 42 = .ok (.aload_n 0, 1) := by decide +kernel
theorem d_Co_undo_43 : decode bc_Co_undo 43 = .ok (.invokevirtual 141, 3) := by decide +kernel
theorem d_Co_undo_46 : decode bc_Co_undo 46 = .ok (.iconst 1, 1) := by decide +kernel
theorem d_Co_undo_47 : decode bc_Co_undo 47 = .ok (.ireturn, 1) := by decide +kernel
set_option maxRecDepth 20000 in
theorem w_Co_undo_b0 {X : CX} {V : WV} (hV : IsC V) {z : Int32 × Mem} (hC : Ck X V bc_Co_undo 1 "SecretWells" (some .boolean) 3 69) (S : Mem) (h : f_Co_undo_b0  S = some z) : G X V 1 (QI X V z.1 z.2) 0 [some (.ref (V.2.2.1 0 0))] [] S := by
  unfold f_Co_undo_b0 at h
  refine g_aload_n (pc := 0) hC (i := 0) (x := (V.2.2.1 0 0)) rfl rfl d_Co_undo_0 ?_
  refine g_getI (pc := 1) hC fo_Co_99 (ob_Co hV) rfl d_Co_undo_1 ?_
  refine g_if_ne (pc := 4) hC (tgt := 9) (by decide) d_Co_undo_4 h (fun h => ?_) (fun h => ?_)
  · refine g_aload_n (pc := 9) hC (i := 0) (x := (V.2.2.1 0 0)) rfl rfl d_Co_undo_9 ?_
    refine g_dup (pc := 10) hC rfl d_Co_undo_10 ?_
    refine g_getI (pc := 11) hC fo_Co_99 (ob_Co hV) rfl d_Co_undo_11 ?_
    refine g_iconst (pc := 14) hC kc_1 d_Co_undo_14 ?_
    refine g_isub (pc := 15) hC d_Co_undo_15 ?_
    refine g_putI (pc := 16) hC po_Co_99 (ob_Co hV) rfl rfl rfl d_Co_undo_16 ?_
    refine g_letS h (fun S16 h => ?_)
    refine g_aload_n (pc := 19) hC (i := 0) (x := (V.2.2.1 0 0)) rfl rfl d_Co_undo_19 ?_
    refine g_getC (pc := 20) hC (j := 10) fo_Co_75 (ob_Co hV) rfl d_Co_undo_20 ?_
    refine g_aload_n (pc := 23) hC (i := 0) (x := (V.2.2.1 0 0)) rfl rfl d_Co_undo_23 ?_
    refine g_getI (pc := 24) hC fo_Co_96 (ob_Co hV) rfl d_Co_undo_24 ?_
    refine g_aload_n (pc := 27) hC (i := 0) (x := (V.2.2.1 0 0)) rfl rfl d_Co_undo_27 ?_
    refine g_getI (pc := 28) hC fo_Co_99 (ob_Co hV) rfl d_Co_undo_28 ?_
    refine g_iadd (pc := 31) hC d_Co_undo_31 ?_
    refine g_bipush (pc := 32) hC kb_40 d_Co_undo_32 ?_
    refine g_irem (pc := 34) hC d_Co_undo_34 h (fun h => ?_)
    refine g_aload_n (pc := 35) hC (i := 0) (x := (V.2.2.1 0 0)) rfl rfl d_Co_undo_35 ?_
    refine g_getC (pc := 36) hC (j := 4) fo_Co_35 (ob_Co hV) rfl d_Co_undo_36 ?_
    obtain ⟨q39, hq39, h⟩ := Option.bind_eq_some_iff.mp h
    refine g_vv (pc := 39) hC (As := [.int (((S16.1 0 14) + (S16.1 0 15)) - ((S16.1 0 14) + (S16.1 0 15)) / 40 * 40), .ref (V.2.2.1 4 0)]) (st := []) mt_Rw_load lk_Co_278 rfl (ob_Rw hV is_10) (Nat.le_of_ble_eq_true rfl) ⟨Nat.le_of_ble_eq_true rfl, Nat.le_of_ble_eq_true rfl⟩ rfl d_Co_undo_39 (c_Rw_load hV is_10 is_4 hq39) ?_
    refine g_aload_n (pc := 42) hC (i := 0) (x := (V.2.2.1 0 0)) rfl rfl d_Co_undo_42 ?_
    obtain ⟨q43, hq43, h⟩ := Option.bind_eq_some_iff.mp h
    refine g_vv (pc := 43) hC (As := []) (st := []) mt_Co_changed lk_Co_141 rfl (ob_Co hV) (Nat.le_of_ble_eq_true rfl) ⟨Nat.le_of_ble_eq_true rfl, Nat.le_of_ble_eq_true rfl⟩ rfl d_Co_undo_43 (c_Co_changed hV hq43) ?_
    refine g_iconst (pc := 46) hC kc_1 d_Co_undo_46 ?_
    exact g_iW (pc := 47) hC rfl d_Co_undo_47 h
  · refine g_iconst (pc := 7) hC kc_0 d_Co_undo_7 ?_
    exact g_iW (pc := 8) hC rfl d_Co_undo_8 h
theorem c_Co_undo {V : WV} {l : Launch} (hV : IsC V) {S : Mem} {z : Int32 × Mem} (h : f_Co_undo S = some z) : CI V l y_Co_undo bc_Co_undo 1 (some .boolean) 3 69 [.ref (V.2.2.1 0 0)] S z.1 z.2 :=
  ct_i rfl (IsC.ok hV) (Nat.le_of_ble_eq_true rfl) (fun _ _ hC => w_Co_undo_b0 hV hC S h)
def f_Co_hold_b0 (x1 : Int32) (S : Mem) : Option (Int32 × Mem) :=
  if x1 < 0 then
    some (0, S)
  else
    if x1 < 3 then
      Option.bind (f_Rw_save 11 4 x1 S) (fun q20 =>
      letS (pI q20 0 16 ((q20.1 0 16) ||| ((1 : Int32) <<< (x1 &&& 31)))) (fun S32 =>
      some (1, S32)))
    else
      some (0, S)
def f_Co_hold (x1 : Int32) (S : Mem) : Option (Int32 × Mem) := f_Co_hold_b0  x1 S
theorem d_Co_hold_0 : decode bc_Co_hold 0 = .ok (.iload_n 1, 1) := by decide +kernel
theorem d_Co_hold_1 : decode bc_Co_hold 1 = .ok (.ifCond .lt 8, 3) := by decide +kernel
theorem d_Co_hold_4 : decode bc_Co_hold 4 = .ok (.iload_n 1, 1) := by decide +kernel
theorem d_Co_hold_5 : decode bc_Co_hold 5 = .ok (.iconst 3, 1) := by decide +kernel
theorem d_Co_hold_6 : decode bc_Co_hold 6 = .ok (.if_icmp .lt 5, 3) := by decide +kernel
theorem d_Co_hold_9 : decode bc_Co_hold 9 = .ok (.iconst 0, 1) := by decide +kernel
theorem d_Co_hold_10 : decode bc_Co_hold 10 = .ok (.ireturn, 1) := by decide +kernel
theorem d_Co_hold_11 : decode bc_Co_hold 11 = .ok (.aload_n 0, 1) := by decide +kernel
theorem d_Co_hold_12 : decode bc_Co_hold 12 = .ok (.getfield 79, 3) := by decide +kernel
theorem d_Co_hold_15 : decode bc_Co_hold 15 = .ok (.iload_n 1, 1) := by decide +kernel
theorem d_Co_hold_16 : decode bc_Co_hold 16 = .ok (.aload_n 0, 1) := by decide +kernel
theorem d_Co_hold_17 : decode bc_Co_hold 17 = .ok (.getfield 35, 3) := by decide +kernel
theorem d_Co_hold_20 : decode bc_Co_hold 20 = .ok (.invokevirtual 282, 3) := by decide +kernel
theorem d_Co_hold_23 : decode bc_Co_hold 23 = .ok (.aload_n 0, 1) := by decide +kernel
theorem d_Co_hold_24 : decode bc_Co_hold 24 = .ok (.dup, 1) := by decide +kernel
theorem d_Co_hold_25 : decode bc_Co_hold 25 = .ok (.getfield 102, 3) := by decide +kernel
theorem d_Co_hold_28 : decode bc_Co_hold 28 = .ok (.iconst 1, 1) := by decide +kernel
theorem d_Co_hold_29 : decode bc_Co_hold 29 = .ok (.iload_n 1, 1) := by decide +kernel
theorem d_Co_hold_30 : decode bc_Co_hold 30 = .ok (.ishl, 1) := by decide +kernel
theorem d_Co_hold_31 : decode bc_Co_hold 31 = .ok (.ior, 1) := by decide +kernel
theorem d_Co_hold_32 : decode bc_Co_hold 32 = .ok (.putfield 102, 3) := by decide +kernel
theorem d_Co_hold_35 : decode bc_Co_hold 35 = .ok (.iconst 1, 1) := by decide +kernel
theorem d_Co_hold_36 : decode bc_Co_hold 36 = .ok (.ireturn, 1) := by decide +kernel
set_option maxRecDepth 20000 in
theorem w_Co_hold_b0 {X : CX} {V : WV} (hV : IsC V) {z : Int32 × Mem} (hC : Ck X V bc_Co_hold 2 "SecretWells" (some .boolean) 2 49) (x1 : Int32) (S : Mem) (h : f_Co_hold_b0  x1 S = some z) : G X V 2 (QI X V z.1 z.2) 0 [some (.ref (V.2.2.1 0 0)), some (.int x1)] [] S := by
  unfold f_Co_hold_b0 at h
  refine g_iload_n (pc := 0) hC (i := 1) (x := x1) rfl rfl d_Co_hold_0 ?_
  refine g_if_lt (pc := 1) hC (tgt := 9) (by decide) d_Co_hold_1 h (fun h => ?_) (fun h => ?_)
  · refine g_iconst (pc := 9) hC kc_0 d_Co_hold_9 ?_
    exact g_iW (pc := 10) hC rfl d_Co_hold_10 h
  · refine g_iload_n (pc := 4) hC (i := 1) (x := x1) rfl rfl d_Co_hold_4 ?_
    refine g_iconst (pc := 5) hC kc_3 d_Co_hold_5 ?_
    refine g_icmp_lt (pc := 6) hC (tgt := 11) (by decide) d_Co_hold_6 h (fun h => ?_) (fun h => ?_)
    · refine g_aload_n (pc := 11) hC (i := 0) (x := (V.2.2.1 0 0)) rfl rfl d_Co_hold_11 ?_
      refine g_getC (pc := 12) hC (j := 11) fo_Co_79 (ob_Co hV) rfl d_Co_hold_12 ?_
      refine g_iload_n (pc := 15) hC (i := 1) (x := x1) rfl rfl d_Co_hold_15 ?_
      refine g_aload_n (pc := 16) hC (i := 0) (x := (V.2.2.1 0 0)) rfl rfl d_Co_hold_16 ?_
      refine g_getC (pc := 17) hC (j := 4) fo_Co_35 (ob_Co hV) rfl d_Co_hold_17 ?_
      obtain ⟨q20, hq20, h⟩ := Option.bind_eq_some_iff.mp h
      refine g_vv (pc := 20) hC (As := [.int x1, .ref (V.2.2.1 4 0)]) (st := []) mt_Rw_save lk_Co_282 rfl (ob_Rw hV is_11) (Nat.le_of_ble_eq_true rfl) ⟨Nat.le_of_ble_eq_true rfl, Nat.le_of_ble_eq_true rfl⟩ rfl d_Co_hold_20 (c_Rw_save hV is_11 is_4 hq20) ?_
      refine g_aload_n (pc := 23) hC (i := 0) (x := (V.2.2.1 0 0)) rfl rfl d_Co_hold_23 ?_
      refine g_dup (pc := 24) hC rfl d_Co_hold_24 ?_
      refine g_getI (pc := 25) hC fo_Co_102 (ob_Co hV) rfl d_Co_hold_25 ?_
      refine g_iconst (pc := 28) hC kc_1 d_Co_hold_28 ?_
      refine g_iload_n (pc := 29) hC (i := 1) (x := x1) rfl rfl d_Co_hold_29 ?_
      refine g_ishl (pc := 30) hC d_Co_hold_30 ?_
      refine g_ior (pc := 31) hC d_Co_hold_31 ?_
      refine g_putI (pc := 32) hC po_Co_102 (ob_Co hV) rfl rfl rfl d_Co_hold_32 ?_
      refine g_letS h (fun S32 h => ?_)
      refine g_iconst (pc := 35) hC kc_1 d_Co_hold_35 ?_
      exact g_iW (pc := 36) hC rfl d_Co_hold_36 h
    · refine g_iconst (pc := 9) hC kc_0 d_Co_hold_9 ?_
      exact g_iW (pc := 10) hC rfl d_Co_hold_10 h
theorem c_Co_hold {V : WV} {l : Launch} (hV : IsC V) {x1 : Int32} {S : Mem} {z : Int32 × Mem} (h : f_Co_hold x1 S = some z) : CI V l y_Co_hold bc_Co_hold 2 (some .boolean) 2 49 [.ref (V.2.2.1 0 0), .int x1] S z.1 z.2 :=
  ct_i rfl (IsC.ok hV) (Nat.le_of_ble_eq_true rfl) (fun _ _ hC => w_Co_hold_b0 hV hC x1 S h)
def f_Co_restore_b0 (x1 : Int32) (S : Mem) : Option (Int32 × Mem) :=
  if x1 < 0 then
    some (0, S)
  else
    if 3 ≤ x1 then
      some (0, S)
    else
      if (((S.1 0 16) >>> (x1 &&& 31)) &&& 1) = 0 then
        some (0, S)
      else
        Option.bind (f_Rw_load 11 4 x1 S) (fun q31 =>
        Option.bind (f_Co_forgetDone q31) (fun q35 =>
        Option.bind (f_Co_changed q35) (fun q39 =>
        some (1, q39))))
def f_Co_restore (x1 : Int32) (S : Mem) : Option (Int32 × Mem) := f_Co_restore_b0  x1 S
theorem d_Co_restore_0 : decode bc_Co_restore 0 = .ok (.iload_n 1, 1) := by decide +kernel
theorem d_Co_restore_1 : decode bc_Co_restore 1 = .ok (.ifCond .lt 19, 3) := by decide +kernel
theorem d_Co_restore_4 : decode bc_Co_restore 4 = .ok (.iload_n 1, 1) := by decide +kernel
theorem d_Co_restore_5 : decode bc_Co_restore 5 = .ok (.iconst 3, 1) := by decide +kernel
theorem d_Co_restore_6 : decode bc_Co_restore 6 = .ok (.if_icmp .ge 14, 3) := by decide +kernel
theorem d_Co_restore_9 : decode bc_Co_restore 9 = .ok (.aload_n 0, 1) := by decide +kernel
theorem d_Co_restore_10 : decode bc_Co_restore 10 = .ok (.getfield 102, 3) := by decide +kernel
theorem d_Co_restore_13 : decode bc_Co_restore 13 = .ok (.iload_n 1, 1) := by decide +kernel
theorem d_Co_restore_14 : decode bc_Co_restore 14 = .ok (.ishr, 1) := by decide +kernel
theorem d_Co_restore_15 : decode bc_Co_restore 15 = .ok (.iconst 1, 1) := by decide +kernel
theorem d_Co_restore_16 : decode bc_Co_restore 16 = .ok (.iand, 1) := by decide +kernel
theorem d_Co_restore_17 : decode bc_Co_restore 17 = .ok (.ifCond .ne 5, 3) := by decide +kernel
theorem d_Co_restore_20 : decode bc_Co_restore 20 = .ok (.iconst 0, 1) := by decide +kernel
theorem d_Co_restore_21 : decode bc_Co_restore 21 = .ok (.ireturn, 1) := by decide +kernel
theorem d_Co_restore_22 : decode bc_Co_restore 22 = .ok (.aload_n 0, 1) := by decide +kernel
theorem d_Co_restore_23 : decode bc_Co_restore 23 = .ok (.getfield 79, 3) := by decide +kernel
theorem d_Co_restore_26 : decode bc_Co_restore 26 = .ok (.iload_n 1, 1) := by decide +kernel
theorem d_Co_restore_27 : decode bc_Co_restore 27 = .ok (.aload_n 0, 1) := by decide +kernel
theorem d_Co_restore_28 : decode bc_Co_restore 28 = .ok (.getfield 35, 3) := by decide +kernel
theorem d_Co_restore_31 : decode bc_Co_restore 31 = .ok (.invokevirtual 278, 3) := by decide +kernel
theorem d_Co_restore_34 : decode bc_Co_restore 34 = .ok (.aload_n 0, 1) := by decide +kernel
theorem d_Co_restore_35 : decode bc_Co_restore 35 = .ok (.invokevirtual 138, 3) := by decide +kernel
theorem d_Co_restore_38 : decode bc_Co_restore 38 = .ok (.aload_n 0, 1) := by decide +kernel
theorem d_Co_restore_39 : decode bc_Co_restore 39 = .ok (.invokevirtual 141, 3) := by decide +kernel
theorem d_Co_restore_42 : decode bc_Co_restore 42 = .ok (.iconst 1, 1) := by decide +kernel
theorem d_Co_restore_43 : decode bc_Co_restore 43 = .ok (.ireturn, 1) := by decide +kernel
set_option maxRecDepth 20000 in
theorem w_Co_restore_b0 {X : CX} {V : WV} (hV : IsC V) {z : Int32 × Mem} (hC : Ck X V bc_Co_restore 2 "SecretWells" (some .boolean) 3 69) (x1 : Int32) (S : Mem) (h : f_Co_restore_b0  x1 S = some z) : G X V 2 (QI X V z.1 z.2) 0 [some (.ref (V.2.2.1 0 0)), some (.int x1)] [] S := by
  unfold f_Co_restore_b0 at h
  refine g_iload_n (pc := 0) hC (i := 1) (x := x1) rfl rfl d_Co_restore_0 ?_
  refine g_if_lt (pc := 1) hC (tgt := 20) (by decide) d_Co_restore_1 h (fun h => ?_) (fun h => ?_)
  · refine g_iconst (pc := 20) hC kc_0 d_Co_restore_20 ?_
    exact g_iW (pc := 21) hC rfl d_Co_restore_21 h
  · refine g_iload_n (pc := 4) hC (i := 1) (x := x1) rfl rfl d_Co_restore_4 ?_
    refine g_iconst (pc := 5) hC kc_3 d_Co_restore_5 ?_
    refine g_icmp_ge (pc := 6) hC (tgt := 20) (by decide) d_Co_restore_6 h (fun h => ?_) (fun h => ?_)
    · refine g_iconst (pc := 20) hC kc_0 d_Co_restore_20 ?_
      exact g_iW (pc := 21) hC rfl d_Co_restore_21 h
    · refine g_aload_n (pc := 9) hC (i := 0) (x := (V.2.2.1 0 0)) rfl rfl d_Co_restore_9 ?_
      refine g_getI (pc := 10) hC fo_Co_102 (ob_Co hV) rfl d_Co_restore_10 ?_
      refine g_iload_n (pc := 13) hC (i := 1) (x := x1) rfl rfl d_Co_restore_13 ?_
      refine g_ishr (pc := 14) hC d_Co_restore_14 ?_
      refine g_iconst (pc := 15) hC kc_1 d_Co_restore_15 ?_
      refine g_iand (pc := 16) hC d_Co_restore_16 ?_
      refine g_if_ne (pc := 17) hC (tgt := 22) (by decide) d_Co_restore_17 h (fun h => ?_) (fun h => ?_)
      · refine g_aload_n (pc := 22) hC (i := 0) (x := (V.2.2.1 0 0)) rfl rfl d_Co_restore_22 ?_
        refine g_getC (pc := 23) hC (j := 11) fo_Co_79 (ob_Co hV) rfl d_Co_restore_23 ?_
        refine g_iload_n (pc := 26) hC (i := 1) (x := x1) rfl rfl d_Co_restore_26 ?_
        refine g_aload_n (pc := 27) hC (i := 0) (x := (V.2.2.1 0 0)) rfl rfl d_Co_restore_27 ?_
        refine g_getC (pc := 28) hC (j := 4) fo_Co_35 (ob_Co hV) rfl d_Co_restore_28 ?_
        obtain ⟨q31, hq31, h⟩ := Option.bind_eq_some_iff.mp h
        refine g_vv (pc := 31) hC (As := [.int x1, .ref (V.2.2.1 4 0)]) (st := []) mt_Rw_load lk_Co_278 rfl (ob_Rw hV is_11) (Nat.le_of_ble_eq_true rfl) ⟨Nat.le_of_ble_eq_true rfl, Nat.le_of_ble_eq_true rfl⟩ rfl d_Co_restore_31 (c_Rw_load hV is_11 is_4 hq31) ?_
        refine g_aload_n (pc := 34) hC (i := 0) (x := (V.2.2.1 0 0)) rfl rfl d_Co_restore_34 ?_
        obtain ⟨q35, hq35, h⟩ := Option.bind_eq_some_iff.mp h
        refine g_vv (pc := 35) hC (As := []) (st := []) mt_Co_forgetDone lk_Co_138 rfl (ob_Co hV) (Nat.le_of_ble_eq_true rfl) ⟨Nat.le_of_ble_eq_true rfl, Nat.le_of_ble_eq_true rfl⟩ rfl d_Co_restore_35 (c_Co_forgetDone hV hq35) ?_
        refine g_aload_n (pc := 38) hC (i := 0) (x := (V.2.2.1 0 0)) rfl rfl d_Co_restore_38 ?_
        obtain ⟨q39, hq39, h⟩ := Option.bind_eq_some_iff.mp h
        refine g_vv (pc := 39) hC (As := []) (st := []) mt_Co_changed lk_Co_141 rfl (ob_Co hV) (Nat.le_of_ble_eq_true rfl) ⟨Nat.le_of_ble_eq_true rfl, Nat.le_of_ble_eq_true rfl⟩ rfl d_Co_restore_39 (c_Co_changed hV hq39) ?_
        refine g_iconst (pc := 42) hC kc_1 d_Co_restore_42 ?_
        exact g_iW (pc := 43) hC rfl d_Co_restore_43 h
      · refine g_iconst (pc := 20) hC kc_0 d_Co_restore_20 ?_
        exact g_iW (pc := 21) hC rfl d_Co_restore_21 h
theorem c_Co_restore {V : WV} {l : Launch} (hV : IsC V) {x1 : Int32} {S : Mem} {z : Int32 × Mem} (h : f_Co_restore x1 S = some z) : CI V l y_Co_restore bc_Co_restore 2 (some .boolean) 3 69 [.ref (V.2.2.1 0 0), .int x1] S z.1 z.2 :=
  ct_i rfl (IsC.ok hV) (Nat.le_of_ble_eq_true rfl) (fun _ _ hC => w_Co_restore_b0 hV hC x1 S h)
def f_Co_lookAhead_b13 (k13 : Int32 → Int32 → Int32 → Mem → Option (Mem)) (x1 : Int32) (x2 : Int32) (x3 : Int32) (S : Mem) : Option (Mem) :=
  if x1 ≤ x3 then
    some S
  else
    gTx (S.1 0 11) (
    Option.bind (f_Dy_pass ((S.1 0 11).toNatClampNeg) 5 x2 S) (fun q31 =>
    k13 x1 x2 (x3 + 1) q31))
def f_Co_lookAhead_l13 : Nat → Int32 → Int32 → Int32 → Mem → Option (Mem)
  | 0 => fun _ _ _ _ => none
  | n + 1 => f_Co_lookAhead_b13  (f_Co_lookAhead_l13  n)
def f_Co_lookAhead_b0 (x1 : Int32) (x2 : Int32) (S : Mem) : Option (Mem) :=
  Option.bind (f_St_copyOf 5 4 S) (fun q8 =>
  f_Co_lookAhead_l13 5000 x1 x2 0 q8)
def f_Co_lookAhead (x1 : Int32) (x2 : Int32) (S : Mem) : Option (Mem) := f_Co_lookAhead_b0  x1 x2 S
theorem d_Co_lookAhead_0 : decode bc_Co_lookAhead 0 = .ok (.aload_n 0, 1) := by decide +kernel
theorem d_Co_lookAhead_1 : decode bc_Co_lookAhead 1 = .ok (.getfield 39, 3) := by decide +kernel
theorem d_Co_lookAhead_4 : decode bc_Co_lookAhead 4 = .ok (.aload_n 0, 1) := by decide +kernel
theorem d_Co_lookAhead_5 : decode bc_Co_lookAhead 5 = .ok (.getfield 35, 3) := by decide +kernel
theorem d_Co_lookAhead_8 : decode bc_Co_lookAhead 8 = .ok (.invokevirtual 299, 3) := by decide +kernel
theorem d_Co_lookAhead_11 : decode bc_Co_lookAhead 11 = .ok (.iconst 0, 1) := by decide +kernel
theorem d_Co_lookAhead_12 : decode bc_Co_lookAhead 12 = .ok (.istore_n 3, 1) := by decide +kernel
theorem d_Co_lookAhead_13 : decode bc_Co_lookAhead 13 = .ok (.iload_n 3, 1) := by decide +kernel
theorem d_Co_lookAhead_14 : decode bc_Co_lookAhead 14 = .ok (.iload_n 1, 1) := by decide +kernel
theorem d_Co_lookAhead_15 : decode bc_Co_lookAhead 15 = .ok (.if_icmp .ge 25, 3) := by decide +kernel
theorem d_Co_lookAhead_18 : decode bc_Co_lookAhead 18 = .ok (.aload_n 0, 1) := by decide +kernel
theorem d_Co_lookAhead_19 : decode bc_Co_lookAhead 19 = .ok (.getfield 45, 3) := by decide +kernel
theorem d_Co_lookAhead_22 : decode bc_Co_lookAhead 22 = .ok (.aload_n 0, 1) := by decide +kernel
theorem d_Co_lookAhead_23 : decode bc_Co_lookAhead 23 = .ok (.getfield 85, 3) := by decide +kernel
theorem d_Co_lookAhead_26 : decode bc_Co_lookAhead 26 = .ok (.aload_n 0, 1) := by decide +kernel
theorem d_Co_lookAhead_27 : decode bc_Co_lookAhead 27 = .ok (.getfield 39, 3) := by decide +kernel
theorem d_Co_lookAhead_30 : decode bc_Co_lookAhead 30 = .ok (.iload_n 2, 1) := by decide +kernel
theorem d_Co_lookAhead_31 : decode bc_Co_lookAhead 31 = .ok (.invokevirtual 254, 3) := by decide +kernel
theorem d_Co_lookAhead_34 : decode bc_Co_lookAhead 34 = .ok (.iinc 3 1, 3) := by decide +kernel
theorem d_Co_lookAhead_37 : decode bc_Co_lookAhead 37 = .ok (.goto (-24), 3) := by decide +kernel
theorem d_Co_lookAhead_40 : decode bc_Co_lookAhead 40 = .ok (.return_, 1) := by decide +kernel
set_option maxRecDepth 20000 in
theorem w_Co_lookAhead_b13 {X : CX} {V : WV} (hV : IsC V) {z : Mem} (hC : Ck X V bc_Co_lookAhead 4 "SecretWells" none 5 129) (k13 : Int32 → Int32 → Int32 → Mem → Option (Mem)) (hk13 : ∀ (x1 : Int32) (x2 : Int32) (x3 : Int32) (S : Mem), k13 x1 x2 x3 S = some z → G X V 4 (QV X V z) 13 [some (.ref (V.2.2.1 0 0)), some (.int x1), some (.int x2), some (.int x3)] [] S) (x1 : Int32) (x2 : Int32) (x3 : Int32) (S : Mem) (h : f_Co_lookAhead_b13  k13 x1 x2 x3 S = some z) : G X V 4 (QV X V z) 13 [some (.ref (V.2.2.1 0 0)), some (.int x1), some (.int x2), some (.int x3)] [] S := by
  unfold f_Co_lookAhead_b13 at h
  refine g_iload_n (pc := 13) hC (i := 3) (x := x3) rfl rfl d_Co_lookAhead_13 ?_
  refine g_iload_n (pc := 14) hC (i := 1) (x := x1) rfl rfl d_Co_lookAhead_14 ?_
  refine g_icmp_ge (pc := 15) hC (tgt := 40) (by decide) d_Co_lookAhead_15 h (fun h => ?_) (fun h => ?_)
  · exact g_vW (pc := 40) hC d_Co_lookAhead_40 h
  · refine g_aload_n (pc := 18) hC (i := 0) (x := (V.2.2.1 0 0)) rfl rfl d_Co_lookAhead_18 ?_
    refine g_getC (pc := 19) hC (j := 6) fo_Co_45 (ob_Co hV) rfl d_Co_lookAhead_19 ?_
    refine g_aload_n (pc := 22) hC (i := 0) (x := (V.2.2.1 0 0)) rfl rfl d_Co_lookAhead_22 ?_
    refine g_getM (pc := 23) hC fo_Co_85 (ob_Co hV) rfl d_Co_lookAhead_23 ?_
    obtain ⟨ht23, h⟩ := gTx_some h
    refine g_aload_n (pc := 26) hC (i := 0) (x := (V.2.2.1 0 0)) rfl rfl d_Co_lookAhead_26 ?_
    refine g_getC (pc := 27) hC (j := 5) fo_Co_39 (ob_Co hV) rfl d_Co_lookAhead_27 ?_
    refine g_iload_n (pc := 30) hC (i := 2) (x := x2) rfl rfl d_Co_lookAhead_30 ?_
    obtain ⟨q31, hq31, h⟩ := Option.bind_eq_some_iff.mp h
    refine g_vv (pc := 31) hC (As := [.ref (V.2.2.1 ((S.1 0 11).toNatClampNeg) 0), .ref (V.2.2.1 5 0), .int x2]) (st := []) mt_Dy_pass lk_Co_254 rfl (ob_Dy hV) (Nat.le_of_ble_eq_true rfl) ⟨Nat.le_of_ble_eq_true rfl, Nat.le_of_ble_eq_true rfl⟩ rfl d_Co_lookAhead_31 (c_Dy_pass hV ht23 is_5 hq31) ?_
    refine s_iinc (pc := 34) hC (i := 3) (x := x3) (v := x3 + 1) rfl (by rw [kc_1]) (by decide) d_Co_lookAhead_34 (lv2 := [some (.ref (V.2.2.1 0 0)), some (.int x1), some (.int x2), some (.int (x3 + 1))]) rfl ?_
    refine g_goto (pc := 37) hC (tgt := 13) (by decide) d_Co_lookAhead_37 ?_
    exact hk13 x1 x2 (x3 + 1) q31 h
theorem w_Co_lookAhead_l13 {X : CX} {V : WV} (hV : IsC V) {z : Mem} (hC : Ck X V bc_Co_lookAhead 4 "SecretWells" none 5 129) : ∀ (n : Nat) (x1 : Int32) (x2 : Int32) (x3 : Int32) (S : Mem), f_Co_lookAhead_l13  n x1 x2 x3 S = some z → G X V 4 (QV X V z) 13 [some (.ref (V.2.2.1 0 0)), some (.int x1), some (.int x2), some (.int x3)] [] S := by
  intro n
  induction n with
  | zero =>
    intro x1 x2 x3 S h
    have h : (none : Option (Mem)) = some z := h
    cases h
  | succ n ih =>
    intro x1 x2 x3 S h
    exact w_Co_lookAhead_b13 hV hC (f_Co_lookAhead_l13  n) ih x1 x2 x3 S h
set_option maxRecDepth 20000 in
theorem w_Co_lookAhead_b0 {X : CX} {V : WV} (hV : IsC V) {z : Mem} (hC : Ck X V bc_Co_lookAhead 4 "SecretWells" none 5 129) (x1 : Int32) (x2 : Int32) (S : Mem) (h : f_Co_lookAhead_b0  x1 x2 S = some z) : G X V 4 (QV X V z) 0 [some (.ref (V.2.2.1 0 0)), some (.int x1), some (.int x2), none] [] S := by
  unfold f_Co_lookAhead_b0 at h
  refine g_aload_n (pc := 0) hC (i := 0) (x := (V.2.2.1 0 0)) rfl rfl d_Co_lookAhead_0 ?_
  refine g_getC (pc := 1) hC (j := 5) fo_Co_39 (ob_Co hV) rfl d_Co_lookAhead_1 ?_
  refine g_aload_n (pc := 4) hC (i := 0) (x := (V.2.2.1 0 0)) rfl rfl d_Co_lookAhead_4 ?_
  refine g_getC (pc := 5) hC (j := 4) fo_Co_35 (ob_Co hV) rfl d_Co_lookAhead_5 ?_
  obtain ⟨q8, hq8, h⟩ := Option.bind_eq_some_iff.mp h
  refine g_vv (pc := 8) hC (As := [.ref (V.2.2.1 4 0)]) (st := []) mt_St_copyOf lk_Co_299 rfl (ob_St hV is_5) (Nat.le_of_ble_eq_true rfl) ⟨Nat.le_of_ble_eq_true rfl, Nat.le_of_ble_eq_true rfl⟩ rfl d_Co_lookAhead_8 (c_St_copyOf hV is_5 is_4 hq8) ?_
  refine g_iconst (pc := 11) hC kc_0 d_Co_lookAhead_11 ?_
  refine s_istore_n (pc := 12) hC (i := 3) rfl (by decide) d_Co_lookAhead_12 (lv2 := [some (.ref (V.2.2.1 0 0)), some (.int x1), some (.int x2), some (.int 0)]) rfl ?_
  exact w_Co_lookAhead_l13 hV hC 5000 x1 x2 0 q8 h
theorem c_Co_lookAhead {V : WV} {l : Launch} (hV : IsC V) {x1 : Int32} {x2 : Int32} {S : Mem} {z : Mem} (h : f_Co_lookAhead x1 x2 S = some z) : CV V l y_Co_lookAhead bc_Co_lookAhead 4 none 5 129 [.ref (V.2.2.1 0 0), .int x1, .int x2] S z :=
  ct_v rfl (IsC.ok hV) (Nat.le_of_ble_eq_true rfl) (fun _ _ hC => w_Co_lookAhead_b0 hV hC x1 x2 S h)
def f_Co_wellIn_b0 (x1 : Int32) (x2 : Int32) (x3 : Int32) (S : Mem) : Option (Int32 × Mem) :=
  Option.bind (f_Co_isWell x1 S) (fun q2 =>
  if q2 = 0 then
    some ((-1), S)
  else
    if x2 < 0 then
      some ((-1), S)
    else
      if 200 < x2 then
        some ((-1), S)
      else
        if x3 < 0 then
          some ((-1), S)
        else
          if x3 ≤ 1 then
            gTx (S.1 0 11) (
            Option.bind (f_Co_lookAhead x2 (S.1 ((S.1 0 11).toNatClampNeg) 7) S) (fun q39 =>
            if x3 = 0 then
              gIn x1 4 (
              some (q39.2.1 5 9 x1.toNatClampNeg, q39))
            else
              gIn x1 4 (
              some (q39.2.1 5 4 x1.toNatClampNeg, q39))))
          else
            some ((-1), S))
def f_Co_wellIn (x1 : Int32) (x2 : Int32) (x3 : Int32) (S : Mem) : Option (Int32 × Mem) := f_Co_wellIn_b0  x1 x2 x3 S
theorem d_Co_wellIn_0 : decode bc_Co_wellIn 0 = .ok (.aload_n 0, 1) := by decide +kernel
theorem d_Co_wellIn_1 : decode bc_Co_wellIn 1 = .ok (.iload_n 1, 1) := by decide +kernel
theorem d_Co_wellIn_2 : decode bc_Co_wellIn 2 = .ok (.invokevirtual 144, 3) := by decide +kernel
theorem d_Co_wellIn_5 : decode bc_Co_wellIn 5 = .ok (.ifCond .eq 23, 3) := by decide +kernel
theorem d_Co_wellIn_8 : decode bc_Co_wellIn 8 = .ok (.iload_n 2, 1) := by decide +kernel
theorem d_Co_wellIn_9 : decode bc_Co_wellIn 9 = .ok (.ifCond .lt 19, 3) := by decide +kernel
theorem d_Co_wellIn_12 : decode bc_Co_wellIn 12 = .ok (.iload_n 2, 1) := by decide +kernel
theorem d_Co_wellIn_13 : decode bc_Co_wellIn 13 = .ok (.sipush 200, 3) := by decide +kernel
theorem d_Co_wellIn_16 : decode bc_Co_wellIn 16 = .ok (.if_icmp .gt 12, 3) := by decide +kernel
theorem d_Co_wellIn_19 : decode bc_Co_wellIn 19 = .ok (.iload_n 3, 1) := by decide +kernel
theorem d_Co_wellIn_20 : decode bc_Co_wellIn 20 = .ok (.ifCond .lt 8, 3) := by decide +kernel
theorem d_Co_wellIn_23 : decode bc_Co_wellIn 23 = .ok (.iload_n 3, 1) := by decide +kernel
theorem d_Co_wellIn_24 : decode bc_Co_wellIn 24 = .ok (.iconst 1, 1) := by decide +kernel
theorem d_Co_wellIn_25 : decode bc_Co_wellIn 25 = .ok (.if_icmp .le 5, 3) := by decide +kernel
theorem d_Co_wellIn_28 : decode bc_Co_wellIn 28 = .ok (.iconst (-1), 1) := by decide +kernel
theorem d_Co_wellIn_29 : decode bc_Co_wellIn 29 = .ok (.ireturn, 1) := by decide +kernel
theorem d_Co_wellIn_30 : decode bc_Co_wellIn 30 = .ok (.aload_n 0, 1) := by decide +kernel
theorem d_Co_wellIn_31 : decode bc_Co_wellIn 31 = .ok (.iload_n 2, 1) := by decide +kernel
theorem d_Co_wellIn_32 : decode bc_Co_wellIn 32 = .ok (.aload_n 0, 1) := by decide +kernel
theorem d_Co_wellIn_33 : decode bc_Co_wellIn 33 = .ok (.getfield 85, 3) := by decide +kernel
theorem d_Co_wellIn_36 : decode bc_Co_wellIn 36 = .ok (.getfield 251, 3) := by decide +kernel
theorem d_Co_wellIn_39 : decode bc_Co_wellIn 39 = .ok (.invokevirtual 295, 3) := by decide +kernel
theorem d_Co_wellIn_42 : decode bc_Co_wellIn 42 = .ok (.iload_n 3, 1) := by decide +kernel
theorem d_Co_wellIn_43 : decode bc_Co_wellIn 43 = .ok (.ifCond .ne 15, 3) := by decide +kernel
theorem d_Co_wellIn_46 : decode bc_Co_wellIn 46 = .ok (.aload_n 0, 1) := by decide +kernel
theorem d_Co_wellIn_47 : decode bc_Co_wellIn 47 = .ok (.getfield 39, 3) := by decide +kernel
theorem d_Co_wellIn_50 : decode bc_Co_wellIn 50 = .ok (.getfield 148, 3) := by decide +kernel
theorem d_Co_wellIn_53 : decode bc_Co_wellIn 53 = .ok (.iload_n 1, 1) := by decide +kernel
theorem d_Co_wellIn_54 : decode bc_Co_wellIn 54 = .ok (.iaload, 1) := by decide +kernel
theorem d_Co_wellIn_55 : decode bc_Co_wellIn 55 = .ok (.goto 12, 3) := by decide +kernel
theorem d_Co_wellIn_58 : decode bc_Co_wellIn 58 = .ok (.aload_n 0, 1) := by decide +kernel
theorem d_Co_wellIn_59 : decode bc_Co_wellIn 59 = .ok (.getfield 39, 3) := by decide +kernel
theorem d_Co_wellIn_62 : decode bc_Co_wellIn 62 = .ok (.getfield 152, 3) := by decide +kernel
theorem d_Co_wellIn_65 : decode bc_Co_wellIn 65 = .ok (.iload_n 1, 1) := by decide +kernel
theorem d_Co_wellIn_66 : decode bc_Co_wellIn 66 = .ok (.iaload, 1) := by decide +kernel
theorem d_Co_wellIn_67 : decode bc_Co_wellIn 67 = .ok (.ireturn, 1) := by decide +kernel
set_option maxRecDepth 20000 in
theorem w_Co_wellIn_b0 {X : CX} {V : WV} (hV : IsC V) {z : Int32 × Mem} (hC : Ck X V bc_Co_wellIn 4 "SecretWells" (some .int) 6 152) (x1 : Int32) (x2 : Int32) (x3 : Int32) (S : Mem) (h : f_Co_wellIn_b0  x1 x2 x3 S = some z) : G X V 4 (QI X V z.1 z.2) 0 [some (.ref (V.2.2.1 0 0)), some (.int x1), some (.int x2), some (.int x3)] [] S := by
  unfold f_Co_wellIn_b0 at h
  refine g_aload_n (pc := 0) hC (i := 0) (x := (V.2.2.1 0 0)) rfl rfl d_Co_wellIn_0 ?_
  refine g_iload_n (pc := 1) hC (i := 1) (x := x1) rfl rfl d_Co_wellIn_1 ?_
  obtain ⟨q2, hq2, h⟩ := Option.bind_eq_some_iff.mp h
  refine g_vi (pc := 2) hC (As := [.int x1]) (st := []) mt_Co_isWell lk_Co_144 rfl (ob_Co hV) (Nat.le_of_ble_eq_true rfl) ⟨Nat.le_of_ble_eq_true rfl, Nat.le_of_ble_eq_true rfl⟩ rfl d_Co_wellIn_2 (c_Co_isWell hV hq2) ?_
  refine g_if_eq (pc := 5) hC (tgt := 28) (by decide) d_Co_wellIn_5 h (fun h => ?_) (fun h => ?_)
  · refine g_iconst (pc := 28) hC kc_m1 d_Co_wellIn_28 ?_
    exact g_iW (pc := 29) hC rfl d_Co_wellIn_29 h
  · refine g_iload_n (pc := 8) hC (i := 2) (x := x2) rfl rfl d_Co_wellIn_8 ?_
    refine g_if_lt (pc := 9) hC (tgt := 28) (by decide) d_Co_wellIn_9 h (fun h => ?_) (fun h => ?_)
    · refine g_iconst (pc := 28) hC kc_m1 d_Co_wellIn_28 ?_
      exact g_iW (pc := 29) hC rfl d_Co_wellIn_29 h
    · refine g_iload_n (pc := 12) hC (i := 2) (x := x2) rfl rfl d_Co_wellIn_12 ?_
      refine g_sipush (pc := 13) hC ks_200 d_Co_wellIn_13 ?_
      refine g_icmp_gt (pc := 16) hC (tgt := 28) (by decide) d_Co_wellIn_16 h (fun h => ?_) (fun h => ?_)
      · refine g_iconst (pc := 28) hC kc_m1 d_Co_wellIn_28 ?_
        exact g_iW (pc := 29) hC rfl d_Co_wellIn_29 h
      · refine g_iload_n (pc := 19) hC (i := 3) (x := x3) rfl rfl d_Co_wellIn_19 ?_
        refine g_if_lt (pc := 20) hC (tgt := 28) (by decide) d_Co_wellIn_20 h (fun h => ?_) (fun h => ?_)
        · refine g_iconst (pc := 28) hC kc_m1 d_Co_wellIn_28 ?_
          exact g_iW (pc := 29) hC rfl d_Co_wellIn_29 h
        · refine g_iload_n (pc := 23) hC (i := 3) (x := x3) rfl rfl d_Co_wellIn_23 ?_
          refine g_iconst (pc := 24) hC kc_1 d_Co_wellIn_24 ?_
          refine g_icmp_le (pc := 25) hC (tgt := 30) (by decide) d_Co_wellIn_25 h (fun h => ?_) (fun h => ?_)
          · refine g_aload_n (pc := 30) hC (i := 0) (x := (V.2.2.1 0 0)) rfl rfl d_Co_wellIn_30 ?_
            refine g_iload_n (pc := 31) hC (i := 2) (x := x2) rfl rfl d_Co_wellIn_31 ?_
            refine g_aload_n (pc := 32) hC (i := 0) (x := (V.2.2.1 0 0)) rfl rfl d_Co_wellIn_32 ?_
            refine g_getM (pc := 33) hC fo_Co_85 (ob_Co hV) rfl d_Co_wellIn_33 ?_
            obtain ⟨ht33, h⟩ := gTx_some h
            refine g_getI (pc := 36) hC fo_Co_251 (ob_Tx hV ht33) rfl d_Co_wellIn_36 ?_
            obtain ⟨q39, hq39, h⟩ := Option.bind_eq_some_iff.mp h
            refine g_vv (pc := 39) hC (As := [.int x2, .int (S.1 ((S.1 0 11).toNatClampNeg) 7)]) (st := []) mt_Co_lookAhead lk_Co_295 rfl (ob_Co hV) (Nat.le_of_ble_eq_true rfl) ⟨Nat.le_of_ble_eq_true rfl, Nat.le_of_ble_eq_true rfl⟩ rfl d_Co_wellIn_39 (c_Co_lookAhead hV hq39) ?_
            refine g_iload_n (pc := 42) hC (i := 3) (x := x3) rfl rfl d_Co_wellIn_42 ?_
            refine g_if_ne (pc := 43) hC (tgt := 58) (by decide) d_Co_wellIn_43 h (fun h => ?_) (fun h => ?_)
            · refine g_aload_n (pc := 58) hC (i := 0) (x := (V.2.2.1 0 0)) rfl rfl d_Co_wellIn_58 ?_
              refine g_getC (pc := 59) hC (j := 5) fo_Co_39 (ob_Co hV) rfl d_Co_wellIn_59 ?_
              refine g_getA (pc := 62) hC fo_Co_152 (ob_St hV is_5) rfl d_Co_wellIn_62 ?_
              refine g_iload_n (pc := 65) hC (i := 1) (x := x1) rfl rfl d_Co_wellIn_65 ?_
              refine g_iald (pc := 66) hC (ar_St_4 hV is_5) d_Co_wellIn_66 h (fun h => ?_)
              exact g_iW (pc := 67) hC rfl d_Co_wellIn_67 h
            · refine g_aload_n (pc := 46) hC (i := 0) (x := (V.2.2.1 0 0)) rfl rfl d_Co_wellIn_46 ?_
              refine g_getC (pc := 47) hC (j := 5) fo_Co_39 (ob_Co hV) rfl d_Co_wellIn_47 ?_
              refine g_getA (pc := 50) hC fo_Co_148 (ob_St hV is_5) rfl d_Co_wellIn_50 ?_
              refine g_iload_n (pc := 53) hC (i := 1) (x := x1) rfl rfl d_Co_wellIn_53 ?_
              refine g_iald (pc := 54) hC (ar_St_9 hV is_5) d_Co_wellIn_54 h (fun h => ?_)
              refine g_goto (pc := 55) hC (tgt := 67) (by decide) d_Co_wellIn_55 ?_
              exact g_iW (pc := 67) hC rfl d_Co_wellIn_67 h
          · refine g_iconst (pc := 28) hC kc_m1 d_Co_wellIn_28 ?_
            exact g_iW (pc := 29) hC rfl d_Co_wellIn_29 h
theorem c_Co_wellIn {V : WV} {l : Launch} (hV : IsC V) {x1 : Int32} {x2 : Int32} {x3 : Int32} {S : Mem} {z : Int32 × Mem} (h : f_Co_wellIn x1 x2 x3 S = some z) : CI V l y_Co_wellIn bc_Co_wellIn 4 (some .int) 6 152 [.ref (V.2.2.1 0 0), .int x1, .int x2, .int x3] S z.1 z.2 :=
  ct_i rfl (IsC.ok hV) (Nat.le_of_ble_eq_true rfl) (fun _ _ hC => w_Co_wellIn_b0 hV hC x1 x2 x3 S h)
def f_Co_manIn_b0 (x1 : Int32) (x2 : Int32) (x3 : Int32) (S : Mem) : Option (Int32 × Mem) :=
  Option.bind (f_Co_isMan x1 S) (fun q2 =>
  if q2 = 0 then
    some ((-1), S)
  else
    if x2 < 0 then
      some ((-1), S)
    else
      if 200 < x2 then
        some ((-1), S)
      else
        if x3 < 0 then
          some ((-1), S)
        else
          if x3 ≤ 2 then
            gTx (S.1 0 11) (
            Option.bind (f_Co_lookAhead x2 (S.1 ((S.1 0 11).toNatClampNeg) 7) S) (fun q39 =>
            if x3 = 0 then
              Option.bind (f_St_isAlive 5 x1 q39) (fun q73 =>
              if q73 = 0 then
                some (0, q39)
              else
                some (1, q39))
            else if x3 = 1 then
              gIn x1 7 (
              some (q39.2.1 5 6 x1.toNatClampNeg, q39))
            else 
              gIn x1 7 (
              some (q39.2.1 5 7 x1.toNatClampNeg, q39))))
          else
            some ((-1), S))
def f_Co_manIn (x1 : Int32) (x2 : Int32) (x3 : Int32) (S : Mem) : Option (Int32 × Mem) := f_Co_manIn_b0  x1 x2 x3 S
theorem d_Co_manIn_0 : decode bc_Co_manIn 0 = .ok (.aload_n 0, 1) := by decide +kernel
theorem d_Co_manIn_1 : decode bc_Co_manIn 1 = .ok (.iload_n 1, 1) := by decide +kernel
theorem d_Co_manIn_2 : decode bc_Co_manIn 2 = .ok (.invokevirtual 169, 3) := by decide +kernel
theorem d_Co_manIn_5 : decode bc_Co_manIn 5 = .ok (.ifCond .eq 23, 3) := by decide +kernel
theorem d_Co_manIn_8 : decode bc_Co_manIn 8 = .ok (.iload_n 2, 1) := by decide +kernel
theorem d_Co_manIn_9 : decode bc_Co_manIn 9 = .ok (.ifCond .lt 19, 3) := by decide +kernel
theorem d_Co_manIn_12 : decode bc_Co_manIn 12 = .ok (.iload_n 2, 1) := by decide +kernel
theorem d_Co_manIn_13 : decode bc_Co_manIn 13 = .ok (.sipush 200, 3) := by decide +kernel
theorem d_Co_manIn_16 : decode bc_Co_manIn 16 = .ok (.if_icmp .gt 12, 3) := by decide +kernel
theorem d_Co_manIn_19 : decode bc_Co_manIn 19 = .ok (.iload_n 3, 1) := by decide +kernel
theorem d_Co_manIn_20 : decode bc_Co_manIn 20 = .ok (.ifCond .lt 8, 3) := by decide +kernel
theorem d_Co_manIn_23 : decode bc_Co_manIn 23 = .ok (.iload_n 3, 1) := by decide +kernel
theorem d_Co_manIn_24 : decode bc_Co_manIn 24 = .ok (.iconst 2, 1) := by decide +kernel
theorem d_Co_manIn_25 : decode bc_Co_manIn 25 = .ok (.if_icmp .le 5, 3) := by decide +kernel
theorem d_Co_manIn_28 : decode bc_Co_manIn 28 = .ok (.iconst (-1), 1) := by decide +kernel
theorem d_Co_manIn_29 : decode bc_Co_manIn 29 = .ok (.ireturn, 1) := by decide +kernel
theorem d_Co_manIn_30 : decode bc_Co_manIn 30 = .ok (.aload_n 0, 1) := by decide +kernel
theorem d_Co_manIn_31 : decode bc_Co_manIn 31 = .ok (.iload_n 2, 1) := by decide +kernel
theorem d_Co_manIn_32 : decode bc_Co_manIn 32 = .ok (.aload_n 0, 1) := by decide +kernel
theorem d_Co_manIn_33 : decode bc_Co_manIn 33 = .ok (.getfield 85, 3) := by decide +kernel
theorem d_Co_manIn_36 : decode bc_Co_manIn 36 = .ok (.getfield 251, 3) := by decide +kernel
theorem d_Co_manIn_39 : decode bc_Co_manIn 39 = .ok (.invokevirtual 295, 3) := by decide +kernel
theorem d_Co_manIn_42 : decode bc_Co_manIn 42 = .ok (.iload_n 3, 1) := by decide +kernel
theorem d_Co_manIn_43 : decode bc_Co_manIn 43 = .ok (.lookupswitch 52 #[(0, 25), (1, 42)], 25) := by decide +kernel
theorem d_Co_manIn_68 : decode bc_Co_manIn 68 = .ok (.aload_n 0, 1) := by decide +kernel
theorem d_Co_manIn_69 : decode bc_Co_manIn 69 = .ok (.getfield 39, 3) := by decide +kernel
theorem d_Co_manIn_72 : decode bc_Co_manIn 72 = .ok (.iload_n 1, 1) := by decide +kernel
theorem d_Co_manIn_73 : decode bc_Co_manIn 73 = .ok (.invokevirtual 172, 3) := by decide +kernel
theorem d_Co_manIn_76 : decode bc_Co_manIn 76 = .ok (.ifCond .eq 7, 3) := by decide +kernel
theorem d_Co_manIn_79 : decode bc_Co_manIn 79 = .ok (.iconst 1, 1) := by decide +kernel
theorem d_Co_manIn_80 : decode bc_Co_manIn 80 = .ok (.goto 4, 3) := by decide +kernel
theorem d_Co_manIn_83 : decode bc_Co_manIn 83 = .ok (.iconst 0, 1) := by decide +kernel
theorem d_Co_manIn_84 : decode bc_Co_manIn 84 = .ok (.ireturn, 1) := by decide +kernel
theorem d_Co_manIn_85 : decode bc_Co_manIn 85 = .ok (.aload_n 0, 1) := by decide +kernel
theorem d_Co_manIn_86 : decode bc_Co_manIn 86 = .ok (.getfield 39, 3) := by decide +kernel
theorem d_Co_manIn_89 : decode bc_Co_manIn 89 = .ok (.getfield 178, 3) := by decide +kernel
theorem d_Co_manIn_92 : decode bc_Co_manIn 92 = .ok (.iload_n 1, 1) := by decide +kernel
theorem d_Co_manIn_93 : decode bc_Co_manIn 93 = .ok (.iaload, 1) := by decide +kernel
theorem d_Co_manIn_94 : decode bc_Co_manIn 94 = .ok (.ireturn, 1) := by decide +kernel
theorem d_Co_manIn_95 : decode bc_Co_manIn 95 = .ok (.aload_n 0, 1) := by decide +kernel
theorem d_Co_manIn_96 : decode bc_Co_manIn 96 = .ok (.getfield 39, 3) := by decide +kernel
theorem d_Co_manIn_99 : decode bc_Co_manIn 99 = .ok (.getfield 181, 3) := by decide +kernel
theorem d_Co_manIn_102 : decode bc_Co_manIn 102 = .ok (.iload_n 1, 1) := by decide +kernel
theorem d_Co_manIn_103 : decode bc_Co_manIn 103 = .ok (.iaload, 1) := by decide +kernel
theorem d_Co_manIn_104 : decode bc_Co_manIn 104 = .ok (.ireturn, 1) := by decide +kernel
set_option maxRecDepth 20000 in
theorem w_Co_manIn_b0 {X : CX} {V : WV} (hV : IsC V) {z : Int32 × Mem} (hC : Ck X V bc_Co_manIn 4 "SecretWells" (some .int) 6 152) (x1 : Int32) (x2 : Int32) (x3 : Int32) (S : Mem) (h : f_Co_manIn_b0  x1 x2 x3 S = some z) : G X V 4 (QI X V z.1 z.2) 0 [some (.ref (V.2.2.1 0 0)), some (.int x1), some (.int x2), some (.int x3)] [] S := by
  unfold f_Co_manIn_b0 at h
  refine g_aload_n (pc := 0) hC (i := 0) (x := (V.2.2.1 0 0)) rfl rfl d_Co_manIn_0 ?_
  refine g_iload_n (pc := 1) hC (i := 1) (x := x1) rfl rfl d_Co_manIn_1 ?_
  obtain ⟨q2, hq2, h⟩ := Option.bind_eq_some_iff.mp h
  refine g_vi (pc := 2) hC (As := [.int x1]) (st := []) mt_Co_isMan lk_Co_169 rfl (ob_Co hV) (Nat.le_of_ble_eq_true rfl) ⟨Nat.le_of_ble_eq_true rfl, Nat.le_of_ble_eq_true rfl⟩ rfl d_Co_manIn_2 (c_Co_isMan hV hq2) ?_
  refine g_if_eq (pc := 5) hC (tgt := 28) (by decide) d_Co_manIn_5 h (fun h => ?_) (fun h => ?_)
  · refine g_iconst (pc := 28) hC kc_m1 d_Co_manIn_28 ?_
    exact g_iW (pc := 29) hC rfl d_Co_manIn_29 h
  · refine g_iload_n (pc := 8) hC (i := 2) (x := x2) rfl rfl d_Co_manIn_8 ?_
    refine g_if_lt (pc := 9) hC (tgt := 28) (by decide) d_Co_manIn_9 h (fun h => ?_) (fun h => ?_)
    · refine g_iconst (pc := 28) hC kc_m1 d_Co_manIn_28 ?_
      exact g_iW (pc := 29) hC rfl d_Co_manIn_29 h
    · refine g_iload_n (pc := 12) hC (i := 2) (x := x2) rfl rfl d_Co_manIn_12 ?_
      refine g_sipush (pc := 13) hC ks_200 d_Co_manIn_13 ?_
      refine g_icmp_gt (pc := 16) hC (tgt := 28) (by decide) d_Co_manIn_16 h (fun h => ?_) (fun h => ?_)
      · refine g_iconst (pc := 28) hC kc_m1 d_Co_manIn_28 ?_
        exact g_iW (pc := 29) hC rfl d_Co_manIn_29 h
      · refine g_iload_n (pc := 19) hC (i := 3) (x := x3) rfl rfl d_Co_manIn_19 ?_
        refine g_if_lt (pc := 20) hC (tgt := 28) (by decide) d_Co_manIn_20 h (fun h => ?_) (fun h => ?_)
        · refine g_iconst (pc := 28) hC kc_m1 d_Co_manIn_28 ?_
          exact g_iW (pc := 29) hC rfl d_Co_manIn_29 h
        · refine g_iload_n (pc := 23) hC (i := 3) (x := x3) rfl rfl d_Co_manIn_23 ?_
          refine g_iconst (pc := 24) hC kc_2 d_Co_manIn_24 ?_
          refine g_icmp_le (pc := 25) hC (tgt := 30) (by decide) d_Co_manIn_25 h (fun h => ?_) (fun h => ?_)
          · refine g_aload_n (pc := 30) hC (i := 0) (x := (V.2.2.1 0 0)) rfl rfl d_Co_manIn_30 ?_
            refine g_iload_n (pc := 31) hC (i := 2) (x := x2) rfl rfl d_Co_manIn_31 ?_
            refine g_aload_n (pc := 32) hC (i := 0) (x := (V.2.2.1 0 0)) rfl rfl d_Co_manIn_32 ?_
            refine g_getM (pc := 33) hC fo_Co_85 (ob_Co hV) rfl d_Co_manIn_33 ?_
            obtain ⟨ht33, h⟩ := gTx_some h
            refine g_getI (pc := 36) hC fo_Co_251 (ob_Tx hV ht33) rfl d_Co_manIn_36 ?_
            obtain ⟨q39, hq39, h⟩ := Option.bind_eq_some_iff.mp h
            refine g_vv (pc := 39) hC (As := [.int x2, .int (S.1 ((S.1 0 11).toNatClampNeg) 7)]) (st := []) mt_Co_lookAhead lk_Co_295 rfl (ob_Co hV) (Nat.le_of_ble_eq_true rfl) ⟨Nat.le_of_ble_eq_true rfl, Nat.le_of_ble_eq_true rfl⟩ rfl d_Co_manIn_39 (c_Co_lookAhead hV hq39) ?_
            refine g_iload_n (pc := 42) hC (i := 3) (x := x3) rfl rfl d_Co_manIn_42 ?_
            by_cases hs43_0 : x3 = 0
            · rw [if_pos hs43_0] at h
              refine g_look (pc := 43) hC (tgt := 68) d_Co_manIn_43 (by decide) (by rw [hs43_0]; decide) ?_
              refine g_aload_n (pc := 68) hC (i := 0) (x := (V.2.2.1 0 0)) rfl rfl d_Co_manIn_68 ?_
              refine g_getC (pc := 69) hC (j := 5) fo_Co_39 (ob_Co hV) rfl d_Co_manIn_69 ?_
              refine g_iload_n (pc := 72) hC (i := 1) (x := x1) rfl rfl d_Co_manIn_72 ?_
              obtain ⟨q73, hq73, h⟩ := Option.bind_eq_some_iff.mp h
              refine g_vi (pc := 73) hC (As := [.int x1]) (st := []) mt_St_isAlive lk_Co_172 rfl (ob_St hV is_5) (Nat.le_of_ble_eq_true rfl) ⟨Nat.le_of_ble_eq_true rfl, Nat.le_of_ble_eq_true rfl⟩ rfl d_Co_manIn_73 (c_St_isAlive hV is_5 hq73) ?_
              refine g_if_eq (pc := 76) hC (tgt := 83) (by decide) d_Co_manIn_76 h (fun h => ?_) (fun h => ?_)
              · refine g_iconst (pc := 83) hC kc_0 d_Co_manIn_83 ?_
                exact g_iW (pc := 84) hC rfl d_Co_manIn_84 h
              · refine g_iconst (pc := 79) hC kc_1 d_Co_manIn_79 ?_
                refine g_goto (pc := 80) hC (tgt := 84) (by decide) d_Co_manIn_80 ?_
                exact g_iW (pc := 84) hC rfl d_Co_manIn_84 h
            rw [if_neg hs43_0] at h
            by_cases hs43_1 : x3 = 1
            · rw [if_pos hs43_1] at h
              refine g_look (pc := 43) hC (tgt := 85) d_Co_manIn_43 (by decide) (by rw [hs43_1]; decide) ?_
              refine g_aload_n (pc := 85) hC (i := 0) (x := (V.2.2.1 0 0)) rfl rfl d_Co_manIn_85 ?_
              refine g_getC (pc := 86) hC (j := 5) fo_Co_39 (ob_Co hV) rfl d_Co_manIn_86 ?_
              refine g_getA (pc := 89) hC fo_Co_178 (ob_St hV is_5) rfl d_Co_manIn_89 ?_
              refine g_iload_n (pc := 92) hC (i := 1) (x := x1) rfl rfl d_Co_manIn_92 ?_
              refine g_iald (pc := 93) hC (ar_St_6 hV is_5) d_Co_manIn_93 h (fun h => ?_)
              exact g_iW (pc := 94) hC rfl d_Co_manIn_94 h
            rw [if_neg hs43_1] at h
            refine g_look (pc := 43) hC (tgt := 95) d_Co_manIn_43 (by decide) (lk_else [(0 : Int32), (1 : Int32)] (by intro v hv; simp only [List.mem_cons, List.not_mem_nil, or_false] at hv; rcases hv with rfl | rfl <;> assumption) (by decide) (by decide)) ?_
            refine g_aload_n (pc := 95) hC (i := 0) (x := (V.2.2.1 0 0)) rfl rfl d_Co_manIn_95 ?_
            refine g_getC (pc := 96) hC (j := 5) fo_Co_39 (ob_Co hV) rfl d_Co_manIn_96 ?_
            refine g_getA (pc := 99) hC fo_Co_181 (ob_St hV is_5) rfl d_Co_manIn_99 ?_
            refine g_iload_n (pc := 102) hC (i := 1) (x := x1) rfl rfl d_Co_manIn_102 ?_
            refine g_iald (pc := 103) hC (ar_St_7 hV is_5) d_Co_manIn_103 h (fun h => ?_)
            exact g_iW (pc := 104) hC rfl d_Co_manIn_104 h
          · refine g_iconst (pc := 28) hC kc_m1 d_Co_manIn_28 ?_
            exact g_iW (pc := 29) hC rfl d_Co_manIn_29 h
theorem c_Co_manIn {V : WV} {l : Launch} (hV : IsC V) {x1 : Int32} {x2 : Int32} {x3 : Int32} {S : Mem} {z : Int32 × Mem} (h : f_Co_manIn x1 x2 x3 S = some z) : CI V l y_Co_manIn bc_Co_manIn 4 (some .int) 6 152 [.ref (V.2.2.1 0 0), .int x1, .int x2, .int x3] S z.1 z.2 :=
  ct_i rfl (IsC.ok hV) (Nat.le_of_ble_eq_true rfl) (fun _ _ hC => w_Co_manIn_b0 hV hC x1 x2 x3 S h)
def f_Co_dryBy_b23 (k23 : Int32 → Int32 → Mem → Option (Int32 × Mem)) (x1 : Int32) (x2 : Int32) (S : Mem) : Option (Int32 × Mem) :=
  if 200 < x2 then
    some ((-2), S)
  else
    gIn x1 4 (
    if (S.2.1 5 4 x1.toNatClampNeg) = 0 then
      some (x2, S)
    else
      gTx (S.1 0 11) (
      gTx (S.1 0 11) (
      Option.bind (f_Dy_pass ((S.1 0 11).toNatClampNeg) 5 (S.1 ((S.1 0 11).toNatClampNeg) 7) S) (fun q63 =>
      k23 x1 (x2 + 1) q63))))
def f_Co_dryBy_l23 : Nat → Int32 → Int32 → Mem → Option (Int32 × Mem)
  | 0 => fun _ _ _ => none
  | n + 1 => f_Co_dryBy_b23  (f_Co_dryBy_l23  n)
def f_Co_dryBy_b0 (x1 : Int32) (S : Mem) : Option (Int32 × Mem) :=
  Option.bind (f_Co_isWell x1 S) (fun q2 =>
  if q2 = 0 then
    some ((-1), S)
  else
    Option.bind (f_St_copyOf 5 4 S) (fun q18 =>
    f_Co_dryBy_l23 5000 x1 0 q18))
def f_Co_dryBy (x1 : Int32) (S : Mem) : Option (Int32 × Mem) := f_Co_dryBy_b0  x1 S
theorem d_Co_dryBy_0 : decode bc_Co_dryBy 0 = .ok (.aload_n 0, 1) := by decide +kernel
theorem d_Co_dryBy_1 : decode bc_Co_dryBy 1 = .ok (.iload_n 1, 1) := by decide +kernel
theorem d_Co_dryBy_2 : decode bc_Co_dryBy 2 = .ok (.invokevirtual 144, 3) := by decide +kernel
theorem d_Co_dryBy_5 : decode bc_Co_dryBy 5 = .ok (.ifCond .ne 5, 3) := by decide +kernel
theorem d_Co_dryBy_8 : decode bc_Co_dryBy 8 = .ok (.iconst (-1), 1) := by decide +kernel
theorem d_Co_dryBy_9 : decode bc_Co_dryBy 9 = .ok (.ireturn, 1) := by decide +kernel
theorem d_Co_dryBy_10 : decode bc_Co_dryBy 10 = .ok (.aload_n 0, 1) := by decide +kernel
theorem d_Co_dryBy_11 : decode bc_Co_dryBy 11 = .ok (.getfield 39, 3) := by decide +kernel
theorem d_Co_dryBy_14 : decode bc_Co_dryBy 14 = .ok (.aload_n 0, 1) := by decide +kernel
theorem d_Co_dryBy_15 : decode bc_Co_dryBy 15 = .ok (.getfield 35, 3) := by decide +kernel
theorem d_Co_dryBy_18 : decode bc_Co_dryBy 18 = .ok (.invokevirtual 299, 3) := by decide +kernel
theorem d_Co_dryBy_21 : decode bc_Co_dryBy 21 = .ok (.iconst 0, 1) := by decide +kernel
theorem d_Co_dryBy_22 : decode bc_Co_dryBy 22 = .ok (.istore_n 2, 1) := by decide +kernel
theorem d_Co_dryBy_23 : decode bc_Co_dryBy 23 = .ok (.iload_n 2, 1) := by decide +kernel
theorem d_Co_dryBy_24 : decode bc_Co_dryBy 24 = .ok (.sipush 200, 3) := by decide +kernel
theorem d_Co_dryBy_27 : decode bc_Co_dryBy 27 = .ok (.if_icmp .gt 45, 3) := by decide +kernel
theorem d_Co_dryBy_30 : decode bc_Co_dryBy 30 = .ok (.aload_n 0, 1) := by decide +kernel
theorem d_Co_dryBy_31 : decode bc_Co_dryBy 31 = .ok (.getfield 39, 3) := by decide +kernel
theorem d_Co_dryBy_34 : decode bc_Co_dryBy 34 = .ok (.getfield 152, 3) := by decide +kernel
theorem d_Co_dryBy_37 : decode bc_Co_dryBy 37 = .ok (.iload_n 1, 1) := by decide +kernel
theorem d_Co_dryBy_38 : decode bc_Co_dryBy 38 = .ok (.iaload, 1) := by decide +kernel
theorem d_Co_dryBy_39 : decode bc_Co_dryBy 39 = .ok (.ifCond .ne 5, 3) := by decide +kernel
theorem d_Co_dryBy_42 : decode bc_Co_dryBy 42 = .ok (.iload_n 2, 1) := by decide +kernel
theorem d_Co_dryBy_43 : decode bc_Co_dryBy 43 = .ok (.ireturn, 1) := by decide +kernel
theorem d_Co_dryBy_44 : decode bc_Co_dryBy 44 = .ok (.aload_n 0, 1) := by decide +kernel
theorem d_Co_dryBy_45 : decode bc_Co_dryBy 45 = .ok (.getfield 45, 3) := by decide +kernel
theorem d_Co_dryBy_48 : decode bc_Co_dryBy 48 = .ok (.aload_n 0, 1) := by decide +kernel
theorem d_Co_dryBy_49 : decode bc_Co_dryBy 49 = .ok (.getfield 85, 3) := by decide +kernel
theorem d_Co_dryBy_52 : decode bc_Co_dryBy 52 = .ok (.aload_n 0, 1) := by decide +kernel
theorem d_Co_dryBy_53 : decode bc_Co_dryBy 53 = .ok (.getfield 39, 3) := by decide +kernel
theorem d_Co_dryBy_56 : decode bc_Co_dryBy 56 = .ok (.aload_n 0, 1) := by decide +kernel
theorem d_Co_dryBy_57 : decode bc_Co_dryBy 57 = .ok (.getfield 85, 3) := by decide +kernel
theorem d_Co_dryBy_60 : decode bc_Co_dryBy 60 = .ok (.getfield 251, 3) := by decide +kernel
theorem d_Co_dryBy_63 : decode bc_Co_dryBy 63 = .ok (.invokevirtual 254, 3) := by decide +kernel
theorem d_Co_dryBy_66 : decode bc_Co_dryBy 66 = .ok (.iinc 2 1, 3) := by decide +kernel
theorem d_Co_dryBy_69 : decode bc_Co_dryBy 69 = .ok (.goto (-46), 3) := by decide +kernel
theorem d_Co_dryBy_72 : decode bc_Co_dryBy 72 = .ok (.bipush (-2), 2) := by decide +kernel
theorem d_Co_dryBy_74 : decode bc_Co_dryBy 74 = .ok (.ireturn, 1) := by decide +kernel
set_option maxRecDepth 20000 in
theorem w_Co_dryBy_b23 {X : CX} {V : WV} (hV : IsC V) {z : Int32 × Mem} (hC : Ck X V bc_Co_dryBy 3 "SecretWells" (some .int) 5 129) (k23 : Int32 → Int32 → Mem → Option (Int32 × Mem)) (hk23 : ∀ (x1 : Int32) (x2 : Int32) (S : Mem), k23 x1 x2 S = some z → G X V 3 (QI X V z.1 z.2) 23 [some (.ref (V.2.2.1 0 0)), some (.int x1), some (.int x2)] [] S) (x1 : Int32) (x2 : Int32) (S : Mem) (h : f_Co_dryBy_b23  k23 x1 x2 S = some z) : G X V 3 (QI X V z.1 z.2) 23 [some (.ref (V.2.2.1 0 0)), some (.int x1), some (.int x2)] [] S := by
  unfold f_Co_dryBy_b23 at h
  refine g_iload_n (pc := 23) hC (i := 2) (x := x2) rfl rfl d_Co_dryBy_23 ?_
  refine g_sipush (pc := 24) hC ks_200 d_Co_dryBy_24 ?_
  refine g_icmp_gt (pc := 27) hC (tgt := 72) (by decide) d_Co_dryBy_27 h (fun h => ?_) (fun h => ?_)
  · refine g_bipush (pc := 72) hC kb_m2 d_Co_dryBy_72 ?_
    exact g_iW (pc := 74) hC rfl d_Co_dryBy_74 h
  · refine g_aload_n (pc := 30) hC (i := 0) (x := (V.2.2.1 0 0)) rfl rfl d_Co_dryBy_30 ?_
    refine g_getC (pc := 31) hC (j := 5) fo_Co_39 (ob_Co hV) rfl d_Co_dryBy_31 ?_
    refine g_getA (pc := 34) hC fo_Co_152 (ob_St hV is_5) rfl d_Co_dryBy_34 ?_
    refine g_iload_n (pc := 37) hC (i := 1) (x := x1) rfl rfl d_Co_dryBy_37 ?_
    refine g_iald (pc := 38) hC (ar_St_4 hV is_5) d_Co_dryBy_38 h (fun h => ?_)
    refine g_if_ne (pc := 39) hC (tgt := 44) (by decide) d_Co_dryBy_39 h (fun h => ?_) (fun h => ?_)
    · refine g_aload_n (pc := 44) hC (i := 0) (x := (V.2.2.1 0 0)) rfl rfl d_Co_dryBy_44 ?_
      refine g_getC (pc := 45) hC (j := 6) fo_Co_45 (ob_Co hV) rfl d_Co_dryBy_45 ?_
      refine g_aload_n (pc := 48) hC (i := 0) (x := (V.2.2.1 0 0)) rfl rfl d_Co_dryBy_48 ?_
      refine g_getM (pc := 49) hC fo_Co_85 (ob_Co hV) rfl d_Co_dryBy_49 ?_
      obtain ⟨ht49, h⟩ := gTx_some h
      refine g_aload_n (pc := 52) hC (i := 0) (x := (V.2.2.1 0 0)) rfl rfl d_Co_dryBy_52 ?_
      refine g_getC (pc := 53) hC (j := 5) fo_Co_39 (ob_Co hV) rfl d_Co_dryBy_53 ?_
      refine g_aload_n (pc := 56) hC (i := 0) (x := (V.2.2.1 0 0)) rfl rfl d_Co_dryBy_56 ?_
      refine g_getM (pc := 57) hC fo_Co_85 (ob_Co hV) rfl d_Co_dryBy_57 ?_
      obtain ⟨ht57, h⟩ := gTx_some h
      refine g_getI (pc := 60) hC fo_Co_251 (ob_Tx hV ht57) rfl d_Co_dryBy_60 ?_
      obtain ⟨q63, hq63, h⟩ := Option.bind_eq_some_iff.mp h
      refine g_vv (pc := 63) hC (As := [.ref (V.2.2.1 ((S.1 0 11).toNatClampNeg) 0), .ref (V.2.2.1 5 0), .int (S.1 ((S.1 0 11).toNatClampNeg) 7)]) (st := []) mt_Dy_pass lk_Co_254 rfl (ob_Dy hV) (Nat.le_of_ble_eq_true rfl) ⟨Nat.le_of_ble_eq_true rfl, Nat.le_of_ble_eq_true rfl⟩ rfl d_Co_dryBy_63 (c_Dy_pass hV ht49 is_5 hq63) ?_
      refine s_iinc (pc := 66) hC (i := 2) (x := x2) (v := x2 + 1) rfl (by rw [kc_1]) (by decide) d_Co_dryBy_66 (lv2 := [some (.ref (V.2.2.1 0 0)), some (.int x1), some (.int (x2 + 1))]) rfl ?_
      refine g_goto (pc := 69) hC (tgt := 23) (by decide) d_Co_dryBy_69 ?_
      exact hk23 x1 (x2 + 1) q63 h
    · refine g_iload_n (pc := 42) hC (i := 2) (x := x2) rfl rfl d_Co_dryBy_42 ?_
      exact g_iW (pc := 43) hC rfl d_Co_dryBy_43 h
theorem w_Co_dryBy_l23 {X : CX} {V : WV} (hV : IsC V) {z : Int32 × Mem} (hC : Ck X V bc_Co_dryBy 3 "SecretWells" (some .int) 5 129) : ∀ (n : Nat) (x1 : Int32) (x2 : Int32) (S : Mem), f_Co_dryBy_l23  n x1 x2 S = some z → G X V 3 (QI X V z.1 z.2) 23 [some (.ref (V.2.2.1 0 0)), some (.int x1), some (.int x2)] [] S := by
  intro n
  induction n with
  | zero =>
    intro x1 x2 S h
    have h : (none : Option (Int32 × Mem)) = some z := h
    cases h
  | succ n ih =>
    intro x1 x2 S h
    exact w_Co_dryBy_b23 hV hC (f_Co_dryBy_l23  n) ih x1 x2 S h
set_option maxRecDepth 20000 in
theorem w_Co_dryBy_b0 {X : CX} {V : WV} (hV : IsC V) {z : Int32 × Mem} (hC : Ck X V bc_Co_dryBy 3 "SecretWells" (some .int) 5 129) (x1 : Int32) (S : Mem) (h : f_Co_dryBy_b0  x1 S = some z) : G X V 3 (QI X V z.1 z.2) 0 [some (.ref (V.2.2.1 0 0)), some (.int x1), none] [] S := by
  unfold f_Co_dryBy_b0 at h
  refine g_aload_n (pc := 0) hC (i := 0) (x := (V.2.2.1 0 0)) rfl rfl d_Co_dryBy_0 ?_
  refine g_iload_n (pc := 1) hC (i := 1) (x := x1) rfl rfl d_Co_dryBy_1 ?_
  obtain ⟨q2, hq2, h⟩ := Option.bind_eq_some_iff.mp h
  refine g_vi (pc := 2) hC (As := [.int x1]) (st := []) mt_Co_isWell lk_Co_144 rfl (ob_Co hV) (Nat.le_of_ble_eq_true rfl) ⟨Nat.le_of_ble_eq_true rfl, Nat.le_of_ble_eq_true rfl⟩ rfl d_Co_dryBy_2 (c_Co_isWell hV hq2) ?_
  refine g_if_ne (pc := 5) hC (tgt := 10) (by decide) d_Co_dryBy_5 h (fun h => ?_) (fun h => ?_)
  · refine g_aload_n (pc := 10) hC (i := 0) (x := (V.2.2.1 0 0)) rfl rfl d_Co_dryBy_10 ?_
    refine g_getC (pc := 11) hC (j := 5) fo_Co_39 (ob_Co hV) rfl d_Co_dryBy_11 ?_
    refine g_aload_n (pc := 14) hC (i := 0) (x := (V.2.2.1 0 0)) rfl rfl d_Co_dryBy_14 ?_
    refine g_getC (pc := 15) hC (j := 4) fo_Co_35 (ob_Co hV) rfl d_Co_dryBy_15 ?_
    obtain ⟨q18, hq18, h⟩ := Option.bind_eq_some_iff.mp h
    refine g_vv (pc := 18) hC (As := [.ref (V.2.2.1 4 0)]) (st := []) mt_St_copyOf lk_Co_299 rfl (ob_St hV is_5) (Nat.le_of_ble_eq_true rfl) ⟨Nat.le_of_ble_eq_true rfl, Nat.le_of_ble_eq_true rfl⟩ rfl d_Co_dryBy_18 (c_St_copyOf hV is_5 is_4 hq18) ?_
    refine g_iconst (pc := 21) hC kc_0 d_Co_dryBy_21 ?_
    refine s_istore_n (pc := 22) hC (i := 2) rfl (by decide) d_Co_dryBy_22 (lv2 := [some (.ref (V.2.2.1 0 0)), some (.int x1), some (.int 0)]) rfl ?_
    exact w_Co_dryBy_l23 hV hC 5000 x1 0 q18 h
  · refine g_iconst (pc := 8) hC kc_m1 d_Co_dryBy_8 ?_
    exact g_iW (pc := 9) hC rfl d_Co_dryBy_9 h
theorem c_Co_dryBy {V : WV} {l : Launch} (hV : IsC V) {x1 : Int32} {S : Mem} {z : Int32 × Mem} (h : f_Co_dryBy x1 S = some z) : CI V l y_Co_dryBy bc_Co_dryBy 3 (some .int) 5 129 [.ref (V.2.2.1 0 0), .int x1] S z.1 z.2 :=
  ct_i rfl (IsC.ok hV) (Nat.le_of_ble_eq_true rfl) (fun _ _ hC => w_Co_dryBy_b0 hV hC x1 S h)
def f_Co_first_b24 (k24 : Int32 → Int32 → Mem → Option (Int32 × Mem)) (x1 : Int32) (x2 : Int32) (S : Mem) : Option (Int32 × Mem) :=
  if 200 < x2 then
    some ((-2), S)
  else
    gTx (S.1 0 11) (
    gTx (S.1 0 11) (
    Option.bind (f_Dy_pass ((S.1 0 11).toNatClampNeg) 5 (S.1 ((S.1 0 11).toNatClampNeg) 7) S) (fun q50 =>
    letS ((q50.1 4 1) &&& ((q50.1 5 1) ^^^ (-1))) (fun y70 =>
    if y70 = 0 then
      k24 x1 (x2 + 1) q50
    else
      if x1 = 0 then
        Option.bind (f_JInt_numberOfTrailingZeros y70) (fun q80 =>
        some (q80, q50))
      else
        some (x2, q50)))))
def f_Co_first_l24 : Nat → Int32 → Int32 → Mem → Option (Int32 × Mem)
  | 0 => fun _ _ _ => none
  | n + 1 => f_Co_first_b24  (f_Co_first_l24  n)
def f_Co_first_b0 (x1 : Int32) (S : Mem) : Option (Int32 × Mem) :=
  if x1 < 0 then
    some ((-1), S)
  else
    if x1 ≤ 1 then
      Option.bind (f_St_copyOf 5 4 S) (fun q19 =>
      f_Co_first_l24 5000 x1 1 q19)
    else
      some ((-1), S)
def f_Co_first (x1 : Int32) (S : Mem) : Option (Int32 × Mem) := f_Co_first_b0  x1 S
theorem d_Co_first_0 : decode bc_Co_first 0 = .ok (.iload_n 1, 1) := by decide +kernel
theorem d_Co_first_1 : decode bc_Co_first 1 = .ok (.ifCond .lt 8, 3) := by decide +kernel
theorem d_Co_first_4 : decode bc_Co_first 4 = .ok (.iload_n 1, 1) := by decide +kernel
theorem d_Co_first_5 : decode bc_Co_first 5 = .ok (.iconst 1, 1) := by decide +kernel
theorem d_Co_first_6 : decode bc_Co_first 6 = .ok (.if_icmp .le 5, 3) := by decide +kernel
theorem d_Co_first_9 : decode bc_Co_first 9 = .ok (.iconst (-1), 1) := by decide +kernel
theorem d_Co_first_10 : decode bc_Co_first 10 = .ok (.ireturn, 1) := by decide +kernel
theorem d_Co_first_11 : decode bc_Co_first 11 = .ok (.aload_n 0, 1) := by decide +kernel
theorem d_Co_first_12 : decode bc_Co_first 12 = .ok (.getfield 39, 3) := by decide +kernel
theorem d_Co_first_15 : decode bc_Co_first 15 = .ok (.aload_n 0, 1) := by decide +kernel
theorem d_Co_first_16 : decode bc_Co_first 16 = .ok (.getfield 35, 3) := by decide +kernel
theorem d_Co_first_19 : decode bc_Co_first 19 = .ok (.invokevirtual 299, 3) := by decide +kernel
theorem d_Co_first_22 : decode bc_Co_first 22 = .ok (.iconst 1, 1) := by decide +kernel
theorem d_Co_first_23 : decode bc_Co_first 23 = .ok (.istore_n 2, 1) := by decide +kernel
theorem d_Co_first_24 : decode bc_Co_first 24 = .ok (.iload_n 2, 1) := by decide +kernel
theorem d_Co_first_25 : decode bc_Co_first 25 = .ok (.sipush 200, 3) := by decide +kernel
theorem d_Co_first_28 : decode bc_Co_first 28 = .ok (.if_icmp .gt 66, 3) := by decide +kernel
theorem d_Co_first_31 : decode bc_Co_first 31 = .ok (.aload_n 0, 1) := by decide +kernel
theorem d_Co_first_32 : decode bc_Co_first 32 = .ok (.getfield 45, 3) := by decide +kernel
theorem d_Co_first_35 : decode bc_Co_first 35 = .ok (.aload_n 0, 1) := by decide +kernel
theorem d_Co_first_36 : decode bc_Co_first 36 = .ok (.getfield 85, 3) := by decide +kernel
theorem d_Co_first_39 : decode bc_Co_first 39 = .ok (.aload_n 0, 1) := by decide +kernel
theorem d_Co_first_40 : decode bc_Co_first 40 = .ok (.getfield 39, 3) := by decide +kernel
theorem d_Co_first_43 : decode bc_Co_first 43 = .ok (.aload_n 0, 1) := by decide +kernel
theorem d_Co_first_44 : decode bc_Co_first 44 = .ok (.getfield 85, 3) := by decide +kernel
theorem d_Co_first_47 : decode bc_Co_first 47 = .ok (.getfield 251, 3) := by decide +kernel
theorem d_Co_first_50 : decode bc_Co_first 50 = .ok (.invokevirtual 254, 3) := by decide +kernel
theorem d_Co_first_53 : decode bc_Co_first 53 = .ok (.aload_n 0, 1) := by decide +kernel
theorem d_Co_first_54 : decode bc_Co_first 54 = .ok (.getfield 35, 3) := by decide +kernel
theorem d_Co_first_57 : decode bc_Co_first 57 = .ok (.getfield 193, 3) := by decide +kernel
theorem d_Co_first_60 : decode bc_Co_first 60 = .ok (.aload_n 0, 1) := by decide +kernel
theorem d_Co_first_61 : decode bc_Co_first 61 = .ok (.getfield 39, 3) := by decide +kernel
theorem d_Co_first_64 : decode bc_Co_first 64 = .ok (.getfield 193, 3) := by decide +kernel
theorem d_Co_first_67 : decode bc_Co_first 67 = .ok (.iconst (-1), 1) := by decide +kernel
theorem d_Co_first_68 : decode bc_Co_first 68 = .ok (.ixor, 1) := by decide +kernel
theorem d_Co_first_69 : decode bc_Co_first 69 = .ok (.iand, 1) := by decide +kernel
theorem d_Co_first_70 : decode bc_Co_first 70 = .ok (.istore_n 3, 1) := by decide +kernel
theorem d_Co_first_71 : decode bc_Co_first 71 = .ok (.iload_n 3, 1) := by decide +kernel
theorem d_Co_first_72 : decode bc_Co_first 72 = .ok (.ifCond .eq 16, 3) := by decide +kernel
theorem d_Co_first_75 : decode bc_Co_first 75 = .ok (.iload_n 1, 1) := by decide +kernel
theorem d_Co_first_76 : decode bc_Co_first 76 = .ok (.ifCond .ne 10, 3) := by decide +kernel
theorem d_Co_first_79 : decode bc_Co_first 79 = .ok (.iload_n 3, 1) := by decide +kernel
theorem d_Co_first_80 : decode bc_Co_first 80 = .ok (.invokestatic 303, 3) := by decide +kernel
theorem d_Co_first_83 : decode bc_Co_first 83 = .ok (.goto 4, 3) := by decide +kernel
theorem d_Co_first_86 : decode bc_Co_first 86 = .ok (.iload_n 2, 1) := by decide +kernel
theorem d_Co_first_87 : decode bc_Co_first 87 = .ok (.ireturn, 1) := by decide +kernel
theorem d_Co_first_88 : decode bc_Co_first 88 = .ok (.iinc 2 1, 3) := by decide +kernel
theorem d_Co_first_91 : decode bc_Co_first 91 = .ok (.goto (-67), 3) := by decide +kernel
theorem d_Co_first_94 : decode bc_Co_first 94 = .ok (.bipush (-2), 2) := by decide +kernel
theorem d_Co_first_96 : decode bc_Co_first 96 = .ok (.ireturn, 1) := by decide +kernel
set_option maxRecDepth 20000 in
theorem w_Co_first_b24 {X : CX} {V : WV} (hV : IsC V) {z : Int32 × Mem} (hC : Ck X V bc_Co_first 4 "SecretWells" (some .int) 5 129) (k24 : Int32 → Int32 → Mem → Option (Int32 × Mem)) (hk24 : ∀ (x1 : Int32) (x2 : Int32) (S : Mem), k24 x1 x2 S = some z → G X V 4 (QI X V z.1 z.2) 24 [some (.ref (V.2.2.1 0 0)), some (.int x1), some (.int x2), none] [] S) (x1 : Int32) (x2 : Int32) (S : Mem) (h : f_Co_first_b24  k24 x1 x2 S = some z) : G X V 4 (QI X V z.1 z.2) 24 [some (.ref (V.2.2.1 0 0)), some (.int x1), some (.int x2), none] [] S := by
  unfold f_Co_first_b24 at h
  refine g_iload_n (pc := 24) hC (i := 2) (x := x2) rfl rfl d_Co_first_24 ?_
  refine g_sipush (pc := 25) hC ks_200 d_Co_first_25 ?_
  refine g_icmp_gt (pc := 28) hC (tgt := 94) (by decide) d_Co_first_28 h (fun h => ?_) (fun h => ?_)
  · refine g_bipush (pc := 94) hC kb_m2 d_Co_first_94 ?_
    exact g_iW (pc := 96) hC rfl d_Co_first_96 h
  · refine g_aload_n (pc := 31) hC (i := 0) (x := (V.2.2.1 0 0)) rfl rfl d_Co_first_31 ?_
    refine g_getC (pc := 32) hC (j := 6) fo_Co_45 (ob_Co hV) rfl d_Co_first_32 ?_
    refine g_aload_n (pc := 35) hC (i := 0) (x := (V.2.2.1 0 0)) rfl rfl d_Co_first_35 ?_
    refine g_getM (pc := 36) hC fo_Co_85 (ob_Co hV) rfl d_Co_first_36 ?_
    obtain ⟨ht36, h⟩ := gTx_some h
    refine g_aload_n (pc := 39) hC (i := 0) (x := (V.2.2.1 0 0)) rfl rfl d_Co_first_39 ?_
    refine g_getC (pc := 40) hC (j := 5) fo_Co_39 (ob_Co hV) rfl d_Co_first_40 ?_
    refine g_aload_n (pc := 43) hC (i := 0) (x := (V.2.2.1 0 0)) rfl rfl d_Co_first_43 ?_
    refine g_getM (pc := 44) hC fo_Co_85 (ob_Co hV) rfl d_Co_first_44 ?_
    obtain ⟨ht44, h⟩ := gTx_some h
    refine g_getI (pc := 47) hC fo_Co_251 (ob_Tx hV ht44) rfl d_Co_first_47 ?_
    obtain ⟨q50, hq50, h⟩ := Option.bind_eq_some_iff.mp h
    refine g_vv (pc := 50) hC (As := [.ref (V.2.2.1 ((S.1 0 11).toNatClampNeg) 0), .ref (V.2.2.1 5 0), .int (S.1 ((S.1 0 11).toNatClampNeg) 7)]) (st := []) mt_Dy_pass lk_Co_254 rfl (ob_Dy hV) (Nat.le_of_ble_eq_true rfl) ⟨Nat.le_of_ble_eq_true rfl, Nat.le_of_ble_eq_true rfl⟩ rfl d_Co_first_50 (c_Dy_pass hV ht36 is_5 hq50) ?_
    refine g_aload_n (pc := 53) hC (i := 0) (x := (V.2.2.1 0 0)) rfl rfl d_Co_first_53 ?_
    refine g_getC (pc := 54) hC (j := 4) fo_Co_35 (ob_Co hV) rfl d_Co_first_54 ?_
    refine g_getI (pc := 57) hC fo_Co_193 (ob_St hV is_4) rfl d_Co_first_57 ?_
    refine g_aload_n (pc := 60) hC (i := 0) (x := (V.2.2.1 0 0)) rfl rfl d_Co_first_60 ?_
    refine g_getC (pc := 61) hC (j := 5) fo_Co_39 (ob_Co hV) rfl d_Co_first_61 ?_
    refine g_getI (pc := 64) hC fo_Co_193 (ob_St hV is_5) rfl d_Co_first_64 ?_
    refine g_iconst (pc := 67) hC kc_m1 d_Co_first_67 ?_
    refine g_ixor (pc := 68) hC d_Co_first_68 ?_
    refine g_iand (pc := 69) hC d_Co_first_69 ?_
    refine g_leti h (fun y70 h => ?_)
    refine s_istore_n (pc := 70) hC (i := 3) rfl (by decide) d_Co_first_70 (lv2 := [some (.ref (V.2.2.1 0 0)), some (.int x1), some (.int x2), some (.int y70)]) rfl ?_
    refine g_iload_n (pc := 71) hC (i := 3) (x := y70) rfl rfl d_Co_first_71 ?_
    refine g_if_eq (pc := 72) hC (tgt := 88) (by decide) d_Co_first_72 h (fun h => ?_) (fun h => ?_)
    · refine s_iinc (pc := 88) hC (i := 2) (x := x2) (v := x2 + 1) rfl (by rw [kc_1]) (by decide) d_Co_first_88 (lv2 := [some (.ref (V.2.2.1 0 0)), some (.int x1), some (.int (x2 + 1)), some (.int y70)]) rfl ?_
      refine g_goto (pc := 91) hC (tgt := 24) (by decide) d_Co_first_91 ?_
      refine g_le (lv2 := [some (.ref (V.2.2.1 0 0)), some (.int x1), some (.int (x2 + 1)), none]) (⟨rfl, ⟨rfl, ⟨rfl, trivial⟩⟩⟩) ?_
      exact hk24 x1 (x2 + 1) q50 h
    · refine g_iload_n (pc := 75) hC (i := 1) (x := x1) rfl rfl d_Co_first_75 ?_
      refine g_if_ne (pc := 76) hC (tgt := 86) (by decide) d_Co_first_76 h (fun h => ?_) (fun h => ?_)
      · refine g_iload_n (pc := 86) hC (i := 2) (x := x2) rfl rfl d_Co_first_86 ?_
        exact g_iW (pc := 87) hC rfl d_Co_first_87 h
      · refine g_iload_n (pc := 79) hC (i := 3) (x := y70) rfl rfl d_Co_first_79 ?_
        obtain ⟨q80, hq80, h⟩ := Option.bind_eq_some_iff.mp h
        refine g_si (pc := 80) hC (As := [.int y70]) (st := []) mt_JInt_numberOfTrailingZeros lk_Co_303 (Nat.le_of_ble_eq_true rfl) ⟨Nat.le_of_ble_eq_true rfl, Nat.le_of_ble_eq_true rfl⟩ rfl d_Co_first_80 (c_JInt_numberOfTrailingZeros (IsC.ok hV) hq80) ?_
        refine g_goto (pc := 83) hC (tgt := 87) (by decide) d_Co_first_83 ?_
        exact g_iW (pc := 87) hC rfl d_Co_first_87 h
theorem w_Co_first_l24 {X : CX} {V : WV} (hV : IsC V) {z : Int32 × Mem} (hC : Ck X V bc_Co_first 4 "SecretWells" (some .int) 5 129) : ∀ (n : Nat) (x1 : Int32) (x2 : Int32) (S : Mem), f_Co_first_l24  n x1 x2 S = some z → G X V 4 (QI X V z.1 z.2) 24 [some (.ref (V.2.2.1 0 0)), some (.int x1), some (.int x2), none] [] S := by
  intro n
  induction n with
  | zero =>
    intro x1 x2 S h
    have h : (none : Option (Int32 × Mem)) = some z := h
    cases h
  | succ n ih =>
    intro x1 x2 S h
    exact w_Co_first_b24 hV hC (f_Co_first_l24  n) ih x1 x2 S h
set_option maxRecDepth 20000 in
theorem w_Co_first_b0 {X : CX} {V : WV} (hV : IsC V) {z : Int32 × Mem} (hC : Ck X V bc_Co_first 4 "SecretWells" (some .int) 5 129) (x1 : Int32) (S : Mem) (h : f_Co_first_b0  x1 S = some z) : G X V 4 (QI X V z.1 z.2) 0 [some (.ref (V.2.2.1 0 0)), some (.int x1), none, none] [] S := by
  unfold f_Co_first_b0 at h
  refine g_iload_n (pc := 0) hC (i := 1) (x := x1) rfl rfl d_Co_first_0 ?_
  refine g_if_lt (pc := 1) hC (tgt := 9) (by decide) d_Co_first_1 h (fun h => ?_) (fun h => ?_)
  · refine g_iconst (pc := 9) hC kc_m1 d_Co_first_9 ?_
    exact g_iW (pc := 10) hC rfl d_Co_first_10 h
  · refine g_iload_n (pc := 4) hC (i := 1) (x := x1) rfl rfl d_Co_first_4 ?_
    refine g_iconst (pc := 5) hC kc_1 d_Co_first_5 ?_
    refine g_icmp_le (pc := 6) hC (tgt := 11) (by decide) d_Co_first_6 h (fun h => ?_) (fun h => ?_)
    · refine g_aload_n (pc := 11) hC (i := 0) (x := (V.2.2.1 0 0)) rfl rfl d_Co_first_11 ?_
      refine g_getC (pc := 12) hC (j := 5) fo_Co_39 (ob_Co hV) rfl d_Co_first_12 ?_
      refine g_aload_n (pc := 15) hC (i := 0) (x := (V.2.2.1 0 0)) rfl rfl d_Co_first_15 ?_
      refine g_getC (pc := 16) hC (j := 4) fo_Co_35 (ob_Co hV) rfl d_Co_first_16 ?_
      obtain ⟨q19, hq19, h⟩ := Option.bind_eq_some_iff.mp h
      refine g_vv (pc := 19) hC (As := [.ref (V.2.2.1 4 0)]) (st := []) mt_St_copyOf lk_Co_299 rfl (ob_St hV is_5) (Nat.le_of_ble_eq_true rfl) ⟨Nat.le_of_ble_eq_true rfl, Nat.le_of_ble_eq_true rfl⟩ rfl d_Co_first_19 (c_St_copyOf hV is_5 is_4 hq19) ?_
      refine g_iconst (pc := 22) hC kc_1 d_Co_first_22 ?_
      refine s_istore_n (pc := 23) hC (i := 2) rfl (by decide) d_Co_first_23 (lv2 := [some (.ref (V.2.2.1 0 0)), some (.int x1), some (.int 1), none]) rfl ?_
      exact w_Co_first_l24 hV hC 5000 x1 1 q19 h
    · refine g_iconst (pc := 9) hC kc_m1 d_Co_first_9 ?_
      exact g_iW (pc := 10) hC rfl d_Co_first_10 h
theorem c_Co_first {V : WV} {l : Launch} (hV : IsC V) {x1 : Int32} {S : Mem} {z : Int32 × Mem} (h : f_Co_first x1 S = some z) : CI V l y_Co_first bc_Co_first 4 (some .int) 5 129 [.ref (V.2.2.1 0 0), .int x1] S z.1 z.2 :=
  ct_i rfl (IsC.ok hV) (Nat.le_of_ble_eq_true rfl) (fun _ _ hC => w_Co_first_b0 hV hC x1 S h)
def f_Co_isSet_b0 (S : Mem) (x1 : Int32) : Option (Int32) :=
  if x1 < 0 then
    some 0
  else
    gTx (S.1 0 11) (
    if ((1 : Int32) <<< ((S.1 ((S.1 0 11).toNatClampNeg) 2) &&& 31)) ≤ x1 then
      some 0
    else
      some 1)
def f_Co_isSet (x1 : Int32) (S : Mem) : Option (Int32) := f_Co_isSet_b0 S x1
theorem d_Co_isSet_0 : decode bc_Co_isSet 0 = .ok (.iload_n 1, 1) := by decide +kernel
theorem d_Co_isSet_1 : decode bc_Co_isSet 1 = .ok (.ifCond .lt 20, 3) := by decide +kernel
theorem d_Co_isSet_4 : decode bc_Co_isSet 4 = .ok (.iload_n 1, 1) := by decide +kernel
theorem d_Co_isSet_5 : decode bc_Co_isSet 5 = .ok (.iconst 1, 1) := by decide +kernel
theorem d_Co_isSet_6 : decode bc_Co_isSet 6 = .ok (.aload_n 0, 1) := by decide +kernel
theorem d_Co_isSet_7 : decode bc_Co_isSet 7 = .ok (.getfield 85, 3) := by decide +kernel
theorem d_Co_isSet_10 : decode bc_Co_isSet 10 = .ok (.getfield 227, 3) := by decide +kernel
theorem d_Co_isSet_13 : decode bc_Co_isSet 13 = .ok (.ishl, 1) := by decide +kernel
theorem d_Co_isSet_14 : decode bc_Co_isSet 14 = .ok (.if_icmp .ge 7, 3) := by decide +kernel
theorem d_Co_isSet_17 : decode bc_Co_isSet 17 = .ok (.iconst 1, 1) := by decide +kernel
theorem d_Co_isSet_18 : decode bc_Co_isSet 18 = .ok (.goto 4, 3) := by decide +kernel
theorem d_Co_isSet_21 : decode bc_Co_isSet 21 = .ok (.iconst 0, 1) := by decide +kernel
theorem d_Co_isSet_22 : decode bc_Co_isSet 22 = .ok (.ireturn, 1) := by decide +kernel
set_option maxRecDepth 20000 in
theorem w_Co_isSet_b0 {X : CX} {V : WV} (hV : IsC V) {S : Mem} {z : Int32} (hC : Ck X V bc_Co_isSet 2 "SecretWells" (some .boolean) 0 0) (x1 : Int32) (h : f_Co_isSet_b0 S x1 = some z) : G X V 2 (QI X V z S) 0 [some (.ref (V.2.2.1 0 0)), some (.int x1)] [] S := by
  unfold f_Co_isSet_b0 at h
  refine g_iload_n (pc := 0) hC (i := 1) (x := x1) rfl rfl d_Co_isSet_0 ?_
  refine g_if_lt (pc := 1) hC (tgt := 21) (by decide) d_Co_isSet_1 h (fun h => ?_) (fun h => ?_)
  · refine g_iconst (pc := 21) hC kc_0 d_Co_isSet_21 ?_
    exact g_iN (pc := 22) hC rfl d_Co_isSet_22 h
  · refine g_iload_n (pc := 4) hC (i := 1) (x := x1) rfl rfl d_Co_isSet_4 ?_
    refine g_iconst (pc := 5) hC kc_1 d_Co_isSet_5 ?_
    refine g_aload_n (pc := 6) hC (i := 0) (x := (V.2.2.1 0 0)) rfl rfl d_Co_isSet_6 ?_
    refine g_getM (pc := 7) hC fo_Co_85 (ob_Co hV) rfl d_Co_isSet_7 ?_
    obtain ⟨ht7, h⟩ := gTx_some h
    refine g_getI (pc := 10) hC fo_Co_227 (ob_Tx hV ht7) rfl d_Co_isSet_10 ?_
    refine g_ishl (pc := 13) hC d_Co_isSet_13 ?_
    refine g_icmp_ge (pc := 14) hC (tgt := 21) (by decide) d_Co_isSet_14 h (fun h => ?_) (fun h => ?_)
    · refine g_iconst (pc := 21) hC kc_0 d_Co_isSet_21 ?_
      exact g_iN (pc := 22) hC rfl d_Co_isSet_22 h
    · refine g_iconst (pc := 17) hC kc_1 d_Co_isSet_17 ?_
      refine g_goto (pc := 18) hC (tgt := 22) (by decide) d_Co_isSet_18 ?_
      exact g_iN (pc := 22) hC rfl d_Co_isSet_22 h
theorem c_Co_isSet {V : WV} {l : Launch} (hV : IsC V) {x1 : Int32} {S : Mem} {z : Int32} (h : f_Co_isSet x1 S = some z) : CI V l y_Co_isSet bc_Co_isSet 2 (some .boolean) 0 0 [.ref (V.2.2.1 0 0), .int x1] S z S :=
  ct_i rfl (IsC.ok hV) (Nat.le_of_ble_eq_true rfl) (fun _ _ hC => w_Co_isSet_b0 hV hC x1 h)
def f_Co_isRain_b0 (S : Mem) (x1 : Int32) (x2 : Int32) : Option (Int32) :=
  Option.bind (f_Co_isSet x1 S) (fun q2 =>
  if q2 = 0 then
    some 0
  else
    if x1 = 0 then
      some 0
    else
      Option.bind (f_JInt_bitCount x1) (fun q13 =>
      if 4 < q13 then
        some 0
      else
        if x2 < 1 then
          some 0
        else
          if 60 < x2 then
            some 0
          else
            some 1))
def f_Co_isRain (x1 : Int32) (x2 : Int32) (S : Mem) : Option (Int32) := f_Co_isRain_b0 S x1 x2
theorem d_Co_isRain_0 : decode bc_Co_isRain 0 = .ok (.aload_n 0, 1) := by decide +kernel
theorem d_Co_isRain_1 : decode bc_Co_isRain 1 = .ok (.iload_n 1, 1) := by decide +kernel
theorem d_Co_isRain_2 : decode bc_Co_isRain 2 = .ok (.invokevirtual 324, 3) := by decide +kernel
theorem d_Co_isRain_5 : decode bc_Co_isRain 5 = .ok (.ifCond .eq 30, 3) := by decide +kernel
theorem d_Co_isRain_8 : decode bc_Co_isRain 8 = .ok (.iload_n 1, 1) := by decide +kernel
theorem d_Co_isRain_9 : decode bc_Co_isRain 9 = .ok (.ifCond .eq 26, 3) := by decide +kernel
theorem d_Co_isRain_12 : decode bc_Co_isRain 12 = .ok (.iload_n 1, 1) := by decide +kernel
theorem d_Co_isRain_13 : decode bc_Co_isRain 13 = .ok (.invokestatic 196, 3) := by decide +kernel
theorem d_Co_isRain_16 : decode bc_Co_isRain 16 = .ok (.iconst 4, 1) := by decide +kernel
theorem d_Co_isRain_17 : decode bc_Co_isRain 17 = .ok (.if_icmp .gt 18, 3) := by decide +kernel
theorem d_Co_isRain_20 : decode bc_Co_isRain 20 = .ok (.iload_n 2, 1) := by decide +kernel
theorem d_Co_isRain_21 : decode bc_Co_isRain 21 = .ok (.iconst 1, 1) := by decide +kernel
theorem d_Co_isRain_22 : decode bc_Co_isRain 22 = .ok (.if_icmp .lt 13, 3) := by decide +kernel
theorem d_Co_isRain_25 : decode bc_Co_isRain 25 = .ok (.iload_n 2, 1) := by decide +kernel
theorem d_Co_isRain_26 : decode bc_Co_isRain 26 = .ok (.bipush 60, 2) := by decide +kernel
theorem d_Co_isRain_28 : decode bc_Co_isRain 28 = .ok (.if_icmp .gt 7, 3) := by decide +kernel
theorem d_Co_isRain_31 : decode bc_Co_isRain 31 = .ok (.iconst 1, 1) := by decide +kernel
theorem d_Co_isRain_32 : decode bc_Co_isRain 32 = .ok (.goto 4, 3) := by decide +kernel
theorem d_Co_isRain_35 : decode bc_Co_isRain 35 = .ok (.iconst 0, 1) := by decide +kernel
theorem d_Co_isRain_36 : decode bc_Co_isRain 36 = .ok (.ireturn, 1) := by decide +kernel
set_option maxRecDepth 20000 in
theorem w_Co_isRain_b0 {X : CX} {V : WV} (hV : IsC V) {S : Mem} {z : Int32} (hC : Ck X V bc_Co_isRain 3 "SecretWells" (some .boolean) 1 21) (x1 : Int32) (x2 : Int32) (h : f_Co_isRain_b0 S x1 x2 = some z) : G X V 3 (QI X V z S) 0 [some (.ref (V.2.2.1 0 0)), some (.int x1), some (.int x2)] [] S := by
  unfold f_Co_isRain_b0 at h
  refine g_aload_n (pc := 0) hC (i := 0) (x := (V.2.2.1 0 0)) rfl rfl d_Co_isRain_0 ?_
  refine g_iload_n (pc := 1) hC (i := 1) (x := x1) rfl rfl d_Co_isRain_1 ?_
  obtain ⟨q2, hq2, h⟩ := Option.bind_eq_some_iff.mp h
  refine g_vi (pc := 2) hC (As := [.int x1]) (st := []) mt_Co_isSet lk_Co_324 rfl (ob_Co hV) (Nat.le_of_ble_eq_true rfl) ⟨Nat.le_of_ble_eq_true rfl, Nat.le_of_ble_eq_true rfl⟩ rfl d_Co_isRain_2 (c_Co_isSet hV hq2) ?_
  refine g_if_eq (pc := 5) hC (tgt := 35) (by decide) d_Co_isRain_5 h (fun h => ?_) (fun h => ?_)
  · refine g_iconst (pc := 35) hC kc_0 d_Co_isRain_35 ?_
    exact g_iN (pc := 36) hC rfl d_Co_isRain_36 h
  · refine g_iload_n (pc := 8) hC (i := 1) (x := x1) rfl rfl d_Co_isRain_8 ?_
    refine g_if_eq (pc := 9) hC (tgt := 35) (by decide) d_Co_isRain_9 h (fun h => ?_) (fun h => ?_)
    · refine g_iconst (pc := 35) hC kc_0 d_Co_isRain_35 ?_
      exact g_iN (pc := 36) hC rfl d_Co_isRain_36 h
    · refine g_iload_n (pc := 12) hC (i := 1) (x := x1) rfl rfl d_Co_isRain_12 ?_
      obtain ⟨q13, hq13, h⟩ := Option.bind_eq_some_iff.mp h
      refine g_si (pc := 13) hC (As := [.int x1]) (st := []) mt_JInt_bitCount lk_Co_196 (Nat.le_of_ble_eq_true rfl) ⟨Nat.le_of_ble_eq_true rfl, Nat.le_of_ble_eq_true rfl⟩ rfl d_Co_isRain_13 (c_JInt_bitCount (IsC.ok hV) hq13) ?_
      refine g_iconst (pc := 16) hC kc_4 d_Co_isRain_16 ?_
      refine g_icmp_gt (pc := 17) hC (tgt := 35) (by decide) d_Co_isRain_17 h (fun h => ?_) (fun h => ?_)
      · refine g_iconst (pc := 35) hC kc_0 d_Co_isRain_35 ?_
        exact g_iN (pc := 36) hC rfl d_Co_isRain_36 h
      · refine g_iload_n (pc := 20) hC (i := 2) (x := x2) rfl rfl d_Co_isRain_20 ?_
        refine g_iconst (pc := 21) hC kc_1 d_Co_isRain_21 ?_
        refine g_icmp_lt (pc := 22) hC (tgt := 35) (by decide) d_Co_isRain_22 h (fun h => ?_) (fun h => ?_)
        · refine g_iconst (pc := 35) hC kc_0 d_Co_isRain_35 ?_
          exact g_iN (pc := 36) hC rfl d_Co_isRain_36 h
        · refine g_iload_n (pc := 25) hC (i := 2) (x := x2) rfl rfl d_Co_isRain_25 ?_
          refine g_bipush (pc := 26) hC kb_60 d_Co_isRain_26 ?_
          refine g_icmp_gt (pc := 28) hC (tgt := 35) (by decide) d_Co_isRain_28 h (fun h => ?_) (fun h => ?_)
          · refine g_iconst (pc := 35) hC kc_0 d_Co_isRain_35 ?_
            exact g_iN (pc := 36) hC rfl d_Co_isRain_36 h
          · refine g_iconst (pc := 31) hC kc_1 d_Co_isRain_31 ?_
            refine g_goto (pc := 32) hC (tgt := 36) (by decide) d_Co_isRain_32 ?_
            exact g_iN (pc := 36) hC rfl d_Co_isRain_36 h
theorem c_Co_isRain {V : WV} {l : Launch} (hV : IsC V) {x1 : Int32} {x2 : Int32} {S : Mem} {z : Int32} (h : f_Co_isRain x1 x2 S = some z) : CI V l y_Co_isRain bc_Co_isRain 3 (some .boolean) 1 21 [.ref (V.2.2.1 0 0), .int x1, .int x2] S z S :=
  ct_i rfl (IsC.ok hV) (Nat.le_of_ble_eq_true rfl) (fun _ _ hC => w_Co_isRain_b0 hV hC x1 x2 h)
def f_Co_rain_b0 (x1 : Int32) (x2 : Int32) (x3 : Int32) (S : Mem) : Option (Int32 × Mem) :=
  Option.bind (f_Co_isRain x1 x2 S) (fun q3 =>
  if q3 = 0 then
    some ((-1), S)
  else
    if x3 < 0 then
      some ((-1), S)
    else
      if x3 ≤ 2 then
        gTx (S.1 0 11) (
        if (S.1 ((S.1 0 11).toNatClampNeg) 0) = 0 then
          some ((-2), S)
        else
          gTx (S.1 0 11) (
          Option.bind (f_Rn_seek ((S.1 0 11).toNatClampNeg) 4 5 x1 x2 S) (fun q55 =>
          if x3 = 0 then
            some (q55.1 7 1, q55)
          else if x3 = 1 then
            some (q55.1 7 2, q55)
          else 
            some (q55.1 7 3, q55))))
      else
        some ((-1), S))
def f_Co_rain (x1 : Int32) (x2 : Int32) (x3 : Int32) (S : Mem) : Option (Int32 × Mem) := f_Co_rain_b0  x1 x2 x3 S
theorem d_Co_rain_0 : decode bc_Co_rain 0 = .ok (.aload_n 0, 1) := by decide +kernel
theorem d_Co_rain_1 : decode bc_Co_rain 1 = .ok (.iload_n 1, 1) := by decide +kernel
theorem d_Co_rain_2 : decode bc_Co_rain 2 = .ok (.iload_n 2, 1) := by decide +kernel
theorem d_Co_rain_3 : decode bc_Co_rain 3 = .ok (.invokevirtual 306, 3) := by decide +kernel
theorem d_Co_rain_6 : decode bc_Co_rain 6 = .ok (.ifCond .eq 12, 3) := by decide +kernel
theorem d_Co_rain_9 : decode bc_Co_rain 9 = .ok (.iload_n 3, 1) := by decide +kernel
theorem d_Co_rain_10 : decode bc_Co_rain 10 = .ok (.ifCond .lt 8, 3) := by decide +kernel
theorem d_Co_rain_13 : decode bc_Co_rain 13 = .ok (.iload_n 3, 1) := by decide +kernel
theorem d_Co_rain_14 : decode bc_Co_rain 14 = .ok (.iconst 2, 1) := by decide +kernel
theorem d_Co_rain_15 : decode bc_Co_rain 15 = .ok (.if_icmp .le 5, 3) := by decide +kernel
theorem d_Co_rain_18 : decode bc_Co_rain 18 = .ok (.iconst (-1), 1) := by decide +kernel
theorem d_Co_rain_19 : decode bc_Co_rain 19 = .ok (.ireturn, 1) := by decide +kernel
theorem d_Co_rain_20 : decode bc_Co_rain 20 = .ok (.aload_n 0, 1) := by decide +kernel
theorem d_Co_rain_21 : decode bc_Co_rain 21 = .ok (.getfield 85, 3) := by decide +kernel
theorem d_Co_rain_24 : decode bc_Co_rain 24 = .ok (.getfield 221, 3) := by decide +kernel
theorem d_Co_rain_27 : decode bc_Co_rain 27 = .ok (.ifCond .ne 6, 3) := by decide +kernel
theorem d_Co_rain_30 : decode bc_Co_rain 30 = .ok (.bipush (-2), 2) := by decide +kernel
theorem d_Co_rain_32 : decode bc_Co_rain 32 = .ok (.ireturn, 1) := by decide +kernel
theorem d_Co_rain_33 : decode bc_Co_rain 33 = .ok (.aload_n 0, 1) := by decide +kernel
theorem d_Co_rain_34 : decode bc_Co_rain 34 = .ok (.getfield 52, 3) := by decide +kernel
theorem d_Co_rain_37 : decode bc_Co_rain 37 = .ok (.aload_n 0, 1) := by decide +kernel
theorem d_Co_rain_38 : decode bc_Co_rain 38 = .ok (.getfield 85, 3) := by decide +kernel
theorem d_Co_rain_41 : decode bc_Co_rain 41 = .ok (.aload_n 0, 1) := by decide +kernel
theorem d_Co_rain_42 : decode bc_Co_rain 42 = .ok (.getfield 35, 3) := by decide +kernel
theorem d_Co_rain_45 : decode bc_Co_rain 45 = .ok (.aload_n 0, 1) := by decide +kernel
theorem d_Co_rain_46 : decode bc_Co_rain 46 = .ok (.getfield 39, 3) := by decide +kernel
theorem d_Co_rain_49 : decode bc_Co_rain 49 = .ok (.aload_n 0, 1) := by decide +kernel
theorem d_Co_rain_50 : decode bc_Co_rain 50 = .ok (.getfield 45, 3) := by decide +kernel
theorem d_Co_rain_53 : decode bc_Co_rain 53 = .ok (.iload_n 1, 1) := by decide +kernel
theorem d_Co_rain_54 : decode bc_Co_rain 54 = .ok (.iload_n 2, 1) := by decide +kernel
theorem d_Co_rain_55 : decode bc_Co_rain 55 = .ok (.invokevirtual 309, 3) := by decide +kernel
theorem d_Co_rain_58 : decode bc_Co_rain 58 = .ok (.iload_n 3, 1) := by decide +kernel
theorem d_Co_rain_59 : decode bc_Co_rain 59 = .ok (.lookupswitch 41 #[(0, 25), (1, 33)], 25) := by decide +kernel
theorem d_Co_rain_84 : decode bc_Co_rain 84 = .ok (.aload_n 0, 1) := by decide +kernel
theorem d_Co_rain_85 : decode bc_Co_rain 85 = .ok (.getfield 52, 3) := by decide +kernel
theorem d_Co_rain_88 : decode bc_Co_rain 88 = .ok (.getfield 312, 3) := by decide +kernel
theorem d_Co_rain_91 : decode bc_Co_rain 91 = .ok (.ireturn, 1) := by decide +kernel
theorem d_Co_rain_92 : decode bc_Co_rain 92 = .ok (.aload_n 0, 1) := by decide +kernel
theorem d_Co_rain_93 : decode bc_Co_rain 93 = .ok (.getfield 52, 3) := by decide +kernel
theorem d_Co_rain_96 : decode bc_Co_rain 96 = .ok (.getfield 315, 3) := by decide +kernel
theorem d_Co_rain_99 : decode bc_Co_rain 99 = .ok (.ireturn, 1) := by decide +kernel
theorem d_Co_rain_100 : decode bc_Co_rain 100 = .ok (.aload_n 0, 1) := by decide +kernel
theorem d_Co_rain_101 : decode bc_Co_rain 101 = .ok (.getfield 52, 3) := by decide +kernel
theorem d_Co_rain_104 : decode bc_Co_rain 104 = .ok (.getfield 318, 3) := by decide +kernel
theorem d_Co_rain_107 : decode bc_Co_rain 107 = .ok (.ireturn, 1) := by decide +kernel
set_option maxRecDepth 20000 in
theorem w_Co_rain_b0 {X : CX} {V : WV} (hV : IsC V) {z : Int32 × Mem} (hC : Ck X V bc_Co_rain 4 "SecretWells" (some .int) 7 186) (x1 : Int32) (x2 : Int32) (x3 : Int32) (S : Mem) (h : f_Co_rain_b0  x1 x2 x3 S = some z) : G X V 4 (QI X V z.1 z.2) 0 [some (.ref (V.2.2.1 0 0)), some (.int x1), some (.int x2), some (.int x3)] [] S := by
  unfold f_Co_rain_b0 at h
  refine g_aload_n (pc := 0) hC (i := 0) (x := (V.2.2.1 0 0)) rfl rfl d_Co_rain_0 ?_
  refine g_iload_n (pc := 1) hC (i := 1) (x := x1) rfl rfl d_Co_rain_1 ?_
  refine g_iload_n (pc := 2) hC (i := 2) (x := x2) rfl rfl d_Co_rain_2 ?_
  obtain ⟨q3, hq3, h⟩ := Option.bind_eq_some_iff.mp h
  refine g_vi (pc := 3) hC (As := [.int x1, .int x2]) (st := []) mt_Co_isRain lk_Co_306 rfl (ob_Co hV) (Nat.le_of_ble_eq_true rfl) ⟨Nat.le_of_ble_eq_true rfl, Nat.le_of_ble_eq_true rfl⟩ rfl d_Co_rain_3 (c_Co_isRain hV hq3) ?_
  refine g_if_eq (pc := 6) hC (tgt := 18) (by decide) d_Co_rain_6 h (fun h => ?_) (fun h => ?_)
  · refine g_iconst (pc := 18) hC kc_m1 d_Co_rain_18 ?_
    exact g_iW (pc := 19) hC rfl d_Co_rain_19 h
  · refine g_iload_n (pc := 9) hC (i := 3) (x := x3) rfl rfl d_Co_rain_9 ?_
    refine g_if_lt (pc := 10) hC (tgt := 18) (by decide) d_Co_rain_10 h (fun h => ?_) (fun h => ?_)
    · refine g_iconst (pc := 18) hC kc_m1 d_Co_rain_18 ?_
      exact g_iW (pc := 19) hC rfl d_Co_rain_19 h
    · refine g_iload_n (pc := 13) hC (i := 3) (x := x3) rfl rfl d_Co_rain_13 ?_
      refine g_iconst (pc := 14) hC kc_2 d_Co_rain_14 ?_
      refine g_icmp_le (pc := 15) hC (tgt := 20) (by decide) d_Co_rain_15 h (fun h => ?_) (fun h => ?_)
      · refine g_aload_n (pc := 20) hC (i := 0) (x := (V.2.2.1 0 0)) rfl rfl d_Co_rain_20 ?_
        refine g_getM (pc := 21) hC fo_Co_85 (ob_Co hV) rfl d_Co_rain_21 ?_
        obtain ⟨ht21, h⟩ := gTx_some h
        refine g_getI (pc := 24) hC fo_Co_221 (ob_Tx hV ht21) rfl d_Co_rain_24 ?_
        refine g_if_ne (pc := 27) hC (tgt := 33) (by decide) d_Co_rain_27 h (fun h => ?_) (fun h => ?_)
        · refine g_aload_n (pc := 33) hC (i := 0) (x := (V.2.2.1 0 0)) rfl rfl d_Co_rain_33 ?_
          refine g_getC (pc := 34) hC (j := 7) fo_Co_52 (ob_Co hV) rfl d_Co_rain_34 ?_
          refine g_aload_n (pc := 37) hC (i := 0) (x := (V.2.2.1 0 0)) rfl rfl d_Co_rain_37 ?_
          refine g_getM (pc := 38) hC fo_Co_85 (ob_Co hV) rfl d_Co_rain_38 ?_
          obtain ⟨ht38, h⟩ := gTx_some h
          refine g_aload_n (pc := 41) hC (i := 0) (x := (V.2.2.1 0 0)) rfl rfl d_Co_rain_41 ?_
          refine g_getC (pc := 42) hC (j := 4) fo_Co_35 (ob_Co hV) rfl d_Co_rain_42 ?_
          refine g_aload_n (pc := 45) hC (i := 0) (x := (V.2.2.1 0 0)) rfl rfl d_Co_rain_45 ?_
          refine g_getC (pc := 46) hC (j := 5) fo_Co_39 (ob_Co hV) rfl d_Co_rain_46 ?_
          refine g_aload_n (pc := 49) hC (i := 0) (x := (V.2.2.1 0 0)) rfl rfl d_Co_rain_49 ?_
          refine g_getC (pc := 50) hC (j := 6) fo_Co_45 (ob_Co hV) rfl d_Co_rain_50 ?_
          refine g_iload_n (pc := 53) hC (i := 1) (x := x1) rfl rfl d_Co_rain_53 ?_
          refine g_iload_n (pc := 54) hC (i := 2) (x := x2) rfl rfl d_Co_rain_54 ?_
          obtain ⟨q55, hq55, h⟩ := Option.bind_eq_some_iff.mp h
          refine g_vv (pc := 55) hC (As := [.ref (V.2.2.1 ((S.1 0 11).toNatClampNeg) 0), .ref (V.2.2.1 4 0), .ref (V.2.2.1 5 0), .ref (V.2.2.1 6 0), .int x1, .int x2]) (st := []) mt_Rn_seek lk_Co_309 rfl (ob_Rn hV) (Nat.le_of_ble_eq_true rfl) ⟨Nat.le_of_ble_eq_true rfl, Nat.le_of_ble_eq_true rfl⟩ rfl d_Co_rain_55 (c_Rn_seek hV ht38 is_4 is_5 hq55) ?_
          refine g_iload_n (pc := 58) hC (i := 3) (x := x3) rfl rfl d_Co_rain_58 ?_
          by_cases hs59_0 : x3 = 0
          · rw [if_pos hs59_0] at h
            refine g_look (pc := 59) hC (tgt := 84) d_Co_rain_59 (by decide) (by rw [hs59_0]; decide) ?_
            refine g_aload_n (pc := 84) hC (i := 0) (x := (V.2.2.1 0 0)) rfl rfl d_Co_rain_84 ?_
            refine g_getC (pc := 85) hC (j := 7) fo_Co_52 (ob_Co hV) rfl d_Co_rain_85 ?_
            refine g_getI (pc := 88) hC fo_Co_312 (ob_Rn hV) rfl d_Co_rain_88 ?_
            exact g_iW (pc := 91) hC rfl d_Co_rain_91 h
          rw [if_neg hs59_0] at h
          by_cases hs59_1 : x3 = 1
          · rw [if_pos hs59_1] at h
            refine g_look (pc := 59) hC (tgt := 92) d_Co_rain_59 (by decide) (by rw [hs59_1]; decide) ?_
            refine g_aload_n (pc := 92) hC (i := 0) (x := (V.2.2.1 0 0)) rfl rfl d_Co_rain_92 ?_
            refine g_getC (pc := 93) hC (j := 7) fo_Co_52 (ob_Co hV) rfl d_Co_rain_93 ?_
            refine g_getI (pc := 96) hC fo_Co_315 (ob_Rn hV) rfl d_Co_rain_96 ?_
            exact g_iW (pc := 99) hC rfl d_Co_rain_99 h
          rw [if_neg hs59_1] at h
          refine g_look (pc := 59) hC (tgt := 100) d_Co_rain_59 (by decide) (lk_else [(0 : Int32), (1 : Int32)] (by intro v hv; simp only [List.mem_cons, List.not_mem_nil, or_false] at hv; rcases hv with rfl | rfl <;> assumption) (by decide) (by decide)) ?_
          refine g_aload_n (pc := 100) hC (i := 0) (x := (V.2.2.1 0 0)) rfl rfl d_Co_rain_100 ?_
          refine g_getC (pc := 101) hC (j := 7) fo_Co_52 (ob_Co hV) rfl d_Co_rain_101 ?_
          refine g_getI (pc := 104) hC fo_Co_318 (ob_Rn hV) rfl d_Co_rain_104 ?_
          exact g_iW (pc := 107) hC rfl d_Co_rain_107 h
        · refine g_bipush (pc := 30) hC kb_m2 d_Co_rain_30 ?_
          exact g_iW (pc := 32) hC rfl d_Co_rain_32 h
      · refine g_iconst (pc := 18) hC kc_m1 d_Co_rain_18 ?_
        exact g_iW (pc := 19) hC rfl d_Co_rain_19 h
theorem c_Co_rain {V : WV} {l : Launch} (hV : IsC V) {x1 : Int32} {x2 : Int32} {x3 : Int32} {S : Mem} {z : Int32 × Mem} (h : f_Co_rain x1 x2 x3 S = some z) : CI V l y_Co_rain bc_Co_rain 4 (some .int) 7 186 [.ref (V.2.2.1 0 0), .int x1, .int x2, .int x3] S z.1 z.2 :=
  ct_i rfl (IsC.ok hV) (Nat.le_of_ble_eq_true rfl) (fun _ _ hC => w_Co_rain_b0 hV hC x1 x2 x3 S h)
def f_Co_rainAt_b0 (x1 : Int32) (x2 : Int32) (x3 : Int32) (S : Mem) : Option (Int32 × Mem) :=
  Option.bind (f_Co_isRain x1 x2 S) (fun q3 =>
  if q3 = 0 then
    some ((-1), S)
  else
    if x3 < 0 then
      some ((-1), S)
    else
      Option.bind (f_JInt_bitCount x1) (fun q15 =>
      if x3 < q15 then
        gTx (S.1 0 11) (
        if (S.1 ((S.1 0 11).toNatClampNeg) 0) = 0 then
          some ((-2), S)
        else
          gTx (S.1 0 11) (
          Option.bind (f_Rn_seek ((S.1 0 11).toNatClampNeg) 4 5 x1 x2 S) (fun q58 =>
          gIn x3 4 (
          some (q58.2.1 7 4 x3.toNatClampNeg, q58)))))
      else
        some ((-1), S)))
def f_Co_rainAt (x1 : Int32) (x2 : Int32) (x3 : Int32) (S : Mem) : Option (Int32 × Mem) := f_Co_rainAt_b0  x1 x2 x3 S
theorem d_Co_rainAt_0 : decode bc_Co_rainAt 0 = .ok (.aload_n 0, 1) := by decide +kernel
theorem d_Co_rainAt_1 : decode bc_Co_rainAt 1 = .ok (.iload_n 1, 1) := by decide +kernel
theorem d_Co_rainAt_2 : decode bc_Co_rainAt 2 = .ok (.iload_n 2, 1) := by decide +kernel
theorem d_Co_rainAt_3 : decode bc_Co_rainAt 3 = .ok (.invokevirtual 306, 3) := by decide +kernel
theorem d_Co_rainAt_6 : decode bc_Co_rainAt 6 = .ok (.ifCond .eq 15, 3) := by decide +kernel
theorem d_Co_rainAt_9 : decode bc_Co_rainAt 9 = .ok (.iload_n 3, 1) := by decide +kernel
theorem d_Co_rainAt_10 : decode bc_Co_rainAt 10 = .ok (.ifCond .lt 11, 3) := by decide +kernel
theorem d_Co_rainAt_13 : decode bc_Co_rainAt 13 = .ok (.iload_n 3, 1) := by decide +kernel
theorem d_Co_rainAt_14 : decode bc_Co_rainAt 14 = .ok (.iload_n 1, 1) := by decide +kernel
theorem d_Co_rainAt_15 : decode bc_Co_rainAt 15 = .ok (.invokestatic 196, 3) := by decide +kernel
theorem d_Co_rainAt_18 : decode bc_Co_rainAt 18 = .ok (.if_icmp .lt 5, 3) := by decide +kernel
theorem d_Co_rainAt_21 : decode bc_Co_rainAt 21 = .ok (.iconst (-1), 1) := by decide +kernel
theorem d_Co_rainAt_22 : decode bc_Co_rainAt 22 = .ok (.ireturn, 1) := by decide +kernel
theorem d_Co_rainAt_23 : decode bc_Co_rainAt 23 = .ok (.aload_n 0, 1) := by decide +kernel
theorem d_Co_rainAt_24 : decode bc_Co_rainAt 24 = .ok (.getfield 85, 3) := by decide +kernel
theorem d_Co_rainAt_27 : decode bc_Co_rainAt 27 = .ok (.getfield 221, 3) := by decide +kernel
theorem d_Co_rainAt_30 : decode bc_Co_rainAt 30 = .ok (.ifCond .ne 6, 3) := by decide +kernel
theorem d_Co_rainAt_33 : decode bc_Co_rainAt 33 = .ok (.bipush (-2), 2) := by decide +kernel
theorem d_Co_rainAt_35 : decode bc_Co_rainAt 35 = .ok (.ireturn, 1) := by decide +kernel
theorem d_Co_rainAt_36 : decode bc_Co_rainAt 36 = .ok (.aload_n 0, 1) := by decide +kernel
theorem d_Co_rainAt_37 : decode bc_Co_rainAt 37 = .ok (.getfield 52, 3) := by decide +kernel
theorem d_Co_rainAt_40 : decode bc_Co_rainAt 40 = .ok (.aload_n 0, 1) := by decide +kernel
theorem d_Co_rainAt_41 : decode bc_Co_rainAt 41 = .ok (.getfield 85, 3) := by decide +kernel
theorem d_Co_rainAt_44 : decode bc_Co_rainAt 44 = .ok (.aload_n 0, 1) := by decide +kernel
theorem d_Co_rainAt_45 : decode bc_Co_rainAt 45 = .ok (.getfield 35, 3) := by decide +kernel
theorem d_Co_rainAt_48 : decode bc_Co_rainAt 48 = .ok (.aload_n 0, 1) := by decide +kernel
theorem d_Co_rainAt_49 : decode bc_Co_rainAt 49 = .ok (.getfield 39, 3) := by decide +kernel
theorem d_Co_rainAt_52 : decode bc_Co_rainAt 52 = .ok (.aload_n 0, 1) := by decide +kernel
theorem d_Co_rainAt_53 : decode bc_Co_rainAt 53 = .ok (.getfield 45, 3) := by decide +kernel
theorem d_Co_rainAt_56 : decode bc_Co_rainAt 56 = .ok (.iload_n 1, 1) := by decide +kernel
theorem d_Co_rainAt_57 : decode bc_Co_rainAt 57 = .ok (.iload_n 2, 1) := by decide +kernel
theorem d_Co_rainAt_58 : decode bc_Co_rainAt 58 = .ok (.invokevirtual 309, 3) := by decide +kernel
theorem d_Co_rainAt_61 : decode bc_Co_rainAt 61 = .ok (.aload_n 0, 1) := by decide +kernel
theorem d_Co_rainAt_62 : decode bc_Co_rainAt 62 = .ok (.getfield 52, 3) := by decide +kernel
theorem d_Co_rainAt_65 : decode bc_Co_rainAt 65 = .ok (.getfield 321, 3) := by decide +kernel
theorem d_Co_rainAt_68 : decode bc_Co_rainAt 68 = .ok (.iload_n 3, 1) := by decide +kernel
theorem d_Co_rainAt_69 : decode bc_Co_rainAt 69 = .ok (.iaload, 1) := by decide +kernel
theorem d_Co_rainAt_70 : decode bc_Co_rainAt 70 = .ok (.ireturn, 1) := by decide +kernel
set_option maxRecDepth 20000 in
theorem w_Co_rainAt_b0 {X : CX} {V : WV} (hV : IsC V) {z : Int32 × Mem} (hC : Ck X V bc_Co_rainAt 4 "SecretWells" (some .int) 7 186) (x1 : Int32) (x2 : Int32) (x3 : Int32) (S : Mem) (h : f_Co_rainAt_b0  x1 x2 x3 S = some z) : G X V 4 (QI X V z.1 z.2) 0 [some (.ref (V.2.2.1 0 0)), some (.int x1), some (.int x2), some (.int x3)] [] S := by
  unfold f_Co_rainAt_b0 at h
  refine g_aload_n (pc := 0) hC (i := 0) (x := (V.2.2.1 0 0)) rfl rfl d_Co_rainAt_0 ?_
  refine g_iload_n (pc := 1) hC (i := 1) (x := x1) rfl rfl d_Co_rainAt_1 ?_
  refine g_iload_n (pc := 2) hC (i := 2) (x := x2) rfl rfl d_Co_rainAt_2 ?_
  obtain ⟨q3, hq3, h⟩ := Option.bind_eq_some_iff.mp h
  refine g_vi (pc := 3) hC (As := [.int x1, .int x2]) (st := []) mt_Co_isRain lk_Co_306 rfl (ob_Co hV) (Nat.le_of_ble_eq_true rfl) ⟨Nat.le_of_ble_eq_true rfl, Nat.le_of_ble_eq_true rfl⟩ rfl d_Co_rainAt_3 (c_Co_isRain hV hq3) ?_
  refine g_if_eq (pc := 6) hC (tgt := 21) (by decide) d_Co_rainAt_6 h (fun h => ?_) (fun h => ?_)
  · refine g_iconst (pc := 21) hC kc_m1 d_Co_rainAt_21 ?_
    exact g_iW (pc := 22) hC rfl d_Co_rainAt_22 h
  · refine g_iload_n (pc := 9) hC (i := 3) (x := x3) rfl rfl d_Co_rainAt_9 ?_
    refine g_if_lt (pc := 10) hC (tgt := 21) (by decide) d_Co_rainAt_10 h (fun h => ?_) (fun h => ?_)
    · refine g_iconst (pc := 21) hC kc_m1 d_Co_rainAt_21 ?_
      exact g_iW (pc := 22) hC rfl d_Co_rainAt_22 h
    · refine g_iload_n (pc := 13) hC (i := 3) (x := x3) rfl rfl d_Co_rainAt_13 ?_
      refine g_iload_n (pc := 14) hC (i := 1) (x := x1) rfl rfl d_Co_rainAt_14 ?_
      obtain ⟨q15, hq15, h⟩ := Option.bind_eq_some_iff.mp h
      refine g_si (pc := 15) hC (As := [.int x1]) (st := [.int x3]) mt_JInt_bitCount lk_Co_196 (Nat.le_of_ble_eq_true rfl) ⟨Nat.le_of_ble_eq_true rfl, Nat.le_of_ble_eq_true rfl⟩ rfl d_Co_rainAt_15 (c_JInt_bitCount (IsC.ok hV) hq15) ?_
      refine g_icmp_lt (pc := 18) hC (tgt := 23) (by decide) d_Co_rainAt_18 h (fun h => ?_) (fun h => ?_)
      · refine g_aload_n (pc := 23) hC (i := 0) (x := (V.2.2.1 0 0)) rfl rfl d_Co_rainAt_23 ?_
        refine g_getM (pc := 24) hC fo_Co_85 (ob_Co hV) rfl d_Co_rainAt_24 ?_
        obtain ⟨ht24, h⟩ := gTx_some h
        refine g_getI (pc := 27) hC fo_Co_221 (ob_Tx hV ht24) rfl d_Co_rainAt_27 ?_
        refine g_if_ne (pc := 30) hC (tgt := 36) (by decide) d_Co_rainAt_30 h (fun h => ?_) (fun h => ?_)
        · refine g_aload_n (pc := 36) hC (i := 0) (x := (V.2.2.1 0 0)) rfl rfl d_Co_rainAt_36 ?_
          refine g_getC (pc := 37) hC (j := 7) fo_Co_52 (ob_Co hV) rfl d_Co_rainAt_37 ?_
          refine g_aload_n (pc := 40) hC (i := 0) (x := (V.2.2.1 0 0)) rfl rfl d_Co_rainAt_40 ?_
          refine g_getM (pc := 41) hC fo_Co_85 (ob_Co hV) rfl d_Co_rainAt_41 ?_
          obtain ⟨ht41, h⟩ := gTx_some h
          refine g_aload_n (pc := 44) hC (i := 0) (x := (V.2.2.1 0 0)) rfl rfl d_Co_rainAt_44 ?_
          refine g_getC (pc := 45) hC (j := 4) fo_Co_35 (ob_Co hV) rfl d_Co_rainAt_45 ?_
          refine g_aload_n (pc := 48) hC (i := 0) (x := (V.2.2.1 0 0)) rfl rfl d_Co_rainAt_48 ?_
          refine g_getC (pc := 49) hC (j := 5) fo_Co_39 (ob_Co hV) rfl d_Co_rainAt_49 ?_
          refine g_aload_n (pc := 52) hC (i := 0) (x := (V.2.2.1 0 0)) rfl rfl d_Co_rainAt_52 ?_
          refine g_getC (pc := 53) hC (j := 6) fo_Co_45 (ob_Co hV) rfl d_Co_rainAt_53 ?_
          refine g_iload_n (pc := 56) hC (i := 1) (x := x1) rfl rfl d_Co_rainAt_56 ?_
          refine g_iload_n (pc := 57) hC (i := 2) (x := x2) rfl rfl d_Co_rainAt_57 ?_
          obtain ⟨q58, hq58, h⟩ := Option.bind_eq_some_iff.mp h
          refine g_vv (pc := 58) hC (As := [.ref (V.2.2.1 ((S.1 0 11).toNatClampNeg) 0), .ref (V.2.2.1 4 0), .ref (V.2.2.1 5 0), .ref (V.2.2.1 6 0), .int x1, .int x2]) (st := []) mt_Rn_seek lk_Co_309 rfl (ob_Rn hV) (Nat.le_of_ble_eq_true rfl) ⟨Nat.le_of_ble_eq_true rfl, Nat.le_of_ble_eq_true rfl⟩ rfl d_Co_rainAt_58 (c_Rn_seek hV ht41 is_4 is_5 hq58) ?_
          refine g_aload_n (pc := 61) hC (i := 0) (x := (V.2.2.1 0 0)) rfl rfl d_Co_rainAt_61 ?_
          refine g_getC (pc := 62) hC (j := 7) fo_Co_52 (ob_Co hV) rfl d_Co_rainAt_62 ?_
          refine g_getA (pc := 65) hC fo_Co_321 (ob_Rn hV) rfl d_Co_rainAt_65 ?_
          refine g_iload_n (pc := 68) hC (i := 3) (x := x3) rfl rfl d_Co_rainAt_68 ?_
          refine g_iald (pc := 69) hC (ar_Rn_4 hV) d_Co_rainAt_69 h (fun h => ?_)
          exact g_iW (pc := 70) hC rfl d_Co_rainAt_70 h
        · refine g_bipush (pc := 33) hC kb_m2 d_Co_rainAt_33 ?_
          exact g_iW (pc := 35) hC rfl d_Co_rainAt_35 h
      · refine g_iconst (pc := 21) hC kc_m1 d_Co_rainAt_21 ?_
        exact g_iW (pc := 22) hC rfl d_Co_rainAt_22 h
theorem c_Co_rainAt {V : WV} {l : Launch} (hV : IsC V) {x1 : Int32} {x2 : Int32} {x3 : Int32} {S : Mem} {z : Int32 × Mem} (h : f_Co_rainAt x1 x2 x3 S = some z) : CI V l y_Co_rainAt bc_Co_rainAt 4 (some .int) 7 186 [.ref (V.2.2.1 0 0), .int x1, .int x2, .int x3] S z.1 z.2 :=
  ct_i rfl (IsC.ok hV) (Nat.le_of_ble_eq_true rfl) (fun _ _ hC => w_Co_rainAt_b0 hV hC x1 x2 x3 S h)
def f_Co_isSeeds_b0 (x0 : Int32) (x1 : Int32) : Option (Int32) :=
  if x0 < 0 then
    some 0
  else
    if 100 < x0 then
      some 0
    else
      if x1 < 1 then
        some 0
      else
        if 20 < x1 then
          some 0
        else
          some 1
def f_Co_isSeeds (x0 : Int32) (x1 : Int32) : Option (Int32) := f_Co_isSeeds_b0  x0 x1
theorem d_Co_isSeeds_0 : decode bc_Co_isSeeds 0 = .ok (.iload_n 0, 1) := by decide +kernel
theorem d_Co_isSeeds_1 : decode bc_Co_isSeeds 1 = .ok (.ifCond .lt 24, 3) := by decide +kernel
theorem d_Co_isSeeds_4 : decode bc_Co_isSeeds 4 = .ok (.iload_n 0, 1) := by decide +kernel
theorem d_Co_isSeeds_5 : decode bc_Co_isSeeds 5 = .ok (.bipush 100, 2) := by decide +kernel
theorem d_Co_isSeeds_7 : decode bc_Co_isSeeds 7 = .ok (.if_icmp .gt 18, 3) := by decide +kernel
theorem d_Co_isSeeds_10 : decode bc_Co_isSeeds 10 = .ok (.iload_n 1, 1) := by decide +kernel
theorem d_Co_isSeeds_11 : decode bc_Co_isSeeds 11 = .ok (.iconst 1, 1) := by decide +kernel
theorem d_Co_isSeeds_12 : decode bc_Co_isSeeds 12 = .ok (.if_icmp .lt 13, 3) := by decide +kernel
theorem d_Co_isSeeds_15 : decode bc_Co_isSeeds 15 = .ok (.iload_n 1, 1) := by decide +kernel
theorem d_Co_isSeeds_16 : decode bc_Co_isSeeds 16 = .ok (.bipush 20, 2) := by decide +kernel
theorem d_Co_isSeeds_18 : decode bc_Co_isSeeds 18 = .ok (.if_icmp .gt 7, 3) := by decide +kernel
theorem d_Co_isSeeds_21 : decode bc_Co_isSeeds 21 = .ok (.iconst 1, 1) := by decide +kernel
theorem d_Co_isSeeds_22 : decode bc_Co_isSeeds 22 = .ok (.goto 4, 3) := by decide +kernel
theorem d_Co_isSeeds_25 : decode bc_Co_isSeeds 25 = .ok (.iconst 0, 1) := by decide +kernel
theorem d_Co_isSeeds_26 : decode bc_Co_isSeeds 26 = .ok (.ireturn, 1) := by decide +kernel
set_option maxRecDepth 20000 in
theorem w_Co_isSeeds_b0 {X : CX} {V : WV} (hVO : VOk V) {S : Mem} {z : Int32} (hC : Ck X V bc_Co_isSeeds 2 "SecretWells" (some .boolean) 0 0) (x0 : Int32) (x1 : Int32) (h : f_Co_isSeeds_b0  x0 x1 = some z) : G X V 2 (QI X V z S) 0 [some (.int x0), some (.int x1)] [] S := by
  unfold f_Co_isSeeds_b0 at h
  refine g_iload_n (pc := 0) hC (i := 0) (x := x0) rfl rfl d_Co_isSeeds_0 ?_
  refine g_if_lt (pc := 1) hC (tgt := 25) (by decide) d_Co_isSeeds_1 h (fun h => ?_) (fun h => ?_)
  · refine g_iconst (pc := 25) hC kc_0 d_Co_isSeeds_25 ?_
    exact g_iN (pc := 26) hC rfl d_Co_isSeeds_26 h
  · refine g_iload_n (pc := 4) hC (i := 0) (x := x0) rfl rfl d_Co_isSeeds_4 ?_
    refine g_bipush (pc := 5) hC kb_100 d_Co_isSeeds_5 ?_
    refine g_icmp_gt (pc := 7) hC (tgt := 25) (by decide) d_Co_isSeeds_7 h (fun h => ?_) (fun h => ?_)
    · refine g_iconst (pc := 25) hC kc_0 d_Co_isSeeds_25 ?_
      exact g_iN (pc := 26) hC rfl d_Co_isSeeds_26 h
    · refine g_iload_n (pc := 10) hC (i := 1) (x := x1) rfl rfl d_Co_isSeeds_10 ?_
      refine g_iconst (pc := 11) hC kc_1 d_Co_isSeeds_11 ?_
      refine g_icmp_lt (pc := 12) hC (tgt := 25) (by decide) d_Co_isSeeds_12 h (fun h => ?_) (fun h => ?_)
      · refine g_iconst (pc := 25) hC kc_0 d_Co_isSeeds_25 ?_
        exact g_iN (pc := 26) hC rfl d_Co_isSeeds_26 h
      · refine g_iload_n (pc := 15) hC (i := 1) (x := x1) rfl rfl d_Co_isSeeds_15 ?_
        refine g_bipush (pc := 16) hC kb_20 d_Co_isSeeds_16 ?_
        refine g_icmp_gt (pc := 18) hC (tgt := 25) (by decide) d_Co_isSeeds_18 h (fun h => ?_) (fun h => ?_)
        · refine g_iconst (pc := 25) hC kc_0 d_Co_isSeeds_25 ?_
          exact g_iN (pc := 26) hC rfl d_Co_isSeeds_26 h
        · refine g_iconst (pc := 21) hC kc_1 d_Co_isSeeds_21 ?_
          refine g_goto (pc := 22) hC (tgt := 26) (by decide) d_Co_isSeeds_22 ?_
          exact g_iN (pc := 26) hC rfl d_Co_isSeeds_26 h
theorem c_Co_isSeeds {V : WV} {l : Launch} (hVO : VOk V) {x0 : Int32} {x1 : Int32} {S : Mem} {z : Int32} (h : f_Co_isSeeds x0 x1 = some z) : CI V l y_Co_isSeeds bc_Co_isSeeds 2 (some .boolean) 0 0 [.int x0, .int x1] S z S :=
  ct_i rfl hVO (Nat.le_of_ble_eq_true rfl) (fun _ _ hC => w_Co_isSeeds_b0 hVO hC x0 x1 h)
def f_Co_odds_b33 (k33 : Int32 → Int32 → Int32 → Int32 → Int32 → Int32 → Mem → Option (Int32 × Mem)) (x1 : Int32) (x2 : Int32) (x3 : Int32) (x4 : Int32) (x5 : Int32) (x6 : Int32) (S : Mem) : Option (Int32 × Mem) :=
  if x4 ≤ x6 then
    some (x5, S)
  else
    gTx (S.1 0 11) (
    Option.bind (f_Co_lookAhead x3 ((S.1 ((S.1 0 11).toNatClampNeg) 7) + x6) S) (fun q52 =>
    Option.bind (f_St_isKnownTo 5 x1 x2 q52) (fun q61 =>
    if q61 = 0 then
      k33 x1 x2 x3 x4 x5 (x6 + 1) q52
    else
      k33 x1 x2 x3 x4 (x5 + 1) (x6 + 1) q52)))
def f_Co_odds_l33 : Nat → Int32 → Int32 → Int32 → Int32 → Int32 → Int32 → Mem → Option (Int32 × Mem)
  | 0 => fun _ _ _ _ _ _ _ => none
  | n + 1 => f_Co_odds_b33  (f_Co_odds_l33  n)
def f_Co_odds_b0 (x1 : Int32) (x2 : Int32) (x3 : Int32) (x4 : Int32) (S : Mem) : Option (Int32 × Mem) :=
  Option.bind (f_Co_isMan x1 S) (fun q2 =>
  if q2 = 0 then
    some ((-1), S)
  else
    Option.bind (f_Co_isSecret x2 S) (fun q10 =>
    if q10 = 0 then
      some ((-1), S)
    else
      Option.bind (f_Co_isSeeds x3 x4) (fun q19 =>
      if q19 = 0 then
        some ((-1), S)
      else
        f_Co_odds_l33 5000 x1 x2 x3 x4 0 0 S)))
def f_Co_odds (x1 : Int32) (x2 : Int32) (x3 : Int32) (x4 : Int32) (S : Mem) : Option (Int32 × Mem) := f_Co_odds_b0  x1 x2 x3 x4 S
theorem d_Co_odds_0 : decode bc_Co_odds 0 = .ok (.aload_n 0, 1) := by decide +kernel
theorem d_Co_odds_1 : decode bc_Co_odds 1 = .ok (.iload_n 1, 1) := by decide +kernel
theorem d_Co_odds_2 : decode bc_Co_odds 2 = .ok (.invokevirtual 169, 3) := by decide +kernel
theorem d_Co_odds_5 : decode bc_Co_odds 5 = .ok (.ifCond .eq 20, 3) := by decide +kernel
theorem d_Co_odds_8 : decode bc_Co_odds 8 = .ok (.aload_n 0, 1) := by decide +kernel
theorem d_Co_odds_9 : decode bc_Co_odds 9 = .ok (.iload_n 2, 1) := by decide +kernel
theorem d_Co_odds_10 : decode bc_Co_odds 10 = .ok (.invokevirtual 187, 3) := by decide +kernel
theorem d_Co_odds_13 : decode bc_Co_odds 13 = .ok (.ifCond .eq 12, 3) := by decide +kernel
theorem d_Co_odds_16 : decode bc_Co_odds 16 = .ok (.iload_n 3, 1) := by decide +kernel
theorem d_Co_odds_17 : decode bc_Co_odds 17 = .ok (.iload 4, 2) := by decide +kernel
theorem d_Co_odds_19 : decode bc_Co_odds 19 = .ok (.invokestatic 327, 3) := by decide +kernel
theorem d_Co_odds_22 : decode bc_Co_odds 22 = .ok (.ifCond .ne 5, 3) := by decide +kernel
theorem d_Co_odds_25 : decode bc_Co_odds 25 = .ok (.iconst (-1), 1) := by decide +kernel
theorem d_Co_odds_26 : decode bc_Co_odds 26 = .ok (.ireturn, 1) := by decide +kernel
theorem d_Co_odds_27 : decode bc_Co_odds 27 = .ok (.iconst 0, 1) := by decide +kernel
theorem d_Co_odds_28 : decode bc_Co_odds 28 = .ok (.istore 5, 2) := by decide +kernel
theorem d_Co_odds_30 : decode bc_Co_odds 30 = .ok (.iconst 0, 1) := by decide +kernel
theorem d_Co_odds_31 : decode bc_Co_odds 31 = .ok (.istore 6, 2) := by decide +kernel
theorem d_Co_odds_33 : decode bc_Co_odds 33 = .ok (.iload 6, 2) := by decide +kernel
theorem d_Co_odds_35 : decode bc_Co_odds 35 = .ok (.iload 4, 2) := by decide +kernel
theorem d_Co_odds_37 : decode bc_Co_odds 37 = .ok (.if_icmp .ge 39, 3) := by decide +kernel
theorem d_Co_odds_40 : decode bc_Co_odds 40 = .ok (.aload_n 0, 1) := by decide +kernel
theorem d_Co_odds_41 : decode bc_Co_odds 41 = .ok (.iload_n 3, 1) := by decide +kernel
theorem d_Co_odds_42 : decode bc_Co_odds 42 = .ok (.aload_n 0, 1) := by decide +kernel
theorem d_Co_odds_43 : decode bc_Co_odds 43 = .ok (.getfield 85, 3) := by decide +kernel
theorem d_Co_odds_46 : decode bc_Co_odds 46 = .ok (.getfield 251, 3) := by decide +kernel
theorem d_Co_odds_49 : decode bc_Co_odds 49 = .ok (.iload 6, 2) := by decide +kernel
theorem d_Co_odds_51 : decode bc_Co_odds 51 = .ok (.iadd, 1) := by decide +kernel
theorem d_Co_odds_52 : decode bc_Co_odds 52 = .ok (.invokevirtual 295, 3) := by decide +kernel
theorem d_Co_odds_55 : decode bc_Co_odds 55 = .ok (.aload_n 0, 1) := by decide +kernel
theorem d_Co_odds_56 : decode bc_Co_odds 56 = .ok (.getfield 39, 3) := by decide +kernel
theorem d_Co_odds_59 : decode bc_Co_odds 59 = .ok (.iload_n 1, 1) := by decide +kernel
theorem d_Co_odds_60 : decode bc_Co_odds 60 = .ok (.iload_n 2, 1) := by decide +kernel
theorem d_Co_odds_61 : decode bc_Co_odds 61 = .ok (.invokevirtual 265, 3) := by decide +kernel
theorem d_Co_odds_64 : decode bc_Co_odds 64 = .ok (.ifCond .eq 6, 3) := by decide +kernel
theorem d_Co_odds_67 : decode bc_Co_odds 67 = .ok (.iinc 5 1, 3) := by decide +kernel
theorem d_Co_odds_70 : decode bc_Co_odds 70 = .ok (.iinc 6 1, 3) := by decide +kernel
theorem d_Co_odds_73 : decode bc_Co_odds 73 = .ok (.goto (-40), 3) := by decide +kernel
theorem d_Co_odds_76 : decode bc_Co_odds 76 = .ok (.iload 5, 2) := by decide +kernel
theorem d_Co_odds_78 : decode bc_Co_odds 78 = .ok (.ireturn, 1) := by decide +kernel
set_option maxRecDepth 20000 in
theorem w_Co_odds_b33 {X : CX} {V : WV} (hV : IsC V) {z : Int32 × Mem} (hC : Ck X V bc_Co_odds 7 "SecretWells" (some .int) 6 152) (k33 : Int32 → Int32 → Int32 → Int32 → Int32 → Int32 → Mem → Option (Int32 × Mem)) (hk33 : ∀ (x1 : Int32) (x2 : Int32) (x3 : Int32) (x4 : Int32) (x5 : Int32) (x6 : Int32) (S : Mem), k33 x1 x2 x3 x4 x5 x6 S = some z → G X V 7 (QI X V z.1 z.2) 33 [some (.ref (V.2.2.1 0 0)), some (.int x1), some (.int x2), some (.int x3), some (.int x4), some (.int x5), some (.int x6)] [] S) (x1 : Int32) (x2 : Int32) (x3 : Int32) (x4 : Int32) (x5 : Int32) (x6 : Int32) (S : Mem) (h : f_Co_odds_b33  k33 x1 x2 x3 x4 x5 x6 S = some z) : G X V 7 (QI X V z.1 z.2) 33 [some (.ref (V.2.2.1 0 0)), some (.int x1), some (.int x2), some (.int x3), some (.int x4), some (.int x5), some (.int x6)] [] S := by
  unfold f_Co_odds_b33 at h
  refine g_iload (pc := 33) hC (i := 6) (x := x6) rfl d_Co_odds_33 ?_
  refine g_iload (pc := 35) hC (i := 4) (x := x4) rfl d_Co_odds_35 ?_
  refine g_icmp_ge (pc := 37) hC (tgt := 76) (by decide) d_Co_odds_37 h (fun h => ?_) (fun h => ?_)
  · refine g_iload (pc := 76) hC (i := 5) (x := x5) rfl d_Co_odds_76 ?_
    exact g_iW (pc := 78) hC rfl d_Co_odds_78 h
  · refine g_aload_n (pc := 40) hC (i := 0) (x := (V.2.2.1 0 0)) rfl rfl d_Co_odds_40 ?_
    refine g_iload_n (pc := 41) hC (i := 3) (x := x3) rfl rfl d_Co_odds_41 ?_
    refine g_aload_n (pc := 42) hC (i := 0) (x := (V.2.2.1 0 0)) rfl rfl d_Co_odds_42 ?_
    refine g_getM (pc := 43) hC fo_Co_85 (ob_Co hV) rfl d_Co_odds_43 ?_
    obtain ⟨ht43, h⟩ := gTx_some h
    refine g_getI (pc := 46) hC fo_Co_251 (ob_Tx hV ht43) rfl d_Co_odds_46 ?_
    refine g_iload (pc := 49) hC (i := 6) (x := x6) rfl d_Co_odds_49 ?_
    refine g_iadd (pc := 51) hC d_Co_odds_51 ?_
    obtain ⟨q52, hq52, h⟩ := Option.bind_eq_some_iff.mp h
    refine g_vv (pc := 52) hC (As := [.int x3, .int ((S.1 ((S.1 0 11).toNatClampNeg) 7) + x6)]) (st := []) mt_Co_lookAhead lk_Co_295 rfl (ob_Co hV) (Nat.le_of_ble_eq_true rfl) ⟨Nat.le_of_ble_eq_true rfl, Nat.le_of_ble_eq_true rfl⟩ rfl d_Co_odds_52 (c_Co_lookAhead hV hq52) ?_
    refine g_aload_n (pc := 55) hC (i := 0) (x := (V.2.2.1 0 0)) rfl rfl d_Co_odds_55 ?_
    refine g_getC (pc := 56) hC (j := 5) fo_Co_39 (ob_Co hV) rfl d_Co_odds_56 ?_
    refine g_iload_n (pc := 59) hC (i := 1) (x := x1) rfl rfl d_Co_odds_59 ?_
    refine g_iload_n (pc := 60) hC (i := 2) (x := x2) rfl rfl d_Co_odds_60 ?_
    obtain ⟨q61, hq61, h⟩ := Option.bind_eq_some_iff.mp h
    refine g_vi (pc := 61) hC (As := [.int x1, .int x2]) (st := []) mt_St_isKnownTo lk_Co_265 rfl (ob_St hV is_5) (Nat.le_of_ble_eq_true rfl) ⟨Nat.le_of_ble_eq_true rfl, Nat.le_of_ble_eq_true rfl⟩ rfl d_Co_odds_61 (c_St_isKnownTo hV is_5 hq61) ?_
    refine g_if_eq (pc := 64) hC (tgt := 70) (by decide) d_Co_odds_64 h (fun h => ?_) (fun h => ?_)
    · refine s_iinc (pc := 70) hC (i := 6) (x := x6) (v := x6 + 1) rfl (by rw [kc_1]) (by decide) d_Co_odds_70 (lv2 := [some (.ref (V.2.2.1 0 0)), some (.int x1), some (.int x2), some (.int x3), some (.int x4), some (.int x5), some (.int (x6 + 1))]) rfl ?_
      refine g_goto (pc := 73) hC (tgt := 33) (by decide) d_Co_odds_73 ?_
      exact hk33 x1 x2 x3 x4 x5 (x6 + 1) q52 h
    · refine s_iinc (pc := 67) hC (i := 5) (x := x5) (v := x5 + 1) rfl (by rw [kc_1]) (by decide) d_Co_odds_67 (lv2 := [some (.ref (V.2.2.1 0 0)), some (.int x1), some (.int x2), some (.int x3), some (.int x4), some (.int (x5 + 1)), some (.int x6)]) rfl ?_
      refine s_iinc (pc := 70) hC (i := 6) (x := x6) (v := x6 + 1) rfl (by rw [kc_1]) (by decide) d_Co_odds_70 (lv2 := [some (.ref (V.2.2.1 0 0)), some (.int x1), some (.int x2), some (.int x3), some (.int x4), some (.int (x5 + 1)), some (.int (x6 + 1))]) rfl ?_
      refine g_goto (pc := 73) hC (tgt := 33) (by decide) d_Co_odds_73 ?_
      exact hk33 x1 x2 x3 x4 (x5 + 1) (x6 + 1) q52 h
theorem w_Co_odds_l33 {X : CX} {V : WV} (hV : IsC V) {z : Int32 × Mem} (hC : Ck X V bc_Co_odds 7 "SecretWells" (some .int) 6 152) : ∀ (n : Nat) (x1 : Int32) (x2 : Int32) (x3 : Int32) (x4 : Int32) (x5 : Int32) (x6 : Int32) (S : Mem), f_Co_odds_l33  n x1 x2 x3 x4 x5 x6 S = some z → G X V 7 (QI X V z.1 z.2) 33 [some (.ref (V.2.2.1 0 0)), some (.int x1), some (.int x2), some (.int x3), some (.int x4), some (.int x5), some (.int x6)] [] S := by
  intro n
  induction n with
  | zero =>
    intro x1 x2 x3 x4 x5 x6 S h
    have h : (none : Option (Int32 × Mem)) = some z := h
    cases h
  | succ n ih =>
    intro x1 x2 x3 x4 x5 x6 S h
    exact w_Co_odds_b33 hV hC (f_Co_odds_l33  n) ih x1 x2 x3 x4 x5 x6 S h
set_option maxRecDepth 20000 in
theorem w_Co_odds_b0 {X : CX} {V : WV} (hV : IsC V) {z : Int32 × Mem} (hC : Ck X V bc_Co_odds 7 "SecretWells" (some .int) 6 152) (x1 : Int32) (x2 : Int32) (x3 : Int32) (x4 : Int32) (S : Mem) (h : f_Co_odds_b0  x1 x2 x3 x4 S = some z) : G X V 7 (QI X V z.1 z.2) 0 [some (.ref (V.2.2.1 0 0)), some (.int x1), some (.int x2), some (.int x3), some (.int x4), none, none] [] S := by
  unfold f_Co_odds_b0 at h
  refine g_aload_n (pc := 0) hC (i := 0) (x := (V.2.2.1 0 0)) rfl rfl d_Co_odds_0 ?_
  refine g_iload_n (pc := 1) hC (i := 1) (x := x1) rfl rfl d_Co_odds_1 ?_
  obtain ⟨q2, hq2, h⟩ := Option.bind_eq_some_iff.mp h
  refine g_vi (pc := 2) hC (As := [.int x1]) (st := []) mt_Co_isMan lk_Co_169 rfl (ob_Co hV) (Nat.le_of_ble_eq_true rfl) ⟨Nat.le_of_ble_eq_true rfl, Nat.le_of_ble_eq_true rfl⟩ rfl d_Co_odds_2 (c_Co_isMan hV hq2) ?_
  refine g_if_eq (pc := 5) hC (tgt := 25) (by decide) d_Co_odds_5 h (fun h => ?_) (fun h => ?_)
  · refine g_iconst (pc := 25) hC kc_m1 d_Co_odds_25 ?_
    exact g_iW (pc := 26) hC rfl d_Co_odds_26 h
  · refine g_aload_n (pc := 8) hC (i := 0) (x := (V.2.2.1 0 0)) rfl rfl d_Co_odds_8 ?_
    refine g_iload_n (pc := 9) hC (i := 2) (x := x2) rfl rfl d_Co_odds_9 ?_
    obtain ⟨q10, hq10, h⟩ := Option.bind_eq_some_iff.mp h
    refine g_vi (pc := 10) hC (As := [.int x2]) (st := []) mt_Co_isSecret lk_Co_187 rfl (ob_Co hV) (Nat.le_of_ble_eq_true rfl) ⟨Nat.le_of_ble_eq_true rfl, Nat.le_of_ble_eq_true rfl⟩ rfl d_Co_odds_10 (c_Co_isSecret hV hq10) ?_
    refine g_if_eq (pc := 13) hC (tgt := 25) (by decide) d_Co_odds_13 h (fun h => ?_) (fun h => ?_)
    · refine g_iconst (pc := 25) hC kc_m1 d_Co_odds_25 ?_
      exact g_iW (pc := 26) hC rfl d_Co_odds_26 h
    · refine g_iload_n (pc := 16) hC (i := 3) (x := x3) rfl rfl d_Co_odds_16 ?_
      refine g_iload (pc := 17) hC (i := 4) (x := x4) rfl d_Co_odds_17 ?_
      obtain ⟨q19, hq19, h⟩ := Option.bind_eq_some_iff.mp h
      refine g_si (pc := 19) hC (As := [.int x3, .int x4]) (st := []) mt_Co_isSeeds lk_Co_327 (Nat.le_of_ble_eq_true rfl) ⟨Nat.le_of_ble_eq_true rfl, Nat.le_of_ble_eq_true rfl⟩ rfl d_Co_odds_19 (c_Co_isSeeds (IsC.ok hV) hq19) ?_
      refine g_if_ne (pc := 22) hC (tgt := 27) (by decide) d_Co_odds_22 h (fun h => ?_) (fun h => ?_)
      · refine g_iconst (pc := 27) hC kc_0 d_Co_odds_27 ?_
        refine s_istore (pc := 28) hC (i := 5) (by decide) d_Co_odds_28 (lv2 := [some (.ref (V.2.2.1 0 0)), some (.int x1), some (.int x2), some (.int x3), some (.int x4), some (.int 0), none]) rfl ?_
        refine g_iconst (pc := 30) hC kc_0 d_Co_odds_30 ?_
        refine s_istore (pc := 31) hC (i := 6) (by decide) d_Co_odds_31 (lv2 := [some (.ref (V.2.2.1 0 0)), some (.int x1), some (.int x2), some (.int x3), some (.int x4), some (.int 0), some (.int 0)]) rfl ?_
        exact w_Co_odds_l33 hV hC 5000 x1 x2 x3 x4 0 0 S h
      · refine g_iconst (pc := 25) hC kc_m1 d_Co_odds_25 ?_
        exact g_iW (pc := 26) hC rfl d_Co_odds_26 h
theorem c_Co_odds {V : WV} {l : Launch} (hV : IsC V) {x1 : Int32} {x2 : Int32} {x3 : Int32} {x4 : Int32} {S : Mem} {z : Int32 × Mem} (h : f_Co_odds x1 x2 x3 x4 S = some z) : CI V l y_Co_odds bc_Co_odds 7 (some .int) 6 152 [.ref (V.2.2.1 0 0), .int x1, .int x2, .int x3, .int x4] S z.1 z.2 :=
  ct_i rfl (IsC.ok hV) (Nat.le_of_ble_eq_true rfl) (fun _ _ hC => w_Co_odds_b0 hV hC x1 x2 x3 x4 S h)
def f_Co_deaths_b15 (k15 : Int32 → Int32 → Int32 → Int32 → Mem → Option (Int32 × Mem)) (x1 : Int32) (x2 : Int32) (x3 : Int32) (x4 : Int32) (S : Mem) : Option (Int32 × Mem) :=
  if x2 ≤ x4 then
    some (x3, S)
  else
    gTx (S.1 0 11) (
    Option.bind (f_Co_lookAhead x1 ((S.1 ((S.1 0 11).toNatClampNeg) 7) + x4) S) (fun q33 =>
    gTx (q33.1 0 11) (
    Option.bind (f_JInt_bitCount (q33.1 5 1)) (fun q51 =>
    letS (x3 + ((q33.1 ((q33.1 0 11).toNatClampNeg) 1) - q51)) (fun y56 =>
    k15 x1 x2 y56 (x4 + 1) q33)))))
def f_Co_deaths_l15 : Nat → Int32 → Int32 → Int32 → Int32 → Mem → Option (Int32 × Mem)
  | 0 => fun _ _ _ _ _ => none
  | n + 1 => f_Co_deaths_b15  (f_Co_deaths_l15  n)
def f_Co_deaths_b0 (x1 : Int32) (x2 : Int32) (S : Mem) : Option (Int32 × Mem) :=
  Option.bind (f_Co_isSeeds x1 x2) (fun q2 =>
  if q2 = 0 then
    some ((-1), S)
  else
    f_Co_deaths_l15 5000 x1 x2 0 0 S)
def f_Co_deaths (x1 : Int32) (x2 : Int32) (S : Mem) : Option (Int32 × Mem) := f_Co_deaths_b0  x1 x2 S
theorem d_Co_deaths_0 : decode bc_Co_deaths 0 = .ok (.iload_n 1, 1) := by decide +kernel
theorem d_Co_deaths_1 : decode bc_Co_deaths 1 = .ok (.iload_n 2, 1) := by decide +kernel
theorem d_Co_deaths_2 : decode bc_Co_deaths 2 = .ok (.invokestatic 327, 3) := by decide +kernel
theorem d_Co_deaths_5 : decode bc_Co_deaths 5 = .ok (.ifCond .ne 5, 3) := by decide +kernel
theorem d_Co_deaths_8 : decode bc_Co_deaths 8 = .ok (.iconst (-1), 1) := by decide +kernel
theorem d_Co_deaths_9 : decode bc_Co_deaths 9 = .ok (.ireturn, 1) := by decide +kernel
theorem d_Co_deaths_10 : decode bc_Co_deaths 10 = .ok (.iconst 0, 1) := by decide +kernel
theorem d_Co_deaths_11 : decode bc_Co_deaths 11 = .ok (.istore_n 3, 1) := by decide +kernel
theorem d_Co_deaths_12 : decode bc_Co_deaths 12 = .ok (.iconst 0, 1) := by decide +kernel
theorem d_Co_deaths_13 : decode bc_Co_deaths 13 = .ok (.istore 4, 2) := by decide +kernel
theorem d_Co_deaths_15 : decode bc_Co_deaths 15 = .ok (.iload 4, 2) := by decide +kernel
theorem d_Co_deaths_17 : decode bc_Co_deaths 17 = .ok (.iload_n 2, 1) := by decide +kernel
theorem d_Co_deaths_18 : decode bc_Co_deaths 18 = .ok (.if_icmp .ge 45, 3) := by decide +kernel
theorem d_Co_deaths_21 : decode bc_Co_deaths 21 = .ok (.aload_n 0, 1) := by decide +kernel
theorem d_Co_deaths_22 : decode bc_Co_deaths 22 = .ok (.iload_n 1, 1) := by decide +kernel
theorem d_Co_deaths_23 : decode bc_Co_deaths 23 = .ok (.aload_n 0, 1) := by decide +kernel
theorem d_Co_deaths_24 : decode bc_Co_deaths 24 = .ok (.getfield 85, 3) := by decide +kernel
theorem d_Co_deaths_27 : decode bc_Co_deaths 27 = .ok (.getfield 251, 3) := by decide +kernel
theorem d_Co_deaths_30 : decode bc_Co_deaths 30 = .ok (.iload 4, 2) := by decide +kernel
theorem d_Co_deaths_32 : decode bc_Co_deaths 32 = .ok (.iadd, 1) := by decide +kernel
theorem d_Co_deaths_33 : decode bc_Co_deaths 33 = .ok (.invokevirtual 295, 3) := by decide +kernel
theorem d_Co_deaths_36 : decode bc_Co_deaths 36 = .ok (.iload_n 3, 1) := by decide +kernel
theorem d_Co_deaths_37 : decode bc_Co_deaths 37 = .ok (.aload_n 0, 1) := by decide +kernel
theorem d_Co_deaths_38 : decode bc_Co_deaths 38 = .ok (.getfield 85, 3) := by decide +kernel
theorem d_Co_deaths_41 : decode bc_Co_deaths 41 = .ok (.getfield 224, 3) := by decide +kernel
theorem d_Co_deaths_44 : decode bc_Co_deaths 44 = .ok (.aload_n 0, 1) := by decide +kernel
theorem d_Co_deaths_45 : decode bc_Co_deaths 45 = .ok (.getfield 39, 3) := by decide +kernel
theorem d_Co_deaths_48 : decode bc_Co_deaths 48 = .ok (.getfield 193, 3) := by decide +kernel
theorem d_Co_deaths_51 : decode bc_Co_deaths 51 = .ok (.invokestatic 196, 3) := by decide +kernel
theorem d_Co_deaths_54 : decode bc_Co_deaths 54 = .ok (.isub, 1) := by decide +kernel
theorem d_Co_deaths_55 : decode bc_Co_deaths 55 = .ok (.iadd, 1) := by decide +kernel
theorem d_Co_deaths_56 : decode bc_Co_deaths 56 = .ok (.istore_n 3, 1) := by decide +kernel
theorem d_Co_deaths_57 : decode bc_Co_deaths 57 = .ok (.iinc 4 1, 3) := by decide +kernel
theorem d_Co_deaths_60 : decode bc_Co_deaths 60 = .ok (.goto (-45), 3) := by decide +kernel
theorem d_Co_deaths_63 : decode bc_Co_deaths 63 = .ok (.iload_n 3, 1) := by decide +kernel
theorem d_Co_deaths_64 : decode bc_Co_deaths 64 = .ok (.ireturn, 1) := by decide +kernel
set_option maxRecDepth 20000 in
theorem w_Co_deaths_b15 {X : CX} {V : WV} (hV : IsC V) {z : Int32 × Mem} (hC : Ck X V bc_Co_deaths 5 "SecretWells" (some .int) 6 152) (k15 : Int32 → Int32 → Int32 → Int32 → Mem → Option (Int32 × Mem)) (hk15 : ∀ (x1 : Int32) (x2 : Int32) (x3 : Int32) (x4 : Int32) (S : Mem), k15 x1 x2 x3 x4 S = some z → G X V 5 (QI X V z.1 z.2) 15 [some (.ref (V.2.2.1 0 0)), some (.int x1), some (.int x2), some (.int x3), some (.int x4)] [] S) (x1 : Int32) (x2 : Int32) (x3 : Int32) (x4 : Int32) (S : Mem) (h : f_Co_deaths_b15  k15 x1 x2 x3 x4 S = some z) : G X V 5 (QI X V z.1 z.2) 15 [some (.ref (V.2.2.1 0 0)), some (.int x1), some (.int x2), some (.int x3), some (.int x4)] [] S := by
  unfold f_Co_deaths_b15 at h
  refine g_iload (pc := 15) hC (i := 4) (x := x4) rfl d_Co_deaths_15 ?_
  refine g_iload_n (pc := 17) hC (i := 2) (x := x2) rfl rfl d_Co_deaths_17 ?_
  refine g_icmp_ge (pc := 18) hC (tgt := 63) (by decide) d_Co_deaths_18 h (fun h => ?_) (fun h => ?_)
  · refine g_iload_n (pc := 63) hC (i := 3) (x := x3) rfl rfl d_Co_deaths_63 ?_
    exact g_iW (pc := 64) hC rfl d_Co_deaths_64 h
  · refine g_aload_n (pc := 21) hC (i := 0) (x := (V.2.2.1 0 0)) rfl rfl d_Co_deaths_21 ?_
    refine g_iload_n (pc := 22) hC (i := 1) (x := x1) rfl rfl d_Co_deaths_22 ?_
    refine g_aload_n (pc := 23) hC (i := 0) (x := (V.2.2.1 0 0)) rfl rfl d_Co_deaths_23 ?_
    refine g_getM (pc := 24) hC fo_Co_85 (ob_Co hV) rfl d_Co_deaths_24 ?_
    obtain ⟨ht24, h⟩ := gTx_some h
    refine g_getI (pc := 27) hC fo_Co_251 (ob_Tx hV ht24) rfl d_Co_deaths_27 ?_
    refine g_iload (pc := 30) hC (i := 4) (x := x4) rfl d_Co_deaths_30 ?_
    refine g_iadd (pc := 32) hC d_Co_deaths_32 ?_
    obtain ⟨q33, hq33, h⟩ := Option.bind_eq_some_iff.mp h
    refine g_vv (pc := 33) hC (As := [.int x1, .int ((S.1 ((S.1 0 11).toNatClampNeg) 7) + x4)]) (st := []) mt_Co_lookAhead lk_Co_295 rfl (ob_Co hV) (Nat.le_of_ble_eq_true rfl) ⟨Nat.le_of_ble_eq_true rfl, Nat.le_of_ble_eq_true rfl⟩ rfl d_Co_deaths_33 (c_Co_lookAhead hV hq33) ?_
    refine g_iload_n (pc := 36) hC (i := 3) (x := x3) rfl rfl d_Co_deaths_36 ?_
    refine g_aload_n (pc := 37) hC (i := 0) (x := (V.2.2.1 0 0)) rfl rfl d_Co_deaths_37 ?_
    refine g_getM (pc := 38) hC fo_Co_85 (ob_Co hV) rfl d_Co_deaths_38 ?_
    obtain ⟨ht38, h⟩ := gTx_some h
    refine g_getI (pc := 41) hC fo_Co_224 (ob_Tx hV ht38) rfl d_Co_deaths_41 ?_
    refine g_aload_n (pc := 44) hC (i := 0) (x := (V.2.2.1 0 0)) rfl rfl d_Co_deaths_44 ?_
    refine g_getC (pc := 45) hC (j := 5) fo_Co_39 (ob_Co hV) rfl d_Co_deaths_45 ?_
    refine g_getI (pc := 48) hC fo_Co_193 (ob_St hV is_5) rfl d_Co_deaths_48 ?_
    obtain ⟨q51, hq51, h⟩ := Option.bind_eq_some_iff.mp h
    refine g_si (pc := 51) hC (As := [.int (q33.1 5 1)]) (st := [.int (q33.1 ((q33.1 0 11).toNatClampNeg) 1), .int x3]) mt_JInt_bitCount lk_Co_196 (Nat.le_of_ble_eq_true rfl) ⟨Nat.le_of_ble_eq_true rfl, Nat.le_of_ble_eq_true rfl⟩ rfl d_Co_deaths_51 (c_JInt_bitCount (IsC.ok hV) hq51) ?_
    refine g_isub (pc := 54) hC d_Co_deaths_54 ?_
    refine g_iadd (pc := 55) hC d_Co_deaths_55 ?_
    refine g_leti h (fun y56 h => ?_)
    refine s_istore_n (pc := 56) hC (i := 3) rfl (by decide) d_Co_deaths_56 (lv2 := [some (.ref (V.2.2.1 0 0)), some (.int x1), some (.int x2), some (.int y56), some (.int x4)]) rfl ?_
    refine s_iinc (pc := 57) hC (i := 4) (x := x4) (v := x4 + 1) rfl (by rw [kc_1]) (by decide) d_Co_deaths_57 (lv2 := [some (.ref (V.2.2.1 0 0)), some (.int x1), some (.int x2), some (.int y56), some (.int (x4 + 1))]) rfl ?_
    refine g_goto (pc := 60) hC (tgt := 15) (by decide) d_Co_deaths_60 ?_
    exact hk15 x1 x2 y56 (x4 + 1) q33 h
theorem w_Co_deaths_l15 {X : CX} {V : WV} (hV : IsC V) {z : Int32 × Mem} (hC : Ck X V bc_Co_deaths 5 "SecretWells" (some .int) 6 152) : ∀ (n : Nat) (x1 : Int32) (x2 : Int32) (x3 : Int32) (x4 : Int32) (S : Mem), f_Co_deaths_l15  n x1 x2 x3 x4 S = some z → G X V 5 (QI X V z.1 z.2) 15 [some (.ref (V.2.2.1 0 0)), some (.int x1), some (.int x2), some (.int x3), some (.int x4)] [] S := by
  intro n
  induction n with
  | zero =>
    intro x1 x2 x3 x4 S h
    have h : (none : Option (Int32 × Mem)) = some z := h
    cases h
  | succ n ih =>
    intro x1 x2 x3 x4 S h
    exact w_Co_deaths_b15 hV hC (f_Co_deaths_l15  n) ih x1 x2 x3 x4 S h
set_option maxRecDepth 20000 in
theorem w_Co_deaths_b0 {X : CX} {V : WV} (hV : IsC V) {z : Int32 × Mem} (hC : Ck X V bc_Co_deaths 5 "SecretWells" (some .int) 6 152) (x1 : Int32) (x2 : Int32) (S : Mem) (h : f_Co_deaths_b0  x1 x2 S = some z) : G X V 5 (QI X V z.1 z.2) 0 [some (.ref (V.2.2.1 0 0)), some (.int x1), some (.int x2), none, none] [] S := by
  unfold f_Co_deaths_b0 at h
  refine g_iload_n (pc := 0) hC (i := 1) (x := x1) rfl rfl d_Co_deaths_0 ?_
  refine g_iload_n (pc := 1) hC (i := 2) (x := x2) rfl rfl d_Co_deaths_1 ?_
  obtain ⟨q2, hq2, h⟩ := Option.bind_eq_some_iff.mp h
  refine g_si (pc := 2) hC (As := [.int x1, .int x2]) (st := []) mt_Co_isSeeds lk_Co_327 (Nat.le_of_ble_eq_true rfl) ⟨Nat.le_of_ble_eq_true rfl, Nat.le_of_ble_eq_true rfl⟩ rfl d_Co_deaths_2 (c_Co_isSeeds (IsC.ok hV) hq2) ?_
  refine g_if_ne (pc := 5) hC (tgt := 10) (by decide) d_Co_deaths_5 h (fun h => ?_) (fun h => ?_)
  · refine g_iconst (pc := 10) hC kc_0 d_Co_deaths_10 ?_
    refine s_istore_n (pc := 11) hC (i := 3) rfl (by decide) d_Co_deaths_11 (lv2 := [some (.ref (V.2.2.1 0 0)), some (.int x1), some (.int x2), some (.int 0), none]) rfl ?_
    refine g_iconst (pc := 12) hC kc_0 d_Co_deaths_12 ?_
    refine s_istore (pc := 13) hC (i := 4) (by decide) d_Co_deaths_13 (lv2 := [some (.ref (V.2.2.1 0 0)), some (.int x1), some (.int x2), some (.int 0), some (.int 0)]) rfl ?_
    exact w_Co_deaths_l15 hV hC 5000 x1 x2 0 0 S h
  · refine g_iconst (pc := 8) hC kc_m1 d_Co_deaths_8 ?_
    exact g_iW (pc := 9) hC rfl d_Co_deaths_9 h
theorem c_Co_deaths {V : WV} {l : Launch} (hV : IsC V) {x1 : Int32} {x2 : Int32} {S : Mem} {z : Int32 × Mem} (h : f_Co_deaths x1 x2 S = some z) : CI V l y_Co_deaths bc_Co_deaths 5 (some .int) 6 152 [.ref (V.2.2.1 0 0), .int x1, .int x2] S z.1 z.2 :=
  ct_i rfl (IsC.ok hV) (Nat.le_of_ble_eq_true rfl) (fun _ _ hC => w_Co_deaths_b0 hV hC x1 x2 S h)
def f_Co_worth_b38 (S : Mem) (x1 : Int32) (s0 : Int32) : Option (Int32) :=
  gIn x1 8 (
  if (S.2.1 4 8 x1.toNatClampNeg) = (-2) then
    some 0
  else
    gTx (S.1 0 11) (
    Option.bind (f_Tx_isLie ((S.1 0 11).toNatClampNeg) x1 S) (fun q58 =>
    if q58 = 0 then
      if s0 = 0 then
        some 0
      else
        gTx (S.1 0 11) (
        gIn x1 8 (
        Option.bind (f_JInt_bitCount (S.1 4 1)) (fun q87 =>
        Option.bind (f_St_share (S.2.1 ((S.1 0 11).toNatClampNeg) 13 x1.toNatClampNeg) 1 q87) (fun q90 =>
        gIn x1 8 (
        some (q90 - (S.2.1 4 12 x1.toNatClampNeg)))))))
    else
      some 0)))
def f_Co_worth_b0 (S : Mem) (x1 : Int32) : Option (Int32) :=
  Option.bind (f_Co_isSecret x1 S) (fun q2 =>
  if q2 = 0 then
    some (-1)
  else
    gTx (S.1 0 11) (
    Option.bind (f_St_knowers 4 ((S.1 0 11).toNatClampNeg) x1 S) (fun q19 =>
    if (q19 &&& (S.1 4 1)) = 0 then
      f_Co_worth_b38 S x1 0
    else
      f_Co_worth_b38 S x1 1)))
def f_Co_worth (x1 : Int32) (S : Mem) : Option (Int32) := f_Co_worth_b0 S x1
theorem d_Co_worth_0 : decode bc_Co_worth 0 = .ok (.aload_n 0, 1) := by decide +kernel
theorem d_Co_worth_1 : decode bc_Co_worth 1 = .ok (.iload_n 1, 1) := by decide +kernel
theorem d_Co_worth_2 : decode bc_Co_worth 2 = .ok (.invokevirtual 187, 3) := by decide +kernel
theorem d_Co_worth_5 : decode bc_Co_worth 5 = .ok (.ifCond .ne 5, 3) := by decide +kernel
theorem d_Co_worth_8 : decode bc_Co_worth 8 = .ok (.iconst (-1), 1) := by decide +kernel
theorem d_Co_worth_9 : decode bc_Co_worth 9 = .ok (.ireturn, 1) := by decide +kernel
theorem d_Co_worth_10 : decode bc_Co_worth 10 = .ok (.aload_n 0, 1) := by decide +kernel
theorem d_Co_worth_11 : decode bc_Co_worth 11 = .ok (.getfield 35, 3) := by decide +kernel
theorem d_Co_worth_14 : decode bc_Co_worth 14 = .ok (.aload_n 0, 1) := by decide +kernel
theorem d_Co_worth_15 : decode bc_Co_worth 15 = .ok (.getfield 85, 3) := by decide +kernel
theorem d_Co_worth_18 : decode bc_Co_worth 18 = .ok (.iload_n 1, 1) := by decide +kernel
theorem d_Co_worth_19 : decode bc_Co_worth 19 = .ok (.invokevirtual 190, 3) := by decide +kernel
theorem d_Co_worth_22 : decode bc_Co_worth 22 = .ok (.aload_n 0, 1) := by decide +kernel
theorem d_Co_worth_23 : decode bc_Co_worth 23 = .ok (.getfield 35, 3) := by decide +kernel
theorem d_Co_worth_26 : decode bc_Co_worth 26 = .ok (.getfield 193, 3) := by decide +kernel
theorem d_Co_worth_29 : decode bc_Co_worth 29 = .ok (.iand, 1) := by decide +kernel
theorem d_Co_worth_30 : decode bc_Co_worth 30 = .ok (.ifCond .eq 7, 3) := by decide +kernel
theorem d_Co_worth_33 : decode bc_Co_worth 33 = .ok (.iconst 1, 1) := by decide +kernel
theorem d_Co_worth_34 : decode bc_Co_worth 34 = .ok (.goto 4, 3) := by decide +kernel
theorem d_Co_worth_37 : decode bc_Co_worth 37 = .ok (.iconst 0, 1) := by decide +kernel
theorem d_Co_worth_38 : decode bc_Co_worth 38 = .ok (.istore_n 2, 1) := by decide +kernel
theorem d_Co_worth_39 : decode bc_Co_worth 39 = .ok (.aload_n 0, 1) := by decide +kernel
theorem d_Co_worth_40 : decode bc_Co_worth 40 = .ok (.getfield 35, 3) := by decide +kernel
theorem d_Co_worth_43 : decode bc_Co_worth 43 = .ok (.getfield 202, 3) := by decide +kernel
theorem d_Co_worth_46 : decode bc_Co_worth 46 = .ok (.iload_n 1, 1) := by decide +kernel
theorem d_Co_worth_47 : decode bc_Co_worth 47 = .ok (.iaload, 1) := by decide +kernel
theorem d_Co_worth_48 : decode bc_Co_worth 48 = .ok (.bipush (-2), 2) := by decide +kernel
theorem d_Co_worth_50 : decode bc_Co_worth 50 = .ok (.if_icmp .eq 18, 3) := by decide +kernel
theorem d_Co_worth_53 : decode bc_Co_worth 53 = .ok (.aload_n 0, 1) := by decide +kernel
theorem d_Co_worth_54 : decode bc_Co_worth 54 = .ok (.getfield 85, 3) := by decide +kernel
theorem d_Co_worth_57 : decode bc_Co_worth 57 = .ok (.iload_n 1, 1) := by decide +kernel
theorem d_Co_worth_58 : decode bc_Co_worth 58 = .ok (.invokevirtual 330, 3) := by decide +kernel
theorem d_Co_worth_61 : decode bc_Co_worth 61 = .ok (.ifCond .ne 7, 3) := by decide +kernel
theorem d_Co_worth_64 : decode bc_Co_worth 64 = .ok (.iload_n 2, 1) := by decide +kernel
theorem d_Co_worth_65 : decode bc_Co_worth 65 = .ok (.ifCond .ne 5, 3) := by decide +kernel
theorem d_Co_worth_68 : decode bc_Co_worth 68 = .ok (.iconst 0, 1) := by decide +kernel
theorem d_Co_worth_69 : decode bc_Co_worth 69 = .ok (.ireturn, 1) := by decide +kernel
theorem d_Co_worth_70 : decode bc_Co_worth 70 = .ok (.aload_n 0, 1) := by decide +kernel
theorem d_Co_worth_71 : decode bc_Co_worth 71 = .ok (.getfield 85, 3) := by decide +kernel
theorem d_Co_worth_74 : decode bc_Co_worth 74 = .ok (.getfield 333, 3) := by decide +kernel
theorem d_Co_worth_77 : decode bc_Co_worth 77 = .ok (.iload_n 1, 1) := by decide +kernel
theorem d_Co_worth_78 : decode bc_Co_worth 78 = .ok (.iaload, 1) := by decide +kernel
theorem d_Co_worth_79 : decode bc_Co_worth 79 = .ok (.iconst 1, 1) := by decide +kernel
theorem d_Co_worth_80 : decode bc_Co_worth 80 = .ok (.aload_n 0, 1) := by decide +kernel
theorem d_Co_worth_81 : decode bc_Co_worth 81 = .ok (.getfield 35, 3) := by decide +kernel
theorem d_Co_worth_84 : decode bc_Co_worth 84 = .ok (.getfield 193, 3) := by decide +kernel
theorem d_Co_worth_87 : decode bc_Co_worth 87 = .ok (.invokestatic 196, 3) := by decide +kernel
theorem d_Co_worth_90 : decode bc_Co_worth 90 = .ok (.invokestatic 336, 3) := by decide +kernel
theorem d_Co_worth_93 : decode bc_Co_worth 93 = .ok (.istore_n 3, 1) := by decide +kernel
theorem d_Co_worth_94 : decode bc_Co_worth 94 = .ok (.iload_n 3, 1) := by decide +kernel
theorem d_Co_worth_95 : decode bc_Co_worth 95 = .ok (.aload_n 0, 1) := by decide +kernel
theorem d_Co_worth_96 : decode bc_Co_worth 96 = .ok (.getfield 35, 3) := by decide +kernel
theorem d_Co_worth_99 : decode bc_Co_worth 99 = .ok (.getfield 205, 3) := by decide +kernel
theorem d_Co_worth_102 : decode bc_Co_worth 102 = .ok (.iload_n 1, 1) := by decide +kernel
theorem d_Co_worth_103 : decode bc_Co_worth 103 = .ok (.iaload, 1) := by decide +kernel
theorem d_Co_worth_104 : decode bc_Co_worth 104 = .ok (.isub, 1) := by decide +kernel
theorem d_Co_worth_105 : decode bc_Co_worth 105 = .ok (.ireturn, 1) := by decide +kernel
set_option maxRecDepth 20000 in
theorem w_Co_worth_b38 {X : CX} {V : WV} (hV : IsC V) {S : Mem} {z : Int32} (hC : Ck X V bc_Co_worth 4 "SecretWells" (some .int) 1 24) (x1 : Int32) (s0 : Int32) (h : f_Co_worth_b38 S x1 s0 = some z) : G X V 4 (QI X V z S) 38 [some (.ref (V.2.2.1 0 0)), some (.int x1), none, none] [.int s0] S := by
  unfold f_Co_worth_b38 at h
  refine s_istore_n (pc := 38) hC (i := 2) rfl (by decide) d_Co_worth_38 (lv2 := [some (.ref (V.2.2.1 0 0)), some (.int x1), some (.int s0), none]) rfl ?_
  refine g_aload_n (pc := 39) hC (i := 0) (x := (V.2.2.1 0 0)) rfl rfl d_Co_worth_39 ?_
  refine g_getC (pc := 40) hC (j := 4) fo_Co_35 (ob_Co hV) rfl d_Co_worth_40 ?_
  refine g_getA (pc := 43) hC fo_Co_202 (ob_St hV is_4) rfl d_Co_worth_43 ?_
  refine g_iload_n (pc := 46) hC (i := 1) (x := x1) rfl rfl d_Co_worth_46 ?_
  refine g_iald (pc := 47) hC (ar_St_8 hV is_4) d_Co_worth_47 h (fun h => ?_)
  refine g_bipush (pc := 48) hC kb_m2 d_Co_worth_48 ?_
  refine g_icmp_eq (pc := 50) hC (tgt := 68) (by decide) d_Co_worth_50 h (fun h => ?_) (fun h => ?_)
  · refine g_iconst (pc := 68) hC kc_0 d_Co_worth_68 ?_
    exact g_iN (pc := 69) hC rfl d_Co_worth_69 h
  · refine g_aload_n (pc := 53) hC (i := 0) (x := (V.2.2.1 0 0)) rfl rfl d_Co_worth_53 ?_
    refine g_getM (pc := 54) hC fo_Co_85 (ob_Co hV) rfl d_Co_worth_54 ?_
    obtain ⟨ht54, h⟩ := gTx_some h
    refine g_iload_n (pc := 57) hC (i := 1) (x := x1) rfl rfl d_Co_worth_57 ?_
    obtain ⟨q58, hq58, h⟩ := Option.bind_eq_some_iff.mp h
    refine g_vi (pc := 58) hC (As := [.int x1]) (st := []) mt_Tx_isLie lk_Co_330 rfl (ob_Tx hV ht54) (Nat.le_of_ble_eq_true rfl) ⟨Nat.le_of_ble_eq_true rfl, Nat.le_of_ble_eq_true rfl⟩ rfl d_Co_worth_58 (c_Tx_isLie hV ht54 hq58) ?_
    refine g_if_ne (pc := 61) hC (tgt := 68) (by decide) d_Co_worth_61 h (fun h => ?_) (fun h => ?_)
    · refine g_iconst (pc := 68) hC kc_0 d_Co_worth_68 ?_
      exact g_iN (pc := 69) hC rfl d_Co_worth_69 h
    · refine g_iload_n (pc := 64) hC (i := 2) (x := s0) rfl rfl d_Co_worth_64 ?_
      refine g_if_ne (pc := 65) hC (tgt := 70) (by decide) d_Co_worth_65 h (fun h => ?_) (fun h => ?_)
      · refine g_aload_n (pc := 70) hC (i := 0) (x := (V.2.2.1 0 0)) rfl rfl d_Co_worth_70 ?_
        refine g_getM (pc := 71) hC fo_Co_85 (ob_Co hV) rfl d_Co_worth_71 ?_
        obtain ⟨ht71, h⟩ := gTx_some h
        refine g_getA (pc := 74) hC fo_Co_333 (ob_Tx hV ht71) rfl d_Co_worth_74 ?_
        refine g_iload_n (pc := 77) hC (i := 1) (x := x1) rfl rfl d_Co_worth_77 ?_
        refine g_iald (pc := 78) hC (ar_Tx_13 hV ht71) d_Co_worth_78 h (fun h => ?_)
        refine g_iconst (pc := 79) hC kc_1 d_Co_worth_79 ?_
        refine g_aload_n (pc := 80) hC (i := 0) (x := (V.2.2.1 0 0)) rfl rfl d_Co_worth_80 ?_
        refine g_getC (pc := 81) hC (j := 4) fo_Co_35 (ob_Co hV) rfl d_Co_worth_81 ?_
        refine g_getI (pc := 84) hC fo_Co_193 (ob_St hV is_4) rfl d_Co_worth_84 ?_
        obtain ⟨q87, hq87, h⟩ := Option.bind_eq_some_iff.mp h
        refine g_si (pc := 87) hC (As := [.int (S.1 4 1)]) (st := [.int 1, .int (S.2.1 ((S.1 0 11).toNatClampNeg) 13 x1.toNatClampNeg)]) mt_JInt_bitCount lk_Co_196 (Nat.le_of_ble_eq_true rfl) ⟨Nat.le_of_ble_eq_true rfl, Nat.le_of_ble_eq_true rfl⟩ rfl d_Co_worth_87 (c_JInt_bitCount (IsC.ok hV) hq87) ?_
        obtain ⟨q90, hq90, h⟩ := Option.bind_eq_some_iff.mp h
        refine g_si (pc := 90) hC (As := [.int (S.2.1 ((S.1 0 11).toNatClampNeg) 13 x1.toNatClampNeg), .int 1, .int q87]) (st := []) mt_St_share lk_Co_336 (Nat.le_of_ble_eq_true rfl) ⟨Nat.le_of_ble_eq_true rfl, Nat.le_of_ble_eq_true rfl⟩ rfl d_Co_worth_90 (c_St_share (IsC.ok hV) hq90) ?_
        refine s_istore_n (pc := 93) hC (i := 3) rfl (by decide) d_Co_worth_93 (lv2 := [some (.ref (V.2.2.1 0 0)), some (.int x1), some (.int s0), some (.int q90)]) rfl ?_
        refine g_iload_n (pc := 94) hC (i := 3) (x := q90) rfl rfl d_Co_worth_94 ?_
        refine g_aload_n (pc := 95) hC (i := 0) (x := (V.2.2.1 0 0)) rfl rfl d_Co_worth_95 ?_
        refine g_getC (pc := 96) hC (j := 4) fo_Co_35 (ob_Co hV) rfl d_Co_worth_96 ?_
        refine g_getA (pc := 99) hC fo_Co_205 (ob_St hV is_4) rfl d_Co_worth_99 ?_
        refine g_iload_n (pc := 102) hC (i := 1) (x := x1) rfl rfl d_Co_worth_102 ?_
        refine g_iald (pc := 103) hC (ar_St_12 hV is_4) d_Co_worth_103 h (fun h => ?_)
        refine g_isub (pc := 104) hC d_Co_worth_104 ?_
        exact g_iN (pc := 105) hC rfl d_Co_worth_105 h
      · refine g_iconst (pc := 68) hC kc_0 d_Co_worth_68 ?_
        exact g_iN (pc := 69) hC rfl d_Co_worth_69 h
set_option maxRecDepth 20000 in
theorem w_Co_worth_b0 {X : CX} {V : WV} (hV : IsC V) {S : Mem} {z : Int32} (hC : Ck X V bc_Co_worth 4 "SecretWells" (some .int) 1 24) (x1 : Int32) (h : f_Co_worth_b0 S x1 = some z) : G X V 4 (QI X V z S) 0 [some (.ref (V.2.2.1 0 0)), some (.int x1), none, none] [] S := by
  unfold f_Co_worth_b0 at h
  refine g_aload_n (pc := 0) hC (i := 0) (x := (V.2.2.1 0 0)) rfl rfl d_Co_worth_0 ?_
  refine g_iload_n (pc := 1) hC (i := 1) (x := x1) rfl rfl d_Co_worth_1 ?_
  obtain ⟨q2, hq2, h⟩ := Option.bind_eq_some_iff.mp h
  refine g_vi (pc := 2) hC (As := [.int x1]) (st := []) mt_Co_isSecret lk_Co_187 rfl (ob_Co hV) (Nat.le_of_ble_eq_true rfl) ⟨Nat.le_of_ble_eq_true rfl, Nat.le_of_ble_eq_true rfl⟩ rfl d_Co_worth_2 (c_Co_isSecret hV hq2) ?_
  refine g_if_ne (pc := 5) hC (tgt := 10) (by decide) d_Co_worth_5 h (fun h => ?_) (fun h => ?_)
  · refine g_aload_n (pc := 10) hC (i := 0) (x := (V.2.2.1 0 0)) rfl rfl d_Co_worth_10 ?_
    refine g_getC (pc := 11) hC (j := 4) fo_Co_35 (ob_Co hV) rfl d_Co_worth_11 ?_
    refine g_aload_n (pc := 14) hC (i := 0) (x := (V.2.2.1 0 0)) rfl rfl d_Co_worth_14 ?_
    refine g_getM (pc := 15) hC fo_Co_85 (ob_Co hV) rfl d_Co_worth_15 ?_
    obtain ⟨ht15, h⟩ := gTx_some h
    refine g_iload_n (pc := 18) hC (i := 1) (x := x1) rfl rfl d_Co_worth_18 ?_
    obtain ⟨q19, hq19, h⟩ := Option.bind_eq_some_iff.mp h
    refine g_vi (pc := 19) hC (As := [.ref (V.2.2.1 ((S.1 0 11).toNatClampNeg) 0), .int x1]) (st := []) mt_St_knowers lk_Co_190 rfl (ob_St hV is_4) (Nat.le_of_ble_eq_true rfl) ⟨Nat.le_of_ble_eq_true rfl, Nat.le_of_ble_eq_true rfl⟩ rfl d_Co_worth_19 (c_St_knowers hV is_4 ht15 hq19) ?_
    refine g_aload_n (pc := 22) hC (i := 0) (x := (V.2.2.1 0 0)) rfl rfl d_Co_worth_22 ?_
    refine g_getC (pc := 23) hC (j := 4) fo_Co_35 (ob_Co hV) rfl d_Co_worth_23 ?_
    refine g_getI (pc := 26) hC fo_Co_193 (ob_St hV is_4) rfl d_Co_worth_26 ?_
    refine g_iand (pc := 29) hC d_Co_worth_29 ?_
    refine g_if_eq (pc := 30) hC (tgt := 37) (by decide) d_Co_worth_30 h (fun h => ?_) (fun h => ?_)
    · refine g_iconst (pc := 37) hC kc_0 d_Co_worth_37 ?_
      exact w_Co_worth_b38 hV hC x1 0 h
    · refine g_iconst (pc := 33) hC kc_1 d_Co_worth_33 ?_
      refine g_goto (pc := 34) hC (tgt := 38) (by decide) d_Co_worth_34 ?_
      exact w_Co_worth_b38 hV hC x1 1 h
  · refine g_iconst (pc := 8) hC kc_m1 d_Co_worth_8 ?_
    exact g_iN (pc := 9) hC rfl d_Co_worth_9 h
theorem c_Co_worth {V : WV} {l : Launch} (hV : IsC V) {x1 : Int32} {S : Mem} {z : Int32} (h : f_Co_worth x1 S = some z) : CI V l y_Co_worth bc_Co_worth 4 (some .int) 1 24 [.ref (V.2.2.1 0 0), .int x1] S z S :=
  ct_i rfl (IsC.ok hV) (Nat.le_of_ble_eq_true rfl) (fun _ _ hC => w_Co_worth_b0 hV hC x1 h)
def f_Co_silence_b0 (S : Mem) (x1 : Int32) (x2 : Int32) (x3 : Int32) : Option (Int32) :=
  Option.bind (f_Co_isSecret x1 S) (fun q2 =>
  if q2 = 0 then
    some (-1)
  else
    Option.bind (f_Co_isMan x2 S) (fun q10 =>
    if q10 = 0 then
      some (-1)
    else
      if x3 < 0 then
        some (-1)
      else
        if x3 ≤ 1 then
          Option.bind (f_St_isAlive 4 x2 S) (fun q32 =>
          if q32 = 0 then
            some (-2)
          else
            Option.bind (f_St_isKnownTo 4 x2 x1 S) (fun q44 =>
            if q44 = 0 then
              gTx (S.1 0 11) (
              Option.bind (f_Pe_fewestCuts ((S.1 0 11).toNatClampNeg) 4 x1 x2 S) (fun q67 =>
              if x3 = 0 then
                Option.bind (f_JInt_bitCount q67) (fun q78 =>
                some q78)
              else
                some q67))
            else
              some (-2)))
        else
          some (-1)))
def f_Co_silence (x1 : Int32) (x2 : Int32) (x3 : Int32) (S : Mem) : Option (Int32) := f_Co_silence_b0 S x1 x2 x3
theorem d_Co_silence_0 : decode bc_Co_silence 0 = .ok (.aload_n 0, 1) := by decide +kernel
theorem d_Co_silence_1 : decode bc_Co_silence 1 = .ok (.iload_n 1, 1) := by decide +kernel
theorem d_Co_silence_2 : decode bc_Co_silence 2 = .ok (.invokevirtual 187, 3) := by decide +kernel
theorem d_Co_silence_5 : decode bc_Co_silence 5 = .ok (.ifCond .eq 20, 3) := by decide +kernel
theorem d_Co_silence_8 : decode bc_Co_silence 8 = .ok (.aload_n 0, 1) := by decide +kernel
theorem d_Co_silence_9 : decode bc_Co_silence 9 = .ok (.iload_n 2, 1) := by decide +kernel
theorem d_Co_silence_10 : decode bc_Co_silence 10 = .ok (.invokevirtual 169, 3) := by decide +kernel
theorem d_Co_silence_13 : decode bc_Co_silence 13 = .ok (.ifCond .eq 12, 3) := by decide +kernel
theorem d_Co_silence_16 : decode bc_Co_silence 16 = .ok (.iload_n 3, 1) := by decide +kernel
theorem d_Co_silence_17 : decode bc_Co_silence 17 = .ok (.ifCond .lt 8, 3) := by decide +kernel
theorem d_Co_silence_20 : decode bc_Co_silence 20 = .ok (.iload_n 3, 1) := by decide +kernel
theorem d_Co_silence_21 : decode bc_Co_silence 21 = .ok (.iconst 1, 1) := by decide +kernel
theorem d_Co_silence_22 : decode bc_Co_silence 22 = .ok (.if_icmp .le 5, 3) := by decide +kernel
theorem d_Co_silence_25 : decode bc_Co_silence 25 = .ok (.iconst (-1), 1) := by decide +kernel
theorem d_Co_silence_26 : decode bc_Co_silence 26 = .ok (.ireturn, 1) := by decide +kernel
theorem d_Co_silence_27 : decode bc_Co_silence 27 = .ok (.aload_n 0, 1) := by decide +kernel
theorem d_Co_silence_28 : decode bc_Co_silence 28 = .ok (.getfield 35, 3) := by decide +kernel
theorem d_Co_silence_31 : decode bc_Co_silence 31 = .ok (.iload_n 2, 1) := by decide +kernel
theorem d_Co_silence_32 : decode bc_Co_silence 32 = .ok (.invokevirtual 172, 3) := by decide +kernel
theorem d_Co_silence_35 : decode bc_Co_silence 35 = .ok (.ifCond .eq 15, 3) := by decide +kernel
theorem d_Co_silence_38 : decode bc_Co_silence 38 = .ok (.aload_n 0, 1) := by decide +kernel
theorem d_Co_silence_39 : decode bc_Co_silence 39 = .ok (.getfield 35, 3) := by decide +kernel
theorem d_Co_silence_42 : decode bc_Co_silence 42 = .ok (.iload_n 2, 1) := by decide +kernel
theorem d_Co_silence_43 : decode bc_Co_silence 43 = .ok (.iload_n 1, 1) := by decide +kernel
theorem d_Co_silence_44 : decode bc_Co_silence 44 = .ok (.invokevirtual 265, 3) := by decide +kernel
theorem d_Co_silence_47 : decode bc_Co_silence 47 = .ok (.ifCond .eq 6, 3) := by decide +kernel
theorem d_Co_silence_50 : decode bc_Co_silence 50 = .ok (.bipush (-2), 2) := by decide +kernel
theorem d_Co_silence_52 : decode bc_Co_silence 52 = .ok (.ireturn, 1) := by decide +kernel
theorem d_Co_silence_53 : decode bc_Co_silence 53 = .ok (.aload_n 0, 1) := by decide +kernel
theorem d_Co_silence_54 : decode bc_Co_silence 54 = .ok (.getfield 59, 3) := by decide +kernel
theorem d_Co_silence_57 : decode bc_Co_silence 57 = .ok (.aload_n 0, 1) := by decide +kernel
theorem d_Co_silence_58 : decode bc_Co_silence 58 = .ok (.getfield 85, 3) := by decide +kernel
theorem d_Co_silence_61 : decode bc_Co_silence 61 = .ok (.aload_n 0, 1) := by decide +kernel
theorem d_Co_silence_62 : decode bc_Co_silence 62 = .ok (.getfield 35, 3) := by decide +kernel
theorem d_Co_silence_65 : decode bc_Co_silence 65 = .ok (.iload_n 1, 1) := by decide +kernel
theorem d_Co_silence_66 : decode bc_Co_silence 66 = .ok (.iload_n 2, 1) := by decide +kernel
theorem d_Co_silence_67 : decode bc_Co_silence 67 = .ok (.invokevirtual 340, 3) := by decide +kernel
theorem d_Co_silence_70 : decode bc_Co_silence 70 = .ok (.istore 4, 2) := by decide +kernel
theorem d_Co_silence_72 : decode bc_Co_silence 72 = .ok (.iload_n 3, 1) := by decide +kernel
theorem d_Co_silence_73 : decode bc_Co_silence 73 = .ok (.ifCond .ne 11, 3) := by decide +kernel
theorem d_Co_silence_76 : decode bc_Co_silence 76 = .ok (.iload 4, 2) := by decide +kernel
theorem d_Co_silence_78 : decode bc_Co_silence 78 = .ok (.invokestatic 196, 3) := by decide +kernel
theorem d_Co_silence_81 : decode bc_Co_silence 81 = .ok (.goto 5, 3) := by decide +kernel
theorem d_Co_silence_84 : decode bc_Co_silence 84 = .ok (.iload 4, 2) := by decide +kernel
theorem d_Co_silence_86 : decode bc_Co_silence 86 = .ok (.ireturn, 1) := by decide +kernel
set_option maxRecDepth 20000 in
theorem w_Co_silence_b0 {X : CX} {V : WV} (hV : IsC V) {S : Mem} {z : Int32} (hC : Ck X V bc_Co_silence 5 "SecretWells" (some .int) 3 75) (x1 : Int32) (x2 : Int32) (x3 : Int32) (h : f_Co_silence_b0 S x1 x2 x3 = some z) : G X V 5 (QI X V z S) 0 [some (.ref (V.2.2.1 0 0)), some (.int x1), some (.int x2), some (.int x3), none] [] S := by
  unfold f_Co_silence_b0 at h
  refine g_aload_n (pc := 0) hC (i := 0) (x := (V.2.2.1 0 0)) rfl rfl d_Co_silence_0 ?_
  refine g_iload_n (pc := 1) hC (i := 1) (x := x1) rfl rfl d_Co_silence_1 ?_
  obtain ⟨q2, hq2, h⟩ := Option.bind_eq_some_iff.mp h
  refine g_vi (pc := 2) hC (As := [.int x1]) (st := []) mt_Co_isSecret lk_Co_187 rfl (ob_Co hV) (Nat.le_of_ble_eq_true rfl) ⟨Nat.le_of_ble_eq_true rfl, Nat.le_of_ble_eq_true rfl⟩ rfl d_Co_silence_2 (c_Co_isSecret hV hq2) ?_
  refine g_if_eq (pc := 5) hC (tgt := 25) (by decide) d_Co_silence_5 h (fun h => ?_) (fun h => ?_)
  · refine g_iconst (pc := 25) hC kc_m1 d_Co_silence_25 ?_
    exact g_iN (pc := 26) hC rfl d_Co_silence_26 h
  · refine g_aload_n (pc := 8) hC (i := 0) (x := (V.2.2.1 0 0)) rfl rfl d_Co_silence_8 ?_
    refine g_iload_n (pc := 9) hC (i := 2) (x := x2) rfl rfl d_Co_silence_9 ?_
    obtain ⟨q10, hq10, h⟩ := Option.bind_eq_some_iff.mp h
    refine g_vi (pc := 10) hC (As := [.int x2]) (st := []) mt_Co_isMan lk_Co_169 rfl (ob_Co hV) (Nat.le_of_ble_eq_true rfl) ⟨Nat.le_of_ble_eq_true rfl, Nat.le_of_ble_eq_true rfl⟩ rfl d_Co_silence_10 (c_Co_isMan hV hq10) ?_
    refine g_if_eq (pc := 13) hC (tgt := 25) (by decide) d_Co_silence_13 h (fun h => ?_) (fun h => ?_)
    · refine g_iconst (pc := 25) hC kc_m1 d_Co_silence_25 ?_
      exact g_iN (pc := 26) hC rfl d_Co_silence_26 h
    · refine g_iload_n (pc := 16) hC (i := 3) (x := x3) rfl rfl d_Co_silence_16 ?_
      refine g_if_lt (pc := 17) hC (tgt := 25) (by decide) d_Co_silence_17 h (fun h => ?_) (fun h => ?_)
      · refine g_iconst (pc := 25) hC kc_m1 d_Co_silence_25 ?_
        exact g_iN (pc := 26) hC rfl d_Co_silence_26 h
      · refine g_iload_n (pc := 20) hC (i := 3) (x := x3) rfl rfl d_Co_silence_20 ?_
        refine g_iconst (pc := 21) hC kc_1 d_Co_silence_21 ?_
        refine g_icmp_le (pc := 22) hC (tgt := 27) (by decide) d_Co_silence_22 h (fun h => ?_) (fun h => ?_)
        · refine g_aload_n (pc := 27) hC (i := 0) (x := (V.2.2.1 0 0)) rfl rfl d_Co_silence_27 ?_
          refine g_getC (pc := 28) hC (j := 4) fo_Co_35 (ob_Co hV) rfl d_Co_silence_28 ?_
          refine g_iload_n (pc := 31) hC (i := 2) (x := x2) rfl rfl d_Co_silence_31 ?_
          obtain ⟨q32, hq32, h⟩ := Option.bind_eq_some_iff.mp h
          refine g_vi (pc := 32) hC (As := [.int x2]) (st := []) mt_St_isAlive lk_Co_172 rfl (ob_St hV is_4) (Nat.le_of_ble_eq_true rfl) ⟨Nat.le_of_ble_eq_true rfl, Nat.le_of_ble_eq_true rfl⟩ rfl d_Co_silence_32 (c_St_isAlive hV is_4 hq32) ?_
          refine g_if_eq (pc := 35) hC (tgt := 50) (by decide) d_Co_silence_35 h (fun h => ?_) (fun h => ?_)
          · refine g_bipush (pc := 50) hC kb_m2 d_Co_silence_50 ?_
            exact g_iN (pc := 52) hC rfl d_Co_silence_52 h
          · refine g_aload_n (pc := 38) hC (i := 0) (x := (V.2.2.1 0 0)) rfl rfl d_Co_silence_38 ?_
            refine g_getC (pc := 39) hC (j := 4) fo_Co_35 (ob_Co hV) rfl d_Co_silence_39 ?_
            refine g_iload_n (pc := 42) hC (i := 2) (x := x2) rfl rfl d_Co_silence_42 ?_
            refine g_iload_n (pc := 43) hC (i := 1) (x := x1) rfl rfl d_Co_silence_43 ?_
            obtain ⟨q44, hq44, h⟩ := Option.bind_eq_some_iff.mp h
            refine g_vi (pc := 44) hC (As := [.int x2, .int x1]) (st := []) mt_St_isKnownTo lk_Co_265 rfl (ob_St hV is_4) (Nat.le_of_ble_eq_true rfl) ⟨Nat.le_of_ble_eq_true rfl, Nat.le_of_ble_eq_true rfl⟩ rfl d_Co_silence_44 (c_St_isKnownTo hV is_4 hq44) ?_
            refine g_if_eq (pc := 47) hC (tgt := 53) (by decide) d_Co_silence_47 h (fun h => ?_) (fun h => ?_)
            · refine g_aload_n (pc := 53) hC (i := 0) (x := (V.2.2.1 0 0)) rfl rfl d_Co_silence_53 ?_
              refine g_getC (pc := 54) hC (j := 8) fo_Co_59 (ob_Co hV) rfl d_Co_silence_54 ?_
              refine g_aload_n (pc := 57) hC (i := 0) (x := (V.2.2.1 0 0)) rfl rfl d_Co_silence_57 ?_
              refine g_getM (pc := 58) hC fo_Co_85 (ob_Co hV) rfl d_Co_silence_58 ?_
              obtain ⟨ht58, h⟩ := gTx_some h
              refine g_aload_n (pc := 61) hC (i := 0) (x := (V.2.2.1 0 0)) rfl rfl d_Co_silence_61 ?_
              refine g_getC (pc := 62) hC (j := 4) fo_Co_35 (ob_Co hV) rfl d_Co_silence_62 ?_
              refine g_iload_n (pc := 65) hC (i := 1) (x := x1) rfl rfl d_Co_silence_65 ?_
              refine g_iload_n (pc := 66) hC (i := 2) (x := x2) rfl rfl d_Co_silence_66 ?_
              obtain ⟨q67, hq67, h⟩ := Option.bind_eq_some_iff.mp h
              refine g_vi (pc := 67) hC (As := [.ref (V.2.2.1 ((S.1 0 11).toNatClampNeg) 0), .ref (V.2.2.1 4 0), .int x1, .int x2]) (st := []) mt_Pe_fewestCuts lk_Co_340 rfl (ob_Pe hV) (Nat.le_of_ble_eq_true rfl) ⟨Nat.le_of_ble_eq_true rfl, Nat.le_of_ble_eq_true rfl⟩ rfl d_Co_silence_67 (c_Pe_fewestCuts hV ht58 is_4 hq67) ?_
              refine s_istore (pc := 70) hC (i := 4) (by decide) d_Co_silence_70 (lv2 := [some (.ref (V.2.2.1 0 0)), some (.int x1), some (.int x2), some (.int x3), some (.int q67)]) rfl ?_
              refine g_iload_n (pc := 72) hC (i := 3) (x := x3) rfl rfl d_Co_silence_72 ?_
              refine g_if_ne (pc := 73) hC (tgt := 84) (by decide) d_Co_silence_73 h (fun h => ?_) (fun h => ?_)
              · refine g_iload (pc := 84) hC (i := 4) (x := q67) rfl d_Co_silence_84 ?_
                exact g_iN (pc := 86) hC rfl d_Co_silence_86 h
              · refine g_iload (pc := 76) hC (i := 4) (x := q67) rfl d_Co_silence_76 ?_
                obtain ⟨q78, hq78, h⟩ := Option.bind_eq_some_iff.mp h
                refine g_si (pc := 78) hC (As := [.int q67]) (st := []) mt_JInt_bitCount lk_Co_196 (Nat.le_of_ble_eq_true rfl) ⟨Nat.le_of_ble_eq_true rfl, Nat.le_of_ble_eq_true rfl⟩ rfl d_Co_silence_78 (c_JInt_bitCount (IsC.ok hV) hq78) ?_
                refine g_goto (pc := 81) hC (tgt := 86) (by decide) d_Co_silence_81 ?_
                exact g_iN (pc := 86) hC rfl d_Co_silence_86 h
            · refine g_bipush (pc := 50) hC kb_m2 d_Co_silence_50 ?_
              exact g_iN (pc := 52) hC rfl d_Co_silence_52 h
        · refine g_iconst (pc := 25) hC kc_m1 d_Co_silence_25 ?_
          exact g_iN (pc := 26) hC rfl d_Co_silence_26 h
theorem c_Co_silence {V : WV} {l : Launch} (hV : IsC V) {x1 : Int32} {x2 : Int32} {x3 : Int32} {S : Mem} {z : Int32} (h : f_Co_silence x1 x2 x3 S = some z) : CI V l y_Co_silence bc_Co_silence 5 (some .int) 3 75 [.ref (V.2.2.1 0 0), .int x1, .int x2, .int x3] S z S :=
  ct_i rfl (IsC.ok hV) (Nat.le_of_ble_eq_true rfl) (fun _ _ hC => w_Co_silence_b0 hV hC x1 x2 x3 h)
def f_Co_reach_b0 (S : Mem) (x1 : Int32) : Option (Int32) :=
  Option.bind (f_Co_isSecret x1 S) (fun q2 =>
  if q2 = 0 then
    some (-1)
  else
    gTx (S.1 0 11) (
    Option.bind (f_St_knowers 4 ((S.1 0 11).toNatClampNeg) x1 S) (fun q19 =>
    letS (q19 &&& (S.1 4 1)) (fun y30 =>
    gTx (S.1 0 11) (
    gTx (S.1 0 11) (
    Option.bind (f_Pe_openTies ((S.1 0 11).toNatClampNeg) 4 S) (fun q52 =>
    Option.bind (f_Pe_spread ((S.1 0 11).toNatClampNeg) y30 q52 S) (fun q55 =>
    some q55))))))))
def f_Co_reach (x1 : Int32) (S : Mem) : Option (Int32) := f_Co_reach_b0 S x1
theorem d_Co_reach_0 : decode bc_Co_reach 0 = .ok (.aload_n 0, 1) := by decide +kernel
theorem d_Co_reach_1 : decode bc_Co_reach 1 = .ok (.iload_n 1, 1) := by decide +kernel
theorem d_Co_reach_2 : decode bc_Co_reach 2 = .ok (.invokevirtual 187, 3) := by decide +kernel
theorem d_Co_reach_5 : decode bc_Co_reach 5 = .ok (.ifCond .ne 5, 3) := by decide +kernel
theorem d_Co_reach_8 : decode bc_Co_reach 8 = .ok (.iconst (-1), 1) := by decide +kernel
theorem d_Co_reach_9 : decode bc_Co_reach 9 = .ok (.ireturn, 1) := by decide +kernel
theorem d_Co_reach_10 : decode bc_Co_reach 10 = .ok (.aload_n 0, 1) := by decide +kernel
theorem d_Co_reach_11 : decode bc_Co_reach 11 = .ok (.getfield 35, 3) := by decide +kernel
theorem d_Co_reach_14 : decode bc_Co_reach 14 = .ok (.aload_n 0, 1) := by decide +kernel
theorem d_Co_reach_15 : decode bc_Co_reach 15 = .ok (.getfield 85, 3) := by decide +kernel
theorem d_Co_reach_18 : decode bc_Co_reach 18 = .ok (.iload_n 1, 1) := by decide +kernel
theorem d_Co_reach_19 : decode bc_Co_reach 19 = .ok (.invokevirtual 190, 3) := by decide +kernel
theorem d_Co_reach_22 : decode bc_Co_reach 22 = .ok (.aload_n 0, 1) := by decide +kernel
theorem d_Co_reach_23 : decode bc_Co_reach 23 = .ok (.getfield 35, 3) := by decide +kernel
theorem d_Co_reach_26 : decode bc_Co_reach 26 = .ok (.getfield 193, 3) := by decide +kernel
theorem d_Co_reach_29 : decode bc_Co_reach 29 = .ok (.iand, 1) := by decide +kernel
theorem d_Co_reach_30 : decode bc_Co_reach 30 = .ok (.istore_n 2, 1) := by decide +kernel
theorem d_Co_reach_31 : decode bc_Co_reach 31 = .ok (.aload_n 0, 1) := by decide +kernel
theorem d_Co_reach_32 : decode bc_Co_reach 32 = .ok (.getfield 59, 3) := by decide +kernel
theorem d_Co_reach_35 : decode bc_Co_reach 35 = .ok (.aload_n 0, 1) := by decide +kernel
theorem d_Co_reach_36 : decode bc_Co_reach 36 = .ok (.getfield 85, 3) := by decide +kernel
theorem d_Co_reach_39 : decode bc_Co_reach 39 = .ok (.iload_n 2, 1) := by decide +kernel
theorem d_Co_reach_40 : decode bc_Co_reach 40 = .ok (.aload_n 0, 1) := by decide +kernel
theorem d_Co_reach_41 : decode bc_Co_reach 41 = .ok (.getfield 59, 3) := by decide +kernel
theorem d_Co_reach_44 : decode bc_Co_reach 44 = .ok (.aload_n 0, 1) := by decide +kernel
theorem d_Co_reach_45 : decode bc_Co_reach 45 = .ok (.getfield 85, 3) := by decide +kernel
theorem d_Co_reach_48 : decode bc_Co_reach 48 = .ok (.aload_n 0, 1) := by decide +kernel
theorem d_Co_reach_49 : decode bc_Co_reach 49 = .ok (.getfield 35, 3) := by decide +kernel
theorem d_Co_reach_52 : decode bc_Co_reach 52 = .ok (.invokevirtual 343, 3) := by decide +kernel
theorem d_Co_reach_55 : decode bc_Co_reach 55 = .ok (.invokevirtual 347, 3) := by decide +kernel
theorem d_Co_reach_58 : decode bc_Co_reach 58 = .ok (.ireturn, 1) := by decide +kernel
set_option maxRecDepth 20000 in
theorem w_Co_reach_b0 {X : CX} {V : WV} (hV : IsC V) {S : Mem} {z : Int32} (hC : Ck X V bc_Co_reach 3 "SecretWells" (some .int) 2 46) (x1 : Int32) (h : f_Co_reach_b0 S x1 = some z) : G X V 3 (QI X V z S) 0 [some (.ref (V.2.2.1 0 0)), some (.int x1), none] [] S := by
  unfold f_Co_reach_b0 at h
  refine g_aload_n (pc := 0) hC (i := 0) (x := (V.2.2.1 0 0)) rfl rfl d_Co_reach_0 ?_
  refine g_iload_n (pc := 1) hC (i := 1) (x := x1) rfl rfl d_Co_reach_1 ?_
  obtain ⟨q2, hq2, h⟩ := Option.bind_eq_some_iff.mp h
  refine g_vi (pc := 2) hC (As := [.int x1]) (st := []) mt_Co_isSecret lk_Co_187 rfl (ob_Co hV) (Nat.le_of_ble_eq_true rfl) ⟨Nat.le_of_ble_eq_true rfl, Nat.le_of_ble_eq_true rfl⟩ rfl d_Co_reach_2 (c_Co_isSecret hV hq2) ?_
  refine g_if_ne (pc := 5) hC (tgt := 10) (by decide) d_Co_reach_5 h (fun h => ?_) (fun h => ?_)
  · refine g_aload_n (pc := 10) hC (i := 0) (x := (V.2.2.1 0 0)) rfl rfl d_Co_reach_10 ?_
    refine g_getC (pc := 11) hC (j := 4) fo_Co_35 (ob_Co hV) rfl d_Co_reach_11 ?_
    refine g_aload_n (pc := 14) hC (i := 0) (x := (V.2.2.1 0 0)) rfl rfl d_Co_reach_14 ?_
    refine g_getM (pc := 15) hC fo_Co_85 (ob_Co hV) rfl d_Co_reach_15 ?_
    obtain ⟨ht15, h⟩ := gTx_some h
    refine g_iload_n (pc := 18) hC (i := 1) (x := x1) rfl rfl d_Co_reach_18 ?_
    obtain ⟨q19, hq19, h⟩ := Option.bind_eq_some_iff.mp h
    refine g_vi (pc := 19) hC (As := [.ref (V.2.2.1 ((S.1 0 11).toNatClampNeg) 0), .int x1]) (st := []) mt_St_knowers lk_Co_190 rfl (ob_St hV is_4) (Nat.le_of_ble_eq_true rfl) ⟨Nat.le_of_ble_eq_true rfl, Nat.le_of_ble_eq_true rfl⟩ rfl d_Co_reach_19 (c_St_knowers hV is_4 ht15 hq19) ?_
    refine g_aload_n (pc := 22) hC (i := 0) (x := (V.2.2.1 0 0)) rfl rfl d_Co_reach_22 ?_
    refine g_getC (pc := 23) hC (j := 4) fo_Co_35 (ob_Co hV) rfl d_Co_reach_23 ?_
    refine g_getI (pc := 26) hC fo_Co_193 (ob_St hV is_4) rfl d_Co_reach_26 ?_
    refine g_iand (pc := 29) hC d_Co_reach_29 ?_
    refine g_leti h (fun y30 h => ?_)
    refine s_istore_n (pc := 30) hC (i := 2) rfl (by decide) d_Co_reach_30 (lv2 := [some (.ref (V.2.2.1 0 0)), some (.int x1), some (.int y30)]) rfl ?_
    refine g_aload_n (pc := 31) hC (i := 0) (x := (V.2.2.1 0 0)) rfl rfl d_Co_reach_31 ?_
    refine g_getC (pc := 32) hC (j := 8) fo_Co_59 (ob_Co hV) rfl d_Co_reach_32 ?_
    refine g_aload_n (pc := 35) hC (i := 0) (x := (V.2.2.1 0 0)) rfl rfl d_Co_reach_35 ?_
    refine g_getM (pc := 36) hC fo_Co_85 (ob_Co hV) rfl d_Co_reach_36 ?_
    obtain ⟨ht36, h⟩ := gTx_some h
    refine g_iload_n (pc := 39) hC (i := 2) (x := y30) rfl rfl d_Co_reach_39 ?_
    refine g_aload_n (pc := 40) hC (i := 0) (x := (V.2.2.1 0 0)) rfl rfl d_Co_reach_40 ?_
    refine g_getC (pc := 41) hC (j := 8) fo_Co_59 (ob_Co hV) rfl d_Co_reach_41 ?_
    refine g_aload_n (pc := 44) hC (i := 0) (x := (V.2.2.1 0 0)) rfl rfl d_Co_reach_44 ?_
    refine g_getM (pc := 45) hC fo_Co_85 (ob_Co hV) rfl d_Co_reach_45 ?_
    obtain ⟨ht45, h⟩ := gTx_some h
    refine g_aload_n (pc := 48) hC (i := 0) (x := (V.2.2.1 0 0)) rfl rfl d_Co_reach_48 ?_
    refine g_getC (pc := 49) hC (j := 4) fo_Co_35 (ob_Co hV) rfl d_Co_reach_49 ?_
    obtain ⟨q52, hq52, h⟩ := Option.bind_eq_some_iff.mp h
    refine g_vi (pc := 52) hC (As := [.ref (V.2.2.1 ((S.1 0 11).toNatClampNeg) 0), .ref (V.2.2.1 4 0)]) (st := [.int y30, .ref (V.2.2.1 ((S.1 0 11).toNatClampNeg) 0), .ref (V.2.2.1 8 0)]) mt_Pe_openTies lk_Co_343 rfl (ob_Pe hV) (Nat.le_of_ble_eq_true rfl) ⟨Nat.le_of_ble_eq_true rfl, Nat.le_of_ble_eq_true rfl⟩ rfl d_Co_reach_52 (c_Pe_openTies hV ht45 is_4 hq52) ?_
    obtain ⟨q55, hq55, h⟩ := Option.bind_eq_some_iff.mp h
    refine g_vi (pc := 55) hC (As := [.ref (V.2.2.1 ((S.1 0 11).toNatClampNeg) 0), .int y30, .int q52]) (st := []) mt_Pe_spread lk_Co_347 rfl (ob_Pe hV) (Nat.le_of_ble_eq_true rfl) ⟨Nat.le_of_ble_eq_true rfl, Nat.le_of_ble_eq_true rfl⟩ rfl d_Co_reach_55 (c_Pe_spread hV ht36 hq55) ?_
    exact g_iN (pc := 58) hC rfl d_Co_reach_58 h
  · refine g_iconst (pc := 8) hC kc_m1 d_Co_reach_8 ?_
    exact g_iN (pc := 9) hC rfl d_Co_reach_9 h
theorem c_Co_reach {V : WV} {l : Launch} (hV : IsC V) {x1 : Int32} {S : Mem} {z : Int32} (h : f_Co_reach x1 S = some z) : CI V l y_Co_reach bc_Co_reach 3 (some .int) 2 46 [.ref (V.2.2.1 0 0), .int x1] S z S :=
  ct_i rfl (IsC.ok hV) (Nat.le_of_ble_eq_true rfl) (fun _ _ hC => w_Co_reach_b0 hV hC x1 h)
def f_Co_holds_b0 (S : Mem) (x1 : Int32) (x2 : Int32) : Option (Int32) :=
  Option.bind (f_Co_isMan x1 S) (fun q2 =>
  if q2 = 0 then
    some (-1)
  else
    Option.bind (f_Co_isMan x2 S) (fun q10 =>
    if q10 = 0 then
      some (-1)
    else
      if x1 = x2 then
        some (-1)
      else
        gTx (S.1 0 11) (
        Option.bind (f_Pe_sharedByTwo ((S.1 0 11).toNatClampNeg) 4 x1 x2 S) (fun q37 =>
        some q37))))
def f_Co_holds (x1 : Int32) (x2 : Int32) (S : Mem) : Option (Int32) := f_Co_holds_b0 S x1 x2
theorem d_Co_holds_0 : decode bc_Co_holds 0 = .ok (.aload_n 0, 1) := by decide +kernel
theorem d_Co_holds_1 : decode bc_Co_holds 1 = .ok (.iload_n 1, 1) := by decide +kernel
theorem d_Co_holds_2 : decode bc_Co_holds 2 = .ok (.invokevirtual 169, 3) := by decide +kernel
theorem d_Co_holds_5 : decode bc_Co_holds 5 = .ok (.ifCond .eq 16, 3) := by decide +kernel
theorem d_Co_holds_8 : decode bc_Co_holds 8 = .ok (.aload_n 0, 1) := by decide +kernel
theorem d_Co_holds_9 : decode bc_Co_holds 9 = .ok (.iload_n 2, 1) := by decide +kernel
theorem d_Co_holds_10 : decode bc_Co_holds 10 = .ok (.invokevirtual 169, 3) := by decide +kernel
theorem d_Co_holds_13 : decode bc_Co_holds 13 = .ok (.ifCond .eq 8, 3) := by decide +kernel
theorem d_Co_holds_16 : decode bc_Co_holds 16 = .ok (.iload_n 1, 1) := by decide +kernel
theorem d_Co_holds_17 : decode bc_Co_holds 17 = .ok (.iload_n 2, 1) := by decide +kernel
theorem d_Co_holds_18 : decode bc_Co_holds 18 = .ok (.if_icmp .ne 5, 3) := by decide +kernel
theorem d_Co_holds_21 : decode bc_Co_holds 21 = .ok (.iconst (-1), 1) := by decide +kernel
theorem d_Co_holds_22 : decode bc_Co_holds 22 = .ok (.ireturn, 1) := by decide +kernel
theorem d_Co_holds_23 : decode bc_Co_holds 23 = .ok (.aload_n 0, 1) := by decide +kernel
theorem d_Co_holds_24 : decode bc_Co_holds 24 = .ok (.getfield 59, 3) := by decide +kernel
theorem d_Co_holds_27 : decode bc_Co_holds 27 = .ok (.aload_n 0, 1) := by decide +kernel
theorem d_Co_holds_28 : decode bc_Co_holds 28 = .ok (.getfield 85, 3) := by decide +kernel
theorem d_Co_holds_31 : decode bc_Co_holds 31 = .ok (.aload_n 0, 1) := by decide +kernel
theorem d_Co_holds_32 : decode bc_Co_holds 32 = .ok (.getfield 35, 3) := by decide +kernel
theorem d_Co_holds_35 : decode bc_Co_holds 35 = .ok (.iload_n 1, 1) := by decide +kernel
theorem d_Co_holds_36 : decode bc_Co_holds 36 = .ok (.iload_n 2, 1) := by decide +kernel
theorem d_Co_holds_37 : decode bc_Co_holds 37 = .ok (.invokevirtual 351, 3) := by decide +kernel
theorem d_Co_holds_40 : decode bc_Co_holds 40 = .ok (.ireturn, 1) := by decide +kernel
set_option maxRecDepth 20000 in
theorem w_Co_holds_b0 {X : CX} {V : WV} (hV : IsC V) {S : Mem} {z : Int32} (hC : Ck X V bc_Co_holds 3 "SecretWells" (some .int) 2 47) (x1 : Int32) (x2 : Int32) (h : f_Co_holds_b0 S x1 x2 = some z) : G X V 3 (QI X V z S) 0 [some (.ref (V.2.2.1 0 0)), some (.int x1), some (.int x2)] [] S := by
  unfold f_Co_holds_b0 at h
  refine g_aload_n (pc := 0) hC (i := 0) (x := (V.2.2.1 0 0)) rfl rfl d_Co_holds_0 ?_
  refine g_iload_n (pc := 1) hC (i := 1) (x := x1) rfl rfl d_Co_holds_1 ?_
  obtain ⟨q2, hq2, h⟩ := Option.bind_eq_some_iff.mp h
  refine g_vi (pc := 2) hC (As := [.int x1]) (st := []) mt_Co_isMan lk_Co_169 rfl (ob_Co hV) (Nat.le_of_ble_eq_true rfl) ⟨Nat.le_of_ble_eq_true rfl, Nat.le_of_ble_eq_true rfl⟩ rfl d_Co_holds_2 (c_Co_isMan hV hq2) ?_
  refine g_if_eq (pc := 5) hC (tgt := 21) (by decide) d_Co_holds_5 h (fun h => ?_) (fun h => ?_)
  · refine g_iconst (pc := 21) hC kc_m1 d_Co_holds_21 ?_
    exact g_iN (pc := 22) hC rfl d_Co_holds_22 h
  · refine g_aload_n (pc := 8) hC (i := 0) (x := (V.2.2.1 0 0)) rfl rfl d_Co_holds_8 ?_
    refine g_iload_n (pc := 9) hC (i := 2) (x := x2) rfl rfl d_Co_holds_9 ?_
    obtain ⟨q10, hq10, h⟩ := Option.bind_eq_some_iff.mp h
    refine g_vi (pc := 10) hC (As := [.int x2]) (st := []) mt_Co_isMan lk_Co_169 rfl (ob_Co hV) (Nat.le_of_ble_eq_true rfl) ⟨Nat.le_of_ble_eq_true rfl, Nat.le_of_ble_eq_true rfl⟩ rfl d_Co_holds_10 (c_Co_isMan hV hq10) ?_
    refine g_if_eq (pc := 13) hC (tgt := 21) (by decide) d_Co_holds_13 h (fun h => ?_) (fun h => ?_)
    · refine g_iconst (pc := 21) hC kc_m1 d_Co_holds_21 ?_
      exact g_iN (pc := 22) hC rfl d_Co_holds_22 h
    · refine g_iload_n (pc := 16) hC (i := 1) (x := x1) rfl rfl d_Co_holds_16 ?_
      refine g_iload_n (pc := 17) hC (i := 2) (x := x2) rfl rfl d_Co_holds_17 ?_
      refine g_icmp_ne (pc := 18) hC (tgt := 23) (by decide) d_Co_holds_18 h (fun h => ?_) (fun h => ?_)
      · refine g_aload_n (pc := 23) hC (i := 0) (x := (V.2.2.1 0 0)) rfl rfl d_Co_holds_23 ?_
        refine g_getC (pc := 24) hC (j := 8) fo_Co_59 (ob_Co hV) rfl d_Co_holds_24 ?_
        refine g_aload_n (pc := 27) hC (i := 0) (x := (V.2.2.1 0 0)) rfl rfl d_Co_holds_27 ?_
        refine g_getM (pc := 28) hC fo_Co_85 (ob_Co hV) rfl d_Co_holds_28 ?_
        obtain ⟨ht28, h⟩ := gTx_some h
        refine g_aload_n (pc := 31) hC (i := 0) (x := (V.2.2.1 0 0)) rfl rfl d_Co_holds_31 ?_
        refine g_getC (pc := 32) hC (j := 4) fo_Co_35 (ob_Co hV) rfl d_Co_holds_32 ?_
        refine g_iload_n (pc := 35) hC (i := 1) (x := x1) rfl rfl d_Co_holds_35 ?_
        refine g_iload_n (pc := 36) hC (i := 2) (x := x2) rfl rfl d_Co_holds_36 ?_
        obtain ⟨q37, hq37, h⟩ := Option.bind_eq_some_iff.mp h
        refine g_vi (pc := 37) hC (As := [.ref (V.2.2.1 ((S.1 0 11).toNatClampNeg) 0), .ref (V.2.2.1 4 0), .int x1, .int x2]) (st := []) mt_Pe_sharedByTwo lk_Co_351 rfl (ob_Pe hV) (Nat.le_of_ble_eq_true rfl) ⟨Nat.le_of_ble_eq_true rfl, Nat.le_of_ble_eq_true rfl⟩ rfl d_Co_holds_37 (c_Pe_sharedByTwo hV ht28 is_4 hq37) ?_
        exact g_iN (pc := 40) hC rfl d_Co_holds_40 h
      · refine g_iconst (pc := 21) hC kc_m1 d_Co_holds_21 ?_
        exact g_iN (pc := 22) hC rfl d_Co_holds_22 h
theorem c_Co_holds {V : WV} {l : Launch} (hV : IsC V) {x1 : Int32} {x2 : Int32} {S : Mem} {z : Int32} (h : f_Co_holds x1 x2 S = some z) : CI V l y_Co_holds bc_Co_holds 3 (some .int) 2 47 [.ref (V.2.2.1 0 0), .int x1, .int x2] S z S :=
  ct_i rfl (IsC.ok hV) (Nat.le_of_ble_eq_true rfl) (fun _ _ hC => w_Co_holds_b0 hV hC x1 x2 h)
def f_Co_rings_b19 (S : Mem) (k4 : Int32 → Int32 → Option (Int32)) (k19 : Int32 → Int32 → Int32 → Option (Int32)) (x1 : Int32) (x2 : Int32) (x3 : Int32) : Option (Int32) :=
  gTx (S.1 0 11) (
  if (S.1 ((S.1 0 11).toNatClampNeg) 1) ≤ x3 then
    k4 x1 (x2 + 1)
  else
    gTx (S.1 0 11) (
    Option.bind (f_Pe_sharedByTwo ((S.1 0 11).toNatClampNeg) 4 x2 x3 S) (fun q44 =>
    if q44 ≤ 0 then
      k19 x1 x2 (x3 + 1)
    else
      k19 (x1 + 1) x2 (x3 + 1))))
def f_Co_rings_l19 (S : Mem) (k4 : Int32 → Int32 → Option (Int32)) : Nat → Int32 → Int32 → Int32 → Option (Int32)
  | 0 => fun _ _ _ => none
  | n + 1 => f_Co_rings_b19 S k4 (f_Co_rings_l19 S k4 n)
def f_Co_rings_b4 (S : Mem) (k4 : Int32 → Int32 → Option (Int32)) (x1 : Int32) (x2 : Int32) : Option (Int32) :=
  gTx (S.1 0 11) (
  if (S.1 ((S.1 0 11).toNatClampNeg) 1) ≤ x2 then
    some x1
  else
    letS (x2 + 1) (fun y18 =>
    f_Co_rings_l19 S k4 5000 x1 x2 y18))
def f_Co_rings_l4 (S : Mem) : Nat → Int32 → Int32 → Option (Int32)
  | 0 => fun _ _ => none
  | n + 1 => f_Co_rings_b4 S (f_Co_rings_l4 S n)
def f_Co_rings_b0 (S : Mem) : Option (Int32) :=
  f_Co_rings_l4 S 5000 0 0
def f_Co_rings (S : Mem) : Option (Int32) := f_Co_rings_b0 S
theorem d_Co_rings_0 : decode bc_Co_rings 0 = .ok (.iconst 0, 1) := by decide +kernel
theorem d_Co_rings_1 : decode bc_Co_rings 1 = .ok (.istore_n 1, 1) := by decide +kernel
theorem d_Co_rings_2 : decode bc_Co_rings 2 = .ok (.iconst 0, 1) := by decide +kernel
theorem d_Co_rings_3 : decode bc_Co_rings 3 = .ok (.istore_n 2, 1) := by decide +kernel
theorem d_Co_rings_4 : decode bc_Co_rings 4 = .ok (.iload_n 2, 1) := by decide +kernel
theorem d_Co_rings_5 : decode bc_Co_rings 5 = .ok (.aload_n 0, 1) := by decide +kernel
theorem d_Co_rings_6 : decode bc_Co_rings 6 = .ok (.getfield 85, 3) := by decide +kernel
theorem d_Co_rings_9 : decode bc_Co_rings 9 = .ok (.getfield 224, 3) := by decide +kernel
theorem d_Co_rings_12 : decode bc_Co_rings 12 = .ok (.if_icmp .ge 53, 3) := by decide +kernel
theorem d_Co_rings_15 : decode bc_Co_rings 15 = .ok (.iload_n 2, 1) := by decide +kernel
theorem d_Co_rings_16 : decode bc_Co_rings 16 = .ok (.iconst 1, 1) := by decide +kernel
theorem d_Co_rings_17 : decode bc_Co_rings 17 = .ok (.iadd, 1) := by decide +kernel
theorem d_Co_rings_18 : decode bc_Co_rings 18 = .ok (.istore_n 3, 1) := by decide +kernel
theorem d_Co_rings_19 : decode bc_Co_rings 19 = .ok (.iload_n 3, 1) := by decide +kernel
theorem d_Co_rings_20 : decode bc_Co_rings 20 = .ok (.aload_n 0, 1) := by decide +kernel
theorem d_Co_rings_21 : decode bc_Co_rings 21 = .ok (.getfield 85, 3) := by decide +kernel
theorem d_Co_rings_24 : decode bc_Co_rings 24 = .ok (.getfield 224, 3) := by decide +kernel
theorem d_Co_rings_27 : decode bc_Co_rings 27 = .ok (.if_icmp .ge 32, 3) := by decide +kernel
theorem d_Co_rings_30 : decode bc_Co_rings 30 = .ok (.aload_n 0, 1) := by decide +kernel
theorem d_Co_rings_31 : decode bc_Co_rings 31 = .ok (.getfield 59, 3) := by decide +kernel
theorem d_Co_rings_34 : decode bc_Co_rings 34 = .ok (.aload_n 0, 1) := by decide +kernel
theorem d_Co_rings_35 : decode bc_Co_rings 35 = .ok (.getfield 85, 3) := by decide +kernel
theorem d_Co_rings_38 : decode bc_Co_rings 38 = .ok (.aload_n 0, 1) := by decide +kernel
theorem d_Co_rings_39 : decode bc_Co_rings 39 = .ok (.getfield 35, 3) := by decide +kernel
theorem d_Co_rings_42 : decode bc_Co_rings 42 = .ok (.iload_n 2, 1) := by decide +kernel
theorem d_Co_rings_43 : decode bc_Co_rings 43 = .ok (.iload_n 3, 1) := by decide +kernel
theorem d_Co_rings_44 : decode bc_Co_rings 44 = .ok (.invokevirtual 351, 3) := by decide +kernel
theorem d_Co_rings_47 : decode bc_Co_rings 47 = .ok (.ifCond .le 6, 3) := by decide +kernel
theorem d_Co_rings_50 : decode bc_Co_rings 50 = .ok (.iinc 1 1, 3) := by decide +kernel
theorem d_Co_rings_53 : decode bc_Co_rings 53 = .ok (.iinc 3 1, 3) := by decide +kernel
theorem d_Co_rings_56 : decode bc_Co_rings 56 = .ok (.goto (-37), 3) := by decide +kernel
theorem d_Co_rings_59 : decode bc_Co_rings 59 = .ok (.iinc 2 1, 3) := by decide +kernel
theorem d_Co_rings_62 : decode bc_Co_rings 62 = .ok (.goto (-58), 3) := by decide +kernel
theorem d_Co_rings_65 : decode bc_Co_rings 65 = .ok (.iload_n 1, 1) := by decide +kernel
theorem d_Co_rings_66 : decode bc_Co_rings 66 = .ok (.ireturn, 1) := by decide +kernel
set_option maxRecDepth 20000 in
theorem w_Co_rings_b19 {X : CX} {V : WV} (hV : IsC V) {S : Mem} {z : Int32} (hC : Ck X V bc_Co_rings 4 "SecretWells" (some .int) 2 47) (k4 : Int32 → Int32 → Option (Int32)) (hk4 : ∀ (x1 : Int32) (x2 : Int32), k4 x1 x2 = some z → G X V 4 (QI X V z S) 4 [some (.ref (V.2.2.1 0 0)), some (.int x1), some (.int x2), none] [] S) (k19 : Int32 → Int32 → Int32 → Option (Int32)) (hk19 : ∀ (x1 : Int32) (x2 : Int32) (x3 : Int32), k19 x1 x2 x3 = some z → G X V 4 (QI X V z S) 19 [some (.ref (V.2.2.1 0 0)), some (.int x1), some (.int x2), some (.int x3)] [] S) (x1 : Int32) (x2 : Int32) (x3 : Int32) (h : f_Co_rings_b19 S k4 k19 x1 x2 x3 = some z) : G X V 4 (QI X V z S) 19 [some (.ref (V.2.2.1 0 0)), some (.int x1), some (.int x2), some (.int x3)] [] S := by
  unfold f_Co_rings_b19 at h
  refine g_iload_n (pc := 19) hC (i := 3) (x := x3) rfl rfl d_Co_rings_19 ?_
  refine g_aload_n (pc := 20) hC (i := 0) (x := (V.2.2.1 0 0)) rfl rfl d_Co_rings_20 ?_
  refine g_getM (pc := 21) hC fo_Co_85 (ob_Co hV) rfl d_Co_rings_21 ?_
  obtain ⟨ht21, h⟩ := gTx_some h
  refine g_getI (pc := 24) hC fo_Co_224 (ob_Tx hV ht21) rfl d_Co_rings_24 ?_
  refine g_icmp_ge (pc := 27) hC (tgt := 59) (by decide) d_Co_rings_27 h (fun h => ?_) (fun h => ?_)
  · refine s_iinc (pc := 59) hC (i := 2) (x := x2) (v := x2 + 1) rfl (by rw [kc_1]) (by decide) d_Co_rings_59 (lv2 := [some (.ref (V.2.2.1 0 0)), some (.int x1), some (.int (x2 + 1)), some (.int x3)]) rfl ?_
    refine g_goto (pc := 62) hC (tgt := 4) (by decide) d_Co_rings_62 ?_
    refine g_le (lv2 := [some (.ref (V.2.2.1 0 0)), some (.int x1), some (.int (x2 + 1)), none]) (⟨rfl, ⟨rfl, ⟨rfl, trivial⟩⟩⟩) ?_
    exact hk4 x1 (x2 + 1) h
  · refine g_aload_n (pc := 30) hC (i := 0) (x := (V.2.2.1 0 0)) rfl rfl d_Co_rings_30 ?_
    refine g_getC (pc := 31) hC (j := 8) fo_Co_59 (ob_Co hV) rfl d_Co_rings_31 ?_
    refine g_aload_n (pc := 34) hC (i := 0) (x := (V.2.2.1 0 0)) rfl rfl d_Co_rings_34 ?_
    refine g_getM (pc := 35) hC fo_Co_85 (ob_Co hV) rfl d_Co_rings_35 ?_
    obtain ⟨ht35, h⟩ := gTx_some h
    refine g_aload_n (pc := 38) hC (i := 0) (x := (V.2.2.1 0 0)) rfl rfl d_Co_rings_38 ?_
    refine g_getC (pc := 39) hC (j := 4) fo_Co_35 (ob_Co hV) rfl d_Co_rings_39 ?_
    refine g_iload_n (pc := 42) hC (i := 2) (x := x2) rfl rfl d_Co_rings_42 ?_
    refine g_iload_n (pc := 43) hC (i := 3) (x := x3) rfl rfl d_Co_rings_43 ?_
    obtain ⟨q44, hq44, h⟩ := Option.bind_eq_some_iff.mp h
    refine g_vi (pc := 44) hC (As := [.ref (V.2.2.1 ((S.1 0 11).toNatClampNeg) 0), .ref (V.2.2.1 4 0), .int x2, .int x3]) (st := []) mt_Pe_sharedByTwo lk_Co_351 rfl (ob_Pe hV) (Nat.le_of_ble_eq_true rfl) ⟨Nat.le_of_ble_eq_true rfl, Nat.le_of_ble_eq_true rfl⟩ rfl d_Co_rings_44 (c_Pe_sharedByTwo hV ht35 is_4 hq44) ?_
    refine g_if_le (pc := 47) hC (tgt := 53) (by decide) d_Co_rings_47 h (fun h => ?_) (fun h => ?_)
    · refine s_iinc (pc := 53) hC (i := 3) (x := x3) (v := x3 + 1) rfl (by rw [kc_1]) (by decide) d_Co_rings_53 (lv2 := [some (.ref (V.2.2.1 0 0)), some (.int x1), some (.int x2), some (.int (x3 + 1))]) rfl ?_
      refine g_goto (pc := 56) hC (tgt := 19) (by decide) d_Co_rings_56 ?_
      exact hk19 x1 x2 (x3 + 1) h
    · refine s_iinc (pc := 50) hC (i := 1) (x := x1) (v := x1 + 1) rfl (by rw [kc_1]) (by decide) d_Co_rings_50 (lv2 := [some (.ref (V.2.2.1 0 0)), some (.int (x1 + 1)), some (.int x2), some (.int x3)]) rfl ?_
      refine s_iinc (pc := 53) hC (i := 3) (x := x3) (v := x3 + 1) rfl (by rw [kc_1]) (by decide) d_Co_rings_53 (lv2 := [some (.ref (V.2.2.1 0 0)), some (.int (x1 + 1)), some (.int x2), some (.int (x3 + 1))]) rfl ?_
      refine g_goto (pc := 56) hC (tgt := 19) (by decide) d_Co_rings_56 ?_
      exact hk19 (x1 + 1) x2 (x3 + 1) h
theorem w_Co_rings_l19 {X : CX} {V : WV} (hV : IsC V) {S : Mem} {z : Int32} (hC : Ck X V bc_Co_rings 4 "SecretWells" (some .int) 2 47) (k4 : Int32 → Int32 → Option (Int32)) (hk4 : ∀ (x1 : Int32) (x2 : Int32), k4 x1 x2 = some z → G X V 4 (QI X V z S) 4 [some (.ref (V.2.2.1 0 0)), some (.int x1), some (.int x2), none] [] S) : ∀ (n : Nat) (x1 : Int32) (x2 : Int32) (x3 : Int32), f_Co_rings_l19 S k4 n x1 x2 x3 = some z → G X V 4 (QI X V z S) 19 [some (.ref (V.2.2.1 0 0)), some (.int x1), some (.int x2), some (.int x3)] [] S := by
  intro n
  induction n with
  | zero =>
    intro x1 x2 x3 h
    have h : (none : Option (Int32)) = some z := h
    cases h
  | succ n ih =>
    intro x1 x2 x3 h
    exact w_Co_rings_b19 hV hC k4 hk4 (f_Co_rings_l19 S k4 n) ih x1 x2 x3 h
set_option maxRecDepth 20000 in
theorem w_Co_rings_b4 {X : CX} {V : WV} (hV : IsC V) {S : Mem} {z : Int32} (hC : Ck X V bc_Co_rings 4 "SecretWells" (some .int) 2 47) (k4 : Int32 → Int32 → Option (Int32)) (hk4 : ∀ (x1 : Int32) (x2 : Int32), k4 x1 x2 = some z → G X V 4 (QI X V z S) 4 [some (.ref (V.2.2.1 0 0)), some (.int x1), some (.int x2), none] [] S) (x1 : Int32) (x2 : Int32) (h : f_Co_rings_b4 S k4 x1 x2 = some z) : G X V 4 (QI X V z S) 4 [some (.ref (V.2.2.1 0 0)), some (.int x1), some (.int x2), none] [] S := by
  unfold f_Co_rings_b4 at h
  refine g_iload_n (pc := 4) hC (i := 2) (x := x2) rfl rfl d_Co_rings_4 ?_
  refine g_aload_n (pc := 5) hC (i := 0) (x := (V.2.2.1 0 0)) rfl rfl d_Co_rings_5 ?_
  refine g_getM (pc := 6) hC fo_Co_85 (ob_Co hV) rfl d_Co_rings_6 ?_
  obtain ⟨ht6, h⟩ := gTx_some h
  refine g_getI (pc := 9) hC fo_Co_224 (ob_Tx hV ht6) rfl d_Co_rings_9 ?_
  refine g_icmp_ge (pc := 12) hC (tgt := 65) (by decide) d_Co_rings_12 h (fun h => ?_) (fun h => ?_)
  · refine g_iload_n (pc := 65) hC (i := 1) (x := x1) rfl rfl d_Co_rings_65 ?_
    exact g_iN (pc := 66) hC rfl d_Co_rings_66 h
  · refine g_iload_n (pc := 15) hC (i := 2) (x := x2) rfl rfl d_Co_rings_15 ?_
    refine g_iconst (pc := 16) hC kc_1 d_Co_rings_16 ?_
    refine g_iadd (pc := 17) hC d_Co_rings_17 ?_
    refine g_leti h (fun y18 h => ?_)
    refine s_istore_n (pc := 18) hC (i := 3) rfl (by decide) d_Co_rings_18 (lv2 := [some (.ref (V.2.2.1 0 0)), some (.int x1), some (.int x2), some (.int y18)]) rfl ?_
    exact w_Co_rings_l19 hV hC k4 hk4 5000 x1 x2 y18 h
theorem w_Co_rings_l4 {X : CX} {V : WV} (hV : IsC V) {S : Mem} {z : Int32} (hC : Ck X V bc_Co_rings 4 "SecretWells" (some .int) 2 47) : ∀ (n : Nat) (x1 : Int32) (x2 : Int32), f_Co_rings_l4 S n x1 x2 = some z → G X V 4 (QI X V z S) 4 [some (.ref (V.2.2.1 0 0)), some (.int x1), some (.int x2), none] [] S := by
  intro n
  induction n with
  | zero =>
    intro x1 x2 h
    have h : (none : Option (Int32)) = some z := h
    cases h
  | succ n ih =>
    intro x1 x2 h
    exact w_Co_rings_b4 hV hC (f_Co_rings_l4 S n) ih x1 x2 h
set_option maxRecDepth 20000 in
theorem w_Co_rings_b0 {X : CX} {V : WV} (hV : IsC V) {S : Mem} {z : Int32} (hC : Ck X V bc_Co_rings 4 "SecretWells" (some .int) 2 47) (h : f_Co_rings_b0 S = some z) : G X V 4 (QI X V z S) 0 [some (.ref (V.2.2.1 0 0)), none, none, none] [] S := by
  unfold f_Co_rings_b0 at h
  refine g_iconst (pc := 0) hC kc_0 d_Co_rings_0 ?_
  refine s_istore_n (pc := 1) hC (i := 1) rfl (by decide) d_Co_rings_1 (lv2 := [some (.ref (V.2.2.1 0 0)), some (.int 0), none, none]) rfl ?_
  refine g_iconst (pc := 2) hC kc_0 d_Co_rings_2 ?_
  refine s_istore_n (pc := 3) hC (i := 2) rfl (by decide) d_Co_rings_3 (lv2 := [some (.ref (V.2.2.1 0 0)), some (.int 0), some (.int 0), none]) rfl ?_
  exact w_Co_rings_l4 hV hC 5000 0 0 h
theorem c_Co_rings {V : WV} {l : Launch} (hV : IsC V) {S : Mem} {z : Int32} (h : f_Co_rings S = some z) : CI V l y_Co_rings bc_Co_rings 4 (some .int) 2 47 [.ref (V.2.2.1 0 0)] S z S :=
  ct_i rfl (IsC.ok hV) (Nat.le_of_ble_eq_true rfl) (fun _ _ hC => w_Co_rings_b0 hV hC h)
def f_Co_quiet_b0 (x1 : Int32) (x2 : Int32) (S : Mem) : Option (Int32 × Mem) :=
  Option.bind (f_Co_isWell x1 S) (fun q2 =>
  if q2 = 0 then
    some ((-1), S)
  else
    if (-1) ≤ x2 then
      gTx (S.1 0 11) (
      Option.bind (f_Pe_rests ((S.1 0 11).toNatClampNeg) 4 x1 x2 S) (fun q29 =>
      some (q29.1, q29.2)))
    else
      some ((-1), S))
def f_Co_quiet (x1 : Int32) (x2 : Int32) (S : Mem) : Option (Int32 × Mem) := f_Co_quiet_b0  x1 x2 S
theorem d_Co_quiet_0 : decode bc_Co_quiet 0 = .ok (.aload_n 0, 1) := by decide +kernel
theorem d_Co_quiet_1 : decode bc_Co_quiet 1 = .ok (.iload_n 1, 1) := by decide +kernel
theorem d_Co_quiet_2 : decode bc_Co_quiet 2 = .ok (.invokevirtual 144, 3) := by decide +kernel
theorem d_Co_quiet_5 : decode bc_Co_quiet 5 = .ok (.ifCond .eq 8, 3) := by decide +kernel
theorem d_Co_quiet_8 : decode bc_Co_quiet 8 = .ok (.iload_n 2, 1) := by decide +kernel
theorem d_Co_quiet_9 : decode bc_Co_quiet 9 = .ok (.iconst (-1), 1) := by decide +kernel
theorem d_Co_quiet_10 : decode bc_Co_quiet 10 = .ok (.if_icmp .ge 5, 3) := by decide +kernel
theorem d_Co_quiet_13 : decode bc_Co_quiet 13 = .ok (.iconst (-1), 1) := by decide +kernel
theorem d_Co_quiet_14 : decode bc_Co_quiet 14 = .ok (.ireturn, 1) := by decide +kernel
theorem d_Co_quiet_15 : decode bc_Co_quiet 15 = .ok (.aload_n 0, 1) := by decide +kernel
theorem d_Co_quiet_16 : decode bc_Co_quiet 16 = .ok (.getfield 59, 3) := by decide +kernel
theorem d_Co_quiet_19 : decode bc_Co_quiet 19 = .ok (.aload_n 0, 1) := by decide +kernel
theorem d_Co_quiet_20 : decode bc_Co_quiet 20 = .ok (.getfield 85, 3) := by decide +kernel
theorem d_Co_quiet_23 : decode bc_Co_quiet 23 = .ok (.aload_n 0, 1) := by decide +kernel
theorem d_Co_quiet_24 : decode bc_Co_quiet 24 = .ok (.getfield 35, 3) := by decide +kernel
theorem d_Co_quiet_27 : decode bc_Co_quiet 27 = .ok (.iload_n 1, 1) := by decide +kernel
theorem d_Co_quiet_28 : decode bc_Co_quiet 28 = .ok (.iload_n 2, 1) := by decide +kernel
theorem d_Co_quiet_29 : decode bc_Co_quiet 29 = .ok (.invokevirtual 354, 3) := by decide +kernel
theorem d_Co_quiet_32 : decode bc_Co_quiet 32 = .ok (.ireturn, 1) := by decide +kernel
set_option maxRecDepth 20000 in
theorem w_Co_quiet_b0 {X : CX} {V : WV} (hV : IsC V) {z : Int32 × Mem} (hC : Ck X V bc_Co_quiet 3 "SecretWells" (some .int) 4 107) (x1 : Int32) (x2 : Int32) (S : Mem) (h : f_Co_quiet_b0  x1 x2 S = some z) : G X V 3 (QI X V z.1 z.2) 0 [some (.ref (V.2.2.1 0 0)), some (.int x1), some (.int x2)] [] S := by
  unfold f_Co_quiet_b0 at h
  refine g_aload_n (pc := 0) hC (i := 0) (x := (V.2.2.1 0 0)) rfl rfl d_Co_quiet_0 ?_
  refine g_iload_n (pc := 1) hC (i := 1) (x := x1) rfl rfl d_Co_quiet_1 ?_
  obtain ⟨q2, hq2, h⟩ := Option.bind_eq_some_iff.mp h
  refine g_vi (pc := 2) hC (As := [.int x1]) (st := []) mt_Co_isWell lk_Co_144 rfl (ob_Co hV) (Nat.le_of_ble_eq_true rfl) ⟨Nat.le_of_ble_eq_true rfl, Nat.le_of_ble_eq_true rfl⟩ rfl d_Co_quiet_2 (c_Co_isWell hV hq2) ?_
  refine g_if_eq (pc := 5) hC (tgt := 13) (by decide) d_Co_quiet_5 h (fun h => ?_) (fun h => ?_)
  · refine g_iconst (pc := 13) hC kc_m1 d_Co_quiet_13 ?_
    exact g_iW (pc := 14) hC rfl d_Co_quiet_14 h
  · refine g_iload_n (pc := 8) hC (i := 2) (x := x2) rfl rfl d_Co_quiet_8 ?_
    refine g_iconst (pc := 9) hC kc_m1 d_Co_quiet_9 ?_
    refine g_icmp_ge (pc := 10) hC (tgt := 15) (by decide) d_Co_quiet_10 h (fun h => ?_) (fun h => ?_)
    · refine g_aload_n (pc := 15) hC (i := 0) (x := (V.2.2.1 0 0)) rfl rfl d_Co_quiet_15 ?_
      refine g_getC (pc := 16) hC (j := 8) fo_Co_59 (ob_Co hV) rfl d_Co_quiet_16 ?_
      refine g_aload_n (pc := 19) hC (i := 0) (x := (V.2.2.1 0 0)) rfl rfl d_Co_quiet_19 ?_
      refine g_getM (pc := 20) hC fo_Co_85 (ob_Co hV) rfl d_Co_quiet_20 ?_
      obtain ⟨ht20, h⟩ := gTx_some h
      refine g_aload_n (pc := 23) hC (i := 0) (x := (V.2.2.1 0 0)) rfl rfl d_Co_quiet_23 ?_
      refine g_getC (pc := 24) hC (j := 4) fo_Co_35 (ob_Co hV) rfl d_Co_quiet_24 ?_
      refine g_iload_n (pc := 27) hC (i := 1) (x := x1) rfl rfl d_Co_quiet_27 ?_
      refine g_iload_n (pc := 28) hC (i := 2) (x := x2) rfl rfl d_Co_quiet_28 ?_
      obtain ⟨q29, hq29, h⟩ := Option.bind_eq_some_iff.mp h
      refine g_vi (pc := 29) hC (As := [.ref (V.2.2.1 ((S.1 0 11).toNatClampNeg) 0), .ref (V.2.2.1 4 0), .int x1, .int x2]) (st := []) mt_Pe_rests lk_Co_354 rfl (ob_Pe hV) (Nat.le_of_ble_eq_true rfl) ⟨Nat.le_of_ble_eq_true rfl, Nat.le_of_ble_eq_true rfl⟩ rfl d_Co_quiet_29 (c_Pe_rests hV ht20 is_4 hq29) ?_
      exact g_iW (pc := 32) hC rfl d_Co_quiet_32 h
    · refine g_iconst (pc := 13) hC kc_m1 d_Co_quiet_13 ?_
      exact g_iW (pc := 14) hC rfl d_Co_quiet_14 h
theorem c_Co_quiet {V : WV} {l : Launch} (hV : IsC V) {x1 : Int32} {x2 : Int32} {S : Mem} {z : Int32 × Mem} (h : f_Co_quiet x1 x2 S = some z) : CI V l y_Co_quiet bc_Co_quiet 3 (some .int) 4 107 [.ref (V.2.2.1 0 0), .int x1, .int x2] S z.1 z.2 :=
  ct_i rfl (IsC.ok hV) (Nat.le_of_ble_eq_true rfl) (fun _ _ hC => w_Co_quiet_b0 hV hC x1 x2 S h)
def f_Co_note_b0 (x1 : Int32) (x2 : Int32) (x3 : Int32) (S : Mem) : Option (Int32 × Mem) :=
  Option.bind (f_Co_isWell x1 S) (fun q2 =>
  if q2 = 0 then
    some ((-1), S)
  else
    Option.bind (f_Co_isSet x2 S) (fun q10 =>
    if q10 = 0 then
      some ((-1), S)
    else
      if x3 < 0 then
        some ((-1), S)
      else
        if x3 ≤ 9999 then
          Option.bind (f_Nt_add x1 x2 x3 S) (fun q36 =>
          some (q36.1, q36.2))
        else
          some ((-1), S)))
def f_Co_note (x1 : Int32) (x2 : Int32) (x3 : Int32) (S : Mem) : Option (Int32 × Mem) := f_Co_note_b0  x1 x2 x3 S
theorem d_Co_note_0 : decode bc_Co_note 0 = .ok (.aload_n 0, 1) := by decide +kernel
theorem d_Co_note_1 : decode bc_Co_note 1 = .ok (.iload_n 1, 1) := by decide +kernel
theorem d_Co_note_2 : decode bc_Co_note 2 = .ok (.invokevirtual 144, 3) := by decide +kernel
theorem d_Co_note_5 : decode bc_Co_note 5 = .ok (.ifCond .eq 22, 3) := by decide +kernel
theorem d_Co_note_8 : decode bc_Co_note 8 = .ok (.aload_n 0, 1) := by decide +kernel
theorem d_Co_note_9 : decode bc_Co_note 9 = .ok (.iload_n 2, 1) := by decide +kernel
theorem d_Co_note_10 : decode bc_Co_note 10 = .ok (.invokevirtual 324, 3) := by decide +kernel
theorem d_Co_note_13 : decode bc_Co_note 13 = .ok (.ifCond .eq 14, 3) := by decide +kernel
theorem d_Co_note_16 : decode bc_Co_note 16 = .ok (.iload_n 3, 1) := by decide +kernel
theorem d_Co_note_17 : decode bc_Co_note 17 = .ok (.ifCond .lt 10, 3) := by decide +kernel
theorem d_Co_note_20 : decode bc_Co_note 20 = .ok (.iload_n 3, 1) := by decide +kernel
theorem d_Co_note_21 : decode bc_Co_note 21 = .ok (.sipush 9999, 3) := by decide +kernel
theorem d_Co_note_24 : decode bc_Co_note 24 = .ok (.if_icmp .le 5, 3) := by decide +kernel
theorem d_Co_note_27 : decode bc_Co_note 27 = .ok (.iconst (-1), 1) := by decide +kernel
theorem d_Co_note_28 : decode bc_Co_note 28 = .ok (.ireturn, 1) := by decide +kernel
theorem d_Co_note_29 : decode bc_Co_note 29 = .ok (.aload_n 0, 1) := by decide +kernel
theorem d_Co_note_30 : decode bc_Co_note 30 = .ok (.getfield 66, 3) := by decide +kernel
theorem d_Co_note_33 : decode bc_Co_note 33 = .ok (.iload_n 1, 1) := by decide +kernel
theorem d_Co_note_34 : decode bc_Co_note 34 = .ok (.iload_n 2, 1) := by decide +kernel
theorem d_Co_note_35 : decode bc_Co_note 35 = .ok (.iload_n 3, 1) := by decide +kernel
theorem d_Co_note_36 : decode bc_Co_note 36 = .ok (.invokevirtual 357, 3) := by decide +kernel
theorem d_Co_note_39 : decode bc_Co_note 39 = .ok (.ireturn, 1) := by decide +kernel
set_option maxRecDepth 20000 in
theorem w_Co_note_b0 {X : CX} {V : WV} (hV : IsC V) {z : Int32 × Mem} (hC : Ck X V bc_Co_note 4 "SecretWells" (some .int) 1 23) (x1 : Int32) (x2 : Int32) (x3 : Int32) (S : Mem) (h : f_Co_note_b0  x1 x2 x3 S = some z) : G X V 4 (QI X V z.1 z.2) 0 [some (.ref (V.2.2.1 0 0)), some (.int x1), some (.int x2), some (.int x3)] [] S := by
  unfold f_Co_note_b0 at h
  refine g_aload_n (pc := 0) hC (i := 0) (x := (V.2.2.1 0 0)) rfl rfl d_Co_note_0 ?_
  refine g_iload_n (pc := 1) hC (i := 1) (x := x1) rfl rfl d_Co_note_1 ?_
  obtain ⟨q2, hq2, h⟩ := Option.bind_eq_some_iff.mp h
  refine g_vi (pc := 2) hC (As := [.int x1]) (st := []) mt_Co_isWell lk_Co_144 rfl (ob_Co hV) (Nat.le_of_ble_eq_true rfl) ⟨Nat.le_of_ble_eq_true rfl, Nat.le_of_ble_eq_true rfl⟩ rfl d_Co_note_2 (c_Co_isWell hV hq2) ?_
  refine g_if_eq (pc := 5) hC (tgt := 27) (by decide) d_Co_note_5 h (fun h => ?_) (fun h => ?_)
  · refine g_iconst (pc := 27) hC kc_m1 d_Co_note_27 ?_
    exact g_iW (pc := 28) hC rfl d_Co_note_28 h
  · refine g_aload_n (pc := 8) hC (i := 0) (x := (V.2.2.1 0 0)) rfl rfl d_Co_note_8 ?_
    refine g_iload_n (pc := 9) hC (i := 2) (x := x2) rfl rfl d_Co_note_9 ?_
    obtain ⟨q10, hq10, h⟩ := Option.bind_eq_some_iff.mp h
    refine g_vi (pc := 10) hC (As := [.int x2]) (st := []) mt_Co_isSet lk_Co_324 rfl (ob_Co hV) (Nat.le_of_ble_eq_true rfl) ⟨Nat.le_of_ble_eq_true rfl, Nat.le_of_ble_eq_true rfl⟩ rfl d_Co_note_10 (c_Co_isSet hV hq10) ?_
    refine g_if_eq (pc := 13) hC (tgt := 27) (by decide) d_Co_note_13 h (fun h => ?_) (fun h => ?_)
    · refine g_iconst (pc := 27) hC kc_m1 d_Co_note_27 ?_
      exact g_iW (pc := 28) hC rfl d_Co_note_28 h
    · refine g_iload_n (pc := 16) hC (i := 3) (x := x3) rfl rfl d_Co_note_16 ?_
      refine g_if_lt (pc := 17) hC (tgt := 27) (by decide) d_Co_note_17 h (fun h => ?_) (fun h => ?_)
      · refine g_iconst (pc := 27) hC kc_m1 d_Co_note_27 ?_
        exact g_iW (pc := 28) hC rfl d_Co_note_28 h
      · refine g_iload_n (pc := 20) hC (i := 3) (x := x3) rfl rfl d_Co_note_20 ?_
        refine g_sipush (pc := 21) hC ks_9999 d_Co_note_21 ?_
        refine g_icmp_le (pc := 24) hC (tgt := 29) (by decide) d_Co_note_24 h (fun h => ?_) (fun h => ?_)
        · refine g_aload_n (pc := 29) hC (i := 0) (x := (V.2.2.1 0 0)) rfl rfl d_Co_note_29 ?_
          refine g_getC (pc := 30) hC (j := 9) fo_Co_66 (ob_Co hV) rfl d_Co_note_30 ?_
          refine g_iload_n (pc := 33) hC (i := 1) (x := x1) rfl rfl d_Co_note_33 ?_
          refine g_iload_n (pc := 34) hC (i := 2) (x := x2) rfl rfl d_Co_note_34 ?_
          refine g_iload_n (pc := 35) hC (i := 3) (x := x3) rfl rfl d_Co_note_35 ?_
          obtain ⟨q36, hq36, h⟩ := Option.bind_eq_some_iff.mp h
          refine g_vi (pc := 36) hC (As := [.int x1, .int x2, .int x3]) (st := []) mt_Nt_add lk_Co_357 rfl (ob_Nt hV) (Nat.le_of_ble_eq_true rfl) ⟨Nat.le_of_ble_eq_true rfl, Nat.le_of_ble_eq_true rfl⟩ rfl d_Co_note_36 (c_Nt_add hV hq36) ?_
          exact g_iW (pc := 39) hC rfl d_Co_note_39 h
        · refine g_iconst (pc := 27) hC kc_m1 d_Co_note_27 ?_
          exact g_iW (pc := 28) hC rfl d_Co_note_28 h
theorem c_Co_note {V : WV} {l : Launch} (hV : IsC V) {x1 : Int32} {x2 : Int32} {x3 : Int32} {S : Mem} {z : Int32 × Mem} (h : f_Co_note x1 x2 x3 S = some z) : CI V l y_Co_note bc_Co_note 4 (some .int) 1 23 [.ref (V.2.2.1 0 0), .int x1, .int x2, .int x3] S z.1 z.2 :=
  ct_i rfl (IsC.ok hV) (Nat.le_of_ble_eq_true rfl) (fun _ _ hC => w_Co_note_b0 hV hC x1 x2 x3 S h)
def f_Co_forget_b0 (S : Mem) : Option (Int32 × Mem) :=
  letS (S.1 9 0) (fun y7 =>
  letS (pI S 9 0 0) (fun S13 =>
  some (y7, S13)))
def f_Co_forget (S : Mem) : Option (Int32 × Mem) := f_Co_forget_b0  S
theorem d_Co_forget_0 : decode bc_Co_forget 0 = .ok (.aload_n 0, 1) := by decide +kernel
theorem d_Co_forget_1 : decode bc_Co_forget 1 = .ok (.getfield 66, 3) := by decide +kernel
theorem d_Co_forget_4 : decode bc_Co_forget 4 = .ok (.getfield 135, 3) := by decide +kernel
theorem d_Co_forget_7 : decode bc_Co_forget 7 = .ok (.istore_n 1, 1) := by decide +kernel
theorem d_Co_forget_8 : decode bc_Co_forget 8 = .ok (.aload_n 0, 1) := by decide +kernel
theorem d_Co_forget_9 : decode bc_Co_forget 9 = .ok (.getfield 66, 3) := by decide +kernel
theorem d_Co_forget_12 : decode bc_Co_forget 12 = .ok (.iconst 0, 1) := by decide +kernel
theorem d_Co_forget_13 : decode bc_Co_forget 13 = .ok (.putfield 135, 3) := by decide +kernel
theorem d_Co_forget_16 : decode bc_Co_forget 16 = .ok (.iload_n 1, 1) := by decide +kernel
theorem d_Co_forget_17 : decode bc_Co_forget 17 = .ok (.ireturn, 1) := by decide +kernel
set_option maxRecDepth 20000 in
theorem w_Co_forget_b0 {X : CX} {V : WV} (hV : IsC V) {z : Int32 × Mem} (hC : Ck X V bc_Co_forget 2 "SecretWells" (some .int) 0 0) (S : Mem) (h : f_Co_forget_b0  S = some z) : G X V 2 (QI X V z.1 z.2) 0 [some (.ref (V.2.2.1 0 0)), none] [] S := by
  unfold f_Co_forget_b0 at h
  refine g_aload_n (pc := 0) hC (i := 0) (x := (V.2.2.1 0 0)) rfl rfl d_Co_forget_0 ?_
  refine g_getC (pc := 1) hC (j := 9) fo_Co_66 (ob_Co hV) rfl d_Co_forget_1 ?_
  refine g_getI (pc := 4) hC fo_Co_135 (ob_Nt hV) rfl d_Co_forget_4 ?_
  refine g_leti h (fun y7 h => ?_)
  refine s_istore_n (pc := 7) hC (i := 1) rfl (by decide) d_Co_forget_7 (lv2 := [some (.ref (V.2.2.1 0 0)), some (.int y7)]) rfl ?_
  refine g_aload_n (pc := 8) hC (i := 0) (x := (V.2.2.1 0 0)) rfl rfl d_Co_forget_8 ?_
  refine g_getC (pc := 9) hC (j := 9) fo_Co_66 (ob_Co hV) rfl d_Co_forget_9 ?_
  refine g_iconst (pc := 12) hC kc_0 d_Co_forget_12 ?_
  refine g_putI (pc := 13) hC po_Co_135 (ob_Nt hV) rfl rfl rfl d_Co_forget_13 ?_
  refine g_letS h (fun S13 h => ?_)
  refine g_iload_n (pc := 16) hC (i := 1) (x := y7) rfl rfl d_Co_forget_16 ?_
  exact g_iW (pc := 17) hC rfl d_Co_forget_17 h
theorem c_Co_forget {V : WV} {l : Launch} (hV : IsC V) {S : Mem} {z : Int32 × Mem} (h : f_Co_forget S = some z) : CI V l y_Co_forget bc_Co_forget 2 (some .int) 0 0 [.ref (V.2.2.1 0 0)] S z.1 z.2 :=
  ct_i rfl (IsC.ok hV) (Nat.le_of_ble_eq_true rfl) (fun _ _ hC => w_Co_forget_b0 hV hC S h)
def f_Co_isKnownBy_b0 (S : Mem) (x1 : Int32) : Option (Int32) :=
  if x1 < 0 then
    some 0
  else
    if (S.1 9 0) < x1 then
      some 0
    else
      some 1
def f_Co_isKnownBy (x1 : Int32) (S : Mem) : Option (Int32) := f_Co_isKnownBy_b0 S x1
theorem d_Co_isKnownBy_0 : decode bc_Co_isKnownBy 0 = .ok (.iload_n 1, 1) := by decide +kernel
theorem d_Co_isKnownBy_1 : decode bc_Co_isKnownBy 1 = .ok (.ifCond .lt 18, 3) := by decide +kernel
theorem d_Co_isKnownBy_4 : decode bc_Co_isKnownBy 4 = .ok (.iload_n 1, 1) := by decide +kernel
theorem d_Co_isKnownBy_5 : decode bc_Co_isKnownBy 5 = .ok (.aload_n 0, 1) := by decide +kernel
theorem d_Co_isKnownBy_6 : decode bc_Co_isKnownBy 6 = .ok (.getfield 66, 3) := by decide +kernel
theorem d_Co_isKnownBy_9 : decode bc_Co_isKnownBy 9 = .ok (.getfield 135, 3) := by decide +kernel
theorem d_Co_isKnownBy_12 : decode bc_Co_isKnownBy 12 = .ok (.if_icmp .gt 7, 3) := by decide +kernel
theorem d_Co_isKnownBy_15 : decode bc_Co_isKnownBy 15 = .ok (.iconst 1, 1) := by decide +kernel
theorem d_Co_isKnownBy_16 : decode bc_Co_isKnownBy 16 = .ok (.goto 4, 3) := by decide +kernel
theorem d_Co_isKnownBy_19 : decode bc_Co_isKnownBy 19 = .ok (.iconst 0, 1) := by decide +kernel
theorem d_Co_isKnownBy_20 : decode bc_Co_isKnownBy 20 = .ok (.ireturn, 1) := by decide +kernel
set_option maxRecDepth 20000 in
theorem w_Co_isKnownBy_b0 {X : CX} {V : WV} (hV : IsC V) {S : Mem} {z : Int32} (hC : Ck X V bc_Co_isKnownBy 2 "SecretWells" (some .boolean) 0 0) (x1 : Int32) (h : f_Co_isKnownBy_b0 S x1 = some z) : G X V 2 (QI X V z S) 0 [some (.ref (V.2.2.1 0 0)), some (.int x1)] [] S := by
  unfold f_Co_isKnownBy_b0 at h
  refine g_iload_n (pc := 0) hC (i := 1) (x := x1) rfl rfl d_Co_isKnownBy_0 ?_
  refine g_if_lt (pc := 1) hC (tgt := 19) (by decide) d_Co_isKnownBy_1 h (fun h => ?_) (fun h => ?_)
  · refine g_iconst (pc := 19) hC kc_0 d_Co_isKnownBy_19 ?_
    exact g_iN (pc := 20) hC rfl d_Co_isKnownBy_20 h
  · refine g_iload_n (pc := 4) hC (i := 1) (x := x1) rfl rfl d_Co_isKnownBy_4 ?_
    refine g_aload_n (pc := 5) hC (i := 0) (x := (V.2.2.1 0 0)) rfl rfl d_Co_isKnownBy_5 ?_
    refine g_getC (pc := 6) hC (j := 9) fo_Co_66 (ob_Co hV) rfl d_Co_isKnownBy_6 ?_
    refine g_getI (pc := 9) hC fo_Co_135 (ob_Nt hV) rfl d_Co_isKnownBy_9 ?_
    refine g_icmp_gt (pc := 12) hC (tgt := 19) (by decide) d_Co_isKnownBy_12 h (fun h => ?_) (fun h => ?_)
    · refine g_iconst (pc := 19) hC kc_0 d_Co_isKnownBy_19 ?_
      exact g_iN (pc := 20) hC rfl d_Co_isKnownBy_20 h
    · refine g_iconst (pc := 15) hC kc_1 d_Co_isKnownBy_15 ?_
      refine g_goto (pc := 16) hC (tgt := 20) (by decide) d_Co_isKnownBy_16 ?_
      exact g_iN (pc := 20) hC rfl d_Co_isKnownBy_20 h
theorem c_Co_isKnownBy {V : WV} {l : Launch} (hV : IsC V) {x1 : Int32} {S : Mem} {z : Int32} (h : f_Co_isKnownBy x1 S = some z) : CI V l y_Co_isKnownBy bc_Co_isKnownBy 2 (some .boolean) 0 0 [.ref (V.2.2.1 0 0), .int x1] S z S :=
  ct_i rfl (IsC.ok hV) (Nat.le_of_ble_eq_true rfl) (fun _ _ hC => w_Co_isKnownBy_b0 hV hC x1 h)
def f_Co_truth_b0 (S : Mem) (x1 : Int32) (x2 : Int32) : Option (Int32) :=
  Option.bind (f_Co_isKnownBy x1 S) (fun q2 =>
  if q2 = 0 then
    some (-1)
  else
    if (-1) ≤ x2 then
      gTx (S.1 0 11) (
      Option.bind (f_Nt_trueOnes ((S.1 0 11).toNatClampNeg) x1 x2 S) (fun q25 =>
      some q25))
    else
      some (-1))
def f_Co_truth (x1 : Int32) (x2 : Int32) (S : Mem) : Option (Int32) := f_Co_truth_b0 S x1 x2
theorem d_Co_truth_0 : decode bc_Co_truth 0 = .ok (.aload_n 0, 1) := by decide +kernel
theorem d_Co_truth_1 : decode bc_Co_truth 1 = .ok (.iload_n 1, 1) := by decide +kernel
theorem d_Co_truth_2 : decode bc_Co_truth 2 = .ok (.invokevirtual 360, 3) := by decide +kernel
theorem d_Co_truth_5 : decode bc_Co_truth 5 = .ok (.ifCond .eq 8, 3) := by decide +kernel
theorem d_Co_truth_8 : decode bc_Co_truth 8 = .ok (.iload_n 2, 1) := by decide +kernel
theorem d_Co_truth_9 : decode bc_Co_truth 9 = .ok (.iconst (-1), 1) := by decide +kernel
theorem d_Co_truth_10 : decode bc_Co_truth 10 = .ok (.if_icmp .ge 5, 3) := by decide +kernel
theorem d_Co_truth_13 : decode bc_Co_truth 13 = .ok (.iconst (-1), 1) := by decide +kernel
theorem d_Co_truth_14 : decode bc_Co_truth 14 = .ok (.ireturn, 1) := by decide +kernel
theorem d_Co_truth_15 : decode bc_Co_truth 15 = .ok (.aload_n 0, 1) := by decide +kernel
theorem d_Co_truth_16 : decode bc_Co_truth 16 = .ok (.getfield 66, 3) := by decide +kernel
theorem d_Co_truth_19 : decode bc_Co_truth 19 = .ok (.aload_n 0, 1) := by decide +kernel
theorem d_Co_truth_20 : decode bc_Co_truth 20 = .ok (.getfield 85, 3) := by decide +kernel
theorem d_Co_truth_23 : decode bc_Co_truth 23 = .ok (.iload_n 1, 1) := by decide +kernel
theorem d_Co_truth_24 : decode bc_Co_truth 24 = .ok (.iload_n 2, 1) := by decide +kernel
theorem d_Co_truth_25 : decode bc_Co_truth 25 = .ok (.invokevirtual 363, 3) := by decide +kernel
theorem d_Co_truth_28 : decode bc_Co_truth 28 = .ok (.ireturn, 1) := by decide +kernel
set_option maxRecDepth 20000 in
theorem w_Co_truth_b0 {X : CX} {V : WV} (hV : IsC V) {S : Mem} {z : Int32} (hC : Ck X V bc_Co_truth 3 "SecretWells" (some .int) 2 52) (x1 : Int32) (x2 : Int32) (h : f_Co_truth_b0 S x1 x2 = some z) : G X V 3 (QI X V z S) 0 [some (.ref (V.2.2.1 0 0)), some (.int x1), some (.int x2)] [] S := by
  unfold f_Co_truth_b0 at h
  refine g_aload_n (pc := 0) hC (i := 0) (x := (V.2.2.1 0 0)) rfl rfl d_Co_truth_0 ?_
  refine g_iload_n (pc := 1) hC (i := 1) (x := x1) rfl rfl d_Co_truth_1 ?_
  obtain ⟨q2, hq2, h⟩ := Option.bind_eq_some_iff.mp h
  refine g_vi (pc := 2) hC (As := [.int x1]) (st := []) mt_Co_isKnownBy lk_Co_360 rfl (ob_Co hV) (Nat.le_of_ble_eq_true rfl) ⟨Nat.le_of_ble_eq_true rfl, Nat.le_of_ble_eq_true rfl⟩ rfl d_Co_truth_2 (c_Co_isKnownBy hV hq2) ?_
  refine g_if_eq (pc := 5) hC (tgt := 13) (by decide) d_Co_truth_5 h (fun h => ?_) (fun h => ?_)
  · refine g_iconst (pc := 13) hC kc_m1 d_Co_truth_13 ?_
    exact g_iN (pc := 14) hC rfl d_Co_truth_14 h
  · refine g_iload_n (pc := 8) hC (i := 2) (x := x2) rfl rfl d_Co_truth_8 ?_
    refine g_iconst (pc := 9) hC kc_m1 d_Co_truth_9 ?_
    refine g_icmp_ge (pc := 10) hC (tgt := 15) (by decide) d_Co_truth_10 h (fun h => ?_) (fun h => ?_)
    · refine g_aload_n (pc := 15) hC (i := 0) (x := (V.2.2.1 0 0)) rfl rfl d_Co_truth_15 ?_
      refine g_getC (pc := 16) hC (j := 9) fo_Co_66 (ob_Co hV) rfl d_Co_truth_16 ?_
      refine g_aload_n (pc := 19) hC (i := 0) (x := (V.2.2.1 0 0)) rfl rfl d_Co_truth_19 ?_
      refine g_getM (pc := 20) hC fo_Co_85 (ob_Co hV) rfl d_Co_truth_20 ?_
      obtain ⟨ht20, h⟩ := gTx_some h
      refine g_iload_n (pc := 23) hC (i := 1) (x := x1) rfl rfl d_Co_truth_23 ?_
      refine g_iload_n (pc := 24) hC (i := 2) (x := x2) rfl rfl d_Co_truth_24 ?_
      obtain ⟨q25, hq25, h⟩ := Option.bind_eq_some_iff.mp h
      refine g_vi (pc := 25) hC (As := [.ref (V.2.2.1 ((S.1 0 11).toNatClampNeg) 0), .int x1, .int x2]) (st := []) mt_Nt_trueOnes lk_Co_363 rfl (ob_Nt hV) (Nat.le_of_ble_eq_true rfl) ⟨Nat.le_of_ble_eq_true rfl, Nat.le_of_ble_eq_true rfl⟩ rfl d_Co_truth_25 (c_Nt_trueOnes hV ht20 hq25) ?_
      exact g_iN (pc := 28) hC rfl d_Co_truth_28 h
    · refine g_iconst (pc := 13) hC kc_m1 d_Co_truth_13 ?_
      exact g_iN (pc := 14) hC rfl d_Co_truth_14 h
theorem c_Co_truth {V : WV} {l : Launch} (hV : IsC V) {x1 : Int32} {x2 : Int32} {S : Mem} {z : Int32} (h : f_Co_truth x1 x2 S = some z) : CI V l y_Co_truth bc_Co_truth 3 (some .int) 2 52 [.ref (V.2.2.1 0 0), .int x1, .int x2] S z S :=
  ct_i rfl (IsC.ok hV) (Nat.le_of_ble_eq_true rfl) (fun _ _ hC => w_Co_truth_b0 hV hC x1 x2 h)
def f_Co_sure_b0 (S : Mem) (x1 : Int32) (x2 : Int32) : Option (Int32) :=
  Option.bind (f_Co_isKnownBy x1 S) (fun q2 =>
  if q2 = 0 then
    some (-1)
  else
    gTx (S.1 0 11) (
    Option.bind (f_Nt_alwaysSo ((S.1 0 11).toNatClampNeg) x1 x2 S) (fun q18 =>
    some q18)))
def f_Co_sure (x1 : Int32) (x2 : Int32) (S : Mem) : Option (Int32) := f_Co_sure_b0 S x1 x2
theorem d_Co_sure_0 : decode bc_Co_sure 0 = .ok (.aload_n 0, 1) := by decide +kernel
theorem d_Co_sure_1 : decode bc_Co_sure 1 = .ok (.iload_n 1, 1) := by decide +kernel
theorem d_Co_sure_2 : decode bc_Co_sure 2 = .ok (.invokevirtual 360, 3) := by decide +kernel
theorem d_Co_sure_5 : decode bc_Co_sure 5 = .ok (.ifCond .eq 19, 3) := by decide +kernel
theorem d_Co_sure_8 : decode bc_Co_sure 8 = .ok (.aload_n 0, 1) := by decide +kernel
theorem d_Co_sure_9 : decode bc_Co_sure 9 = .ok (.getfield 66, 3) := by decide +kernel
theorem d_Co_sure_12 : decode bc_Co_sure 12 = .ok (.aload_n 0, 1) := by decide +kernel
theorem d_Co_sure_13 : decode bc_Co_sure 13 = .ok (.getfield 85, 3) := by decide +kernel
theorem d_Co_sure_16 : decode bc_Co_sure 16 = .ok (.iload_n 1, 1) := by decide +kernel
theorem d_Co_sure_17 : decode bc_Co_sure 17 = .ok (.iload_n 2, 1) := by decide +kernel
theorem d_Co_sure_18 : decode bc_Co_sure 18 = .ok (.invokevirtual 366, 3) := by decide +kernel
theorem d_Co_sure_21 : decode bc_Co_sure 21 = .ok (.goto 4, 3) := by decide +kernel
theorem d_Co_sure_24 : decode bc_Co_sure 24 = .ok (.iconst (-1), 1) := by decide +kernel
theorem d_Co_sure_25 : decode bc_Co_sure 25 = .ok (.ireturn, 1) := by decide +kernel
set_option maxRecDepth 20000 in
theorem w_Co_sure_b0 {X : CX} {V : WV} (hV : IsC V) {S : Mem} {z : Int32} (hC : Ck X V bc_Co_sure 3 "SecretWells" (some .int) 2 54) (x1 : Int32) (x2 : Int32) (h : f_Co_sure_b0 S x1 x2 = some z) : G X V 3 (QI X V z S) 0 [some (.ref (V.2.2.1 0 0)), some (.int x1), some (.int x2)] [] S := by
  unfold f_Co_sure_b0 at h
  refine g_aload_n (pc := 0) hC (i := 0) (x := (V.2.2.1 0 0)) rfl rfl d_Co_sure_0 ?_
  refine g_iload_n (pc := 1) hC (i := 1) (x := x1) rfl rfl d_Co_sure_1 ?_
  obtain ⟨q2, hq2, h⟩ := Option.bind_eq_some_iff.mp h
  refine g_vi (pc := 2) hC (As := [.int x1]) (st := []) mt_Co_isKnownBy lk_Co_360 rfl (ob_Co hV) (Nat.le_of_ble_eq_true rfl) ⟨Nat.le_of_ble_eq_true rfl, Nat.le_of_ble_eq_true rfl⟩ rfl d_Co_sure_2 (c_Co_isKnownBy hV hq2) ?_
  refine g_if_eq (pc := 5) hC (tgt := 24) (by decide) d_Co_sure_5 h (fun h => ?_) (fun h => ?_)
  · refine g_iconst (pc := 24) hC kc_m1 d_Co_sure_24 ?_
    exact g_iN (pc := 25) hC rfl d_Co_sure_25 h
  · refine g_aload_n (pc := 8) hC (i := 0) (x := (V.2.2.1 0 0)) rfl rfl d_Co_sure_8 ?_
    refine g_getC (pc := 9) hC (j := 9) fo_Co_66 (ob_Co hV) rfl d_Co_sure_9 ?_
    refine g_aload_n (pc := 12) hC (i := 0) (x := (V.2.2.1 0 0)) rfl rfl d_Co_sure_12 ?_
    refine g_getM (pc := 13) hC fo_Co_85 (ob_Co hV) rfl d_Co_sure_13 ?_
    obtain ⟨ht13, h⟩ := gTx_some h
    refine g_iload_n (pc := 16) hC (i := 1) (x := x1) rfl rfl d_Co_sure_16 ?_
    refine g_iload_n (pc := 17) hC (i := 2) (x := x2) rfl rfl d_Co_sure_17 ?_
    obtain ⟨q18, hq18, h⟩ := Option.bind_eq_some_iff.mp h
    refine g_vi (pc := 18) hC (As := [.ref (V.2.2.1 ((S.1 0 11).toNatClampNeg) 0), .int x1, .int x2]) (st := []) mt_Nt_alwaysSo lk_Co_366 rfl (ob_Nt hV) (Nat.le_of_ble_eq_true rfl) ⟨Nat.le_of_ble_eq_true rfl, Nat.le_of_ble_eq_true rfl⟩ rfl d_Co_sure_18 (c_Nt_alwaysSo hV ht13 hq18) ?_
    refine g_goto (pc := 21) hC (tgt := 25) (by decide) d_Co_sure_21 ?_
    exact g_iN (pc := 25) hC rfl d_Co_sure_25 h
theorem c_Co_sure {V : WV} {l : Launch} (hV : IsC V) {x1 : Int32} {x2 : Int32} {S : Mem} {z : Int32} (h : f_Co_sure x1 x2 S = some z) : CI V l y_Co_sure bc_Co_sure 3 (some .int) 2 54 [.ref (V.2.2.1 0 0), .int x1, .int x2] S z S :=
  ct_i rfl (IsC.ok hV) (Nat.le_of_ble_eq_true rfl) (fun _ _ hC => w_Co_sure_b0 hV hC x1 x2 h)
