theorem kc_6 : Int32.ofInt 6 = 6 := by decide
set_option maxRecDepth 20000 in
set_option maxHeartbeats 4000000 in
theorem w_Law_law_b666 {X : CX} {VC VM : WV} {b L : Nat} {xs : Nat → Int32} (hVC : IsC VC) (hVM : IsM VM) (hC : CkL X VC VM b L xs) (k18 : Int32 → Mem → Mem → Option (Int32)) (hk18 : ∀ (x3 : Int32) (SC SM : Mem), k18 x3 SC SM = some 1 → GL X VC VM 18 [some (.ref b), some (.ref (VC.2.2.1 0 0)), some (.ref (VM.2.2.1 0 0)), some (.int x3)] [] SC SM) (x3 : Int32) (s0 : Int32) (s1 : Int32) (s2 : Int32) (SC SM : Mem) (h : f_Law_law_b666 L xs k18 x3 s0 s1 s2 SC SM = some 1) : GL X VC VM 666 [some (.ref b), some (.ref (VC.2.2.1 0 0)), some (.ref (VM.2.2.1 0 0)), some (.int x3)] [.int s0, .int s1, .ref (VM.2.2.1 0 0), .int s2] SC SM := by
  unfold f_Law_law_b666 at h
  obtain ⟨q666, hq666, h⟩ := Option.bind_eq_some_iff.mp h
  refine l_vM (pc := 666) hC hVM (As := [.int s1, .int s0]) (st := [.int s2]) mt_Mo_cut lk_Law_76 rfl (ob_Mo hVM) (Nat.le_of_ble_eq_true rfl) ⟨Nat.le_of_ble_eq_true rfl, Nat.le_of_ble_eq_true rfl⟩ rfl d_Law_law_666 (c_Mo_cut hVM hq666) ?_
  refine l_icmp_eq (pc := 669) hC (tgt := 1399) (by decide) d_Law_law_669 h (fun h => ?_) (fun h => ?_)
  · refine ls_iinc (pc := 1399) hC (i := 3) (x := x3) (v := x3 + 6) rfl (by rw [kc_6]) (by decide) d_Law_law_1399 (lv2 := [some (.ref b), some (.ref (VC.2.2.1 0 0)), some (.ref (VM.2.2.1 0 0)), some (.int (x3 + 6))]) rfl ?_
    refine l_goto (pc := 1402) hC (tgt := 18) (by decide) d_Law_law_1402 ?_
    exact hk18 (x3 + 6) SC q666.2 h
  · refine l_iconst (pc := 672) hC kc_0 d_Law_law_672 ?_
    exact absurd (Option.some.inj h) (by decide)
set_option maxRecDepth 20000 in
set_option maxHeartbeats 4000000 in
theorem w_Law_law_b644 {X : CX} {VC VM : WV} {b L : Nat} {xs : Nat → Int32} (hVC : IsC VC) (hVM : IsM VM) (hC : CkL X VC VM b L xs) (k18 : Int32 → Mem → Mem → Option (Int32)) (hk18 : ∀ (x3 : Int32) (SC SM : Mem), k18 x3 SC SM = some 1 → GL X VC VM 18 [some (.ref b), some (.ref (VC.2.2.1 0 0)), some (.ref (VM.2.2.1 0 0)), some (.int x3)] [] SC SM) (x3 : Int32) (s0 : Int32) (s1 : Int32) (SC SM : Mem) (h : f_Law_law_b644 L xs k18 x3 s0 s1 SC SM = some 1) : GL X VC VM 644 [some (.ref b), some (.ref (VC.2.2.1 0 0)), some (.ref (VM.2.2.1 0 0)), some (.int x3)] [.int s0, .int s1, .ref (VC.2.2.1 0 0)] SC SM := by
  unfold f_Law_law_b644 at h
  obtain ⟨q644, hq644, h⟩ := Option.bind_eq_some_iff.mp h
  refine l_vC (pc := 644) hC hVC (As := [.int s1, .int s0]) (st := []) mt_Co_cut lk_Law_72 rfl (ob_Co hVC) (Nat.le_of_ble_eq_true rfl) ⟨Nat.le_of_ble_eq_true rfl, Nat.le_of_ble_eq_true rfl⟩ rfl d_Law_law_644 (c_Co_cut hVC hq644) ?_
  refine l_aload_n (pc := 647) hC (i := 2) (x := (VM.2.2.1 0 0)) rfl rfl d_Law_law_647 ?_
  refine l_aload_n (pc := 648) hC (i := 0) (x := b) rfl rfl d_Law_law_648 ?_
  refine l_iload_n (pc := 649) hC (i := 3) (x := x3) rfl rfl d_Law_law_649 ?_
  refine l_iconst (pc := 650) hC kc_1 d_Law_law_650 ?_
  refine l_iadd (pc := 651) hC d_Law_law_651 ?_
  refine l_xald (pc := 652) hC d_Law_law_652 h (fun h => ?_)
  refine l_aload_n (pc := 653) hC (i := 0) (x := b) rfl rfl d_Law_law_653 ?_
  refine l_iload_n (pc := 654) hC (i := 3) (x := x3) rfl rfl d_Law_law_654 ?_
  refine l_iconst (pc := 655) hC kc_2 d_Law_law_655 ?_
  refine l_iadd (pc := 656) hC d_Law_law_656 ?_
  refine l_xald (pc := 657) hC d_Law_law_657 h (fun h => ?_)
  refine l_if_eq (pc := 658) hC (tgt := 665) (by decide) d_Law_law_658 h (fun h => ?_) (fun h => ?_)
  · refine l_iconst (pc := 665) hC kc_0 d_Law_law_665 ?_
    exact w_Law_law_b666 hVC hVM hC k18 hk18 x3 0 (xs (x3 + 1).toNatClampNeg) q644.1 q644.2 SM h
  · refine l_iconst (pc := 661) hC kc_1 d_Law_law_661 ?_
    refine l_goto (pc := 662) hC (tgt := 666) (by decide) d_Law_law_662 ?_
    exact w_Law_law_b666 hVC hVM hC k18 hk18 x3 1 (xs (x3 + 1).toNatClampNeg) q644.1 q644.2 SM h
set_option maxRecDepth 20000 in
set_option maxHeartbeats 4000000 in
theorem w_Law_law_b1289 {X : CX} {VC VM : WV} {b L : Nat} {xs : Nat → Int32} (hVC : IsC VC) (hVM : IsM VM) (hC : CkL X VC VM b L xs) (k18 : Int32 → Mem → Mem → Option (Int32)) (hk18 : ∀ (x3 : Int32) (SC SM : Mem), k18 x3 SC SM = some 1 → GL X VC VM 18 [some (.ref b), some (.ref (VC.2.2.1 0 0)), some (.ref (VM.2.2.1 0 0)), some (.int x3)] [] SC SM) (x3 : Int32) (s0 : Int32) (s1 : Int32) (s2 : Int32) (SC SM : Mem) (h : f_Law_law_b1289 L xs k18 x3 s0 s1 s2 SC SM = some 1) : GL X VC VM 1289 [some (.ref b), some (.ref (VC.2.2.1 0 0)), some (.ref (VM.2.2.1 0 0)), some (.int x3)] [.int s0, .int s1, .ref (VM.2.2.1 0 0), .int s2] SC SM := by
  unfold f_Law_law_b1289 at h
  obtain ⟨q1289, hq1289, h⟩ := Option.bind_eq_some_iff.mp h
  refine l_vM (pc := 1289) hC hVM (As := [.int s1, .int s0]) (st := [.int s2]) mt_Mo_sure lk_Law_155 rfl (ob_Mo hVM) (Nat.le_of_ble_eq_true rfl) ⟨Nat.le_of_ble_eq_true rfl, Nat.le_of_ble_eq_true rfl⟩ rfl d_Law_law_1289 (c_Mo_sure hVM hq1289) ?_
  refine l_icmp_eq (pc := 1292) hC (tgt := 1399) (by decide) d_Law_law_1292 h (fun h => ?_) (fun h => ?_)
  · refine ls_iinc (pc := 1399) hC (i := 3) (x := x3) (v := x3 + 6) rfl (by rw [kc_6]) (by decide) d_Law_law_1399 (lv2 := [some (.ref b), some (.ref (VC.2.2.1 0 0)), some (.ref (VM.2.2.1 0 0)), some (.int (x3 + 6))]) rfl ?_
    refine l_goto (pc := 1402) hC (tgt := 18) (by decide) d_Law_law_1402 ?_
    exact hk18 (x3 + 6) SC SM h
  · refine l_iconst (pc := 1295) hC kc_0 d_Law_law_1295 ?_
    exact absurd (Option.some.inj h) (by decide)
set_option maxRecDepth 20000 in
set_option maxHeartbeats 4000000 in
theorem w_Law_law_b1267 {X : CX} {VC VM : WV} {b L : Nat} {xs : Nat → Int32} (hVC : IsC VC) (hVM : IsM VM) (hC : CkL X VC VM b L xs) (k18 : Int32 → Mem → Mem → Option (Int32)) (hk18 : ∀ (x3 : Int32) (SC SM : Mem), k18 x3 SC SM = some 1 → GL X VC VM 18 [some (.ref b), some (.ref (VC.2.2.1 0 0)), some (.ref (VM.2.2.1 0 0)), some (.int x3)] [] SC SM) (x3 : Int32) (s0 : Int32) (s1 : Int32) (SC SM : Mem) (h : f_Law_law_b1267 L xs k18 x3 s0 s1 SC SM = some 1) : GL X VC VM 1267 [some (.ref b), some (.ref (VC.2.2.1 0 0)), some (.ref (VM.2.2.1 0 0)), some (.int x3)] [.int s0, .int s1, .ref (VC.2.2.1 0 0)] SC SM := by
  unfold f_Law_law_b1267 at h
  obtain ⟨q1267, hq1267, h⟩ := Option.bind_eq_some_iff.mp h
  refine l_vC (pc := 1267) hC hVC (As := [.int s1, .int s0]) (st := []) mt_Co_sure lk_Law_151 rfl (ob_Co hVC) (Nat.le_of_ble_eq_true rfl) ⟨Nat.le_of_ble_eq_true rfl, Nat.le_of_ble_eq_true rfl⟩ rfl d_Law_law_1267 (c_Co_sure hVC hq1267) ?_
  refine l_aload_n (pc := 1270) hC (i := 2) (x := (VM.2.2.1 0 0)) rfl rfl d_Law_law_1270 ?_
  refine l_aload_n (pc := 1271) hC (i := 0) (x := b) rfl rfl d_Law_law_1271 ?_
  refine l_iload_n (pc := 1272) hC (i := 3) (x := x3) rfl rfl d_Law_law_1272 ?_
  refine l_iconst (pc := 1273) hC kc_1 d_Law_law_1273 ?_
  refine l_iadd (pc := 1274) hC d_Law_law_1274 ?_
  refine l_xald (pc := 1275) hC d_Law_law_1275 h (fun h => ?_)
  refine l_aload_n (pc := 1276) hC (i := 0) (x := b) rfl rfl d_Law_law_1276 ?_
  refine l_iload_n (pc := 1277) hC (i := 3) (x := x3) rfl rfl d_Law_law_1277 ?_
  refine l_iconst (pc := 1278) hC kc_2 d_Law_law_1278 ?_
  refine l_iadd (pc := 1279) hC d_Law_law_1279 ?_
  refine l_xald (pc := 1280) hC d_Law_law_1280 h (fun h => ?_)
  refine l_if_eq (pc := 1281) hC (tgt := 1288) (by decide) d_Law_law_1281 h (fun h => ?_) (fun h => ?_)
  · refine l_iconst (pc := 1288) hC kc_0 d_Law_law_1288 ?_
    exact w_Law_law_b1289 hVC hVM hC k18 hk18 x3 0 (xs (x3 + 1).toNatClampNeg) q1267 SC SM h
  · refine l_iconst (pc := 1284) hC kc_1 d_Law_law_1284 ?_
    refine l_goto (pc := 1285) hC (tgt := 1289) (by decide) d_Law_law_1285 ?_
    exact w_Law_law_b1289 hVC hVM hC k18 hk18 x3 1 (xs (x3 + 1).toNatClampNeg) q1267 SC SM h
set_option maxRecDepth 20000 in
set_option maxHeartbeats 4000000 in
theorem w_Law_law_b18 {X : CX} {VC VM : WV} {b L : Nat} {xs : Nat → Int32} (hVC : IsC VC) (hVM : IsM VM) (hC : CkL X VC VM b L xs) (k18 : Int32 → Mem → Mem → Option (Int32)) (hk18 : ∀ (x3 : Int32) (SC SM : Mem), k18 x3 SC SM = some 1 → GL X VC VM 18 [some (.ref b), some (.ref (VC.2.2.1 0 0)), some (.ref (VM.2.2.1 0 0)), some (.int x3)] [] SC SM) (x3 : Int32) (SC SM : Mem) (h : f_Law_law_b18 L xs k18 x3 SC SM = some 1) : GL X VC VM 18 [some (.ref b), some (.ref (VC.2.2.1 0 0)), some (.ref (VM.2.2.1 0 0)), some (.int x3)] [] SC SM := by
  unfold f_Law_law_b18 at h
  refine l_iload_n (pc := 18) hC (i := 3) (x := x3) rfl rfl d_Law_law_18 ?_
  refine l_aload_n (pc := 19) hC (i := 0) (x := b) rfl rfl d_Law_law_19 ?_
  refine l_xlen (pc := 20) hC d_Law_law_20 ?_
  refine l_bipush (pc := 21) hC kb_6 d_Law_law_21 ?_
  refine l_isub (pc := 23) hC d_Law_law_23 ?_
  refine l_icmp_gt (pc := 24) hC (tgt := 1405) (by decide) d_Law_law_24 h (fun h => ?_) (fun h => ?_)
  · refine l_iconst (pc := 1405) hC kc_1 d_Law_law_1405 ?_
    exact l_ret (pc := 1406) hC d_Law_law_1406
  · refine l_aload_n (pc := 27) hC (i := 0) (x := b) rfl rfl d_Law_law_27 ?_
    refine l_iload_n (pc := 28) hC (i := 3) (x := x3) rfl rfl d_Law_law_28 ?_
    refine l_xald (pc := 29) hC d_Law_law_29 h (fun h => ?_)
    refine l_bipush (pc := 30) hC kb_63 d_Law_law_30 ?_
    refine l_iand (pc := 32) hC d_Law_law_32 ?_
    by_cases hs33_0 : ((xs x3.toNatClampNeg) &&& 63) = 0
    · rw [if_pos hs33_0] at h
      refine l_table (pc := 33) hC (tgt := 196) d_Law_law_33 rfl (by rw [hs33_0]; decide) ?_
      refine l_aload_n (pc := 196) hC (i := 1) (x := (VC.2.2.1 0 0)) rfl rfl d_Law_law_196 ?_
      refine l_aload_n (pc := 197) hC (i := 0) (x := b) rfl rfl d_Law_law_197 ?_
      refine l_iload_n (pc := 198) hC (i := 3) (x := x3) rfl rfl d_Law_law_198 ?_
      refine l_iconst (pc := 199) hC kc_1 d_Law_law_199 ?_
      refine l_iadd (pc := 200) hC d_Law_law_200 ?_
      refine l_xald (pc := 201) hC d_Law_law_201 h (fun h => ?_)
      refine l_aload_n (pc := 202) hC (i := 0) (x := b) rfl rfl d_Law_law_202 ?_
      refine l_iload_n (pc := 203) hC (i := 3) (x := x3) rfl rfl d_Law_law_203 ?_
      refine l_iconst (pc := 204) hC kc_2 d_Law_law_204 ?_
      refine l_iadd (pc := 205) hC d_Law_law_205 ?_
      refine l_xald (pc := 206) hC d_Law_law_206 h (fun h => ?_)
      refine l_aload_n (pc := 207) hC (i := 0) (x := b) rfl rfl d_Law_law_207 ?_
      refine l_iload_n (pc := 208) hC (i := 3) (x := x3) rfl rfl d_Law_law_208 ?_
      refine l_iconst (pc := 209) hC kc_3 d_Law_law_209 ?_
      refine l_iadd (pc := 210) hC d_Law_law_210 ?_
      refine l_xald (pc := 211) hC d_Law_law_211 h (fun h => ?_)
      refine l_aload_n (pc := 212) hC (i := 0) (x := b) rfl rfl d_Law_law_212 ?_
      refine l_iload_n (pc := 213) hC (i := 3) (x := x3) rfl rfl d_Law_law_213 ?_
      refine l_iconst (pc := 214) hC kc_4 d_Law_law_214 ?_
      refine l_iadd (pc := 215) hC d_Law_law_215 ?_
      refine l_xald (pc := 216) hC d_Law_law_216 h (fun h => ?_)
      refine l_aload_n (pc := 217) hC (i := 0) (x := b) rfl rfl d_Law_law_217 ?_
      refine l_iload_n (pc := 218) hC (i := 3) (x := x3) rfl rfl d_Law_law_218 ?_
      refine l_iconst (pc := 219) hC kc_5 d_Law_law_219 ?_
      refine l_iadd (pc := 220) hC d_Law_law_220 ?_
      refine l_xald (pc := 221) hC d_Law_law_221 h (fun h => ?_)
      obtain ⟨q222, hq222, h⟩ := Option.bind_eq_some_iff.mp h
      refine l_vC (pc := 222) hC hVC (As := [.int (xs (x3 + 1).toNatClampNeg), .int (xs (x3 + 2).toNatClampNeg), .int (xs (x3 + 3).toNatClampNeg), .int (xs (x3 + 4).toNatClampNeg), .int (xs (x3 + 5).toNatClampNeg)]) (st := []) mt_Co_feed lk_Law_13 rfl (ob_Co hVC) (Nat.le_of_ble_eq_true rfl) ⟨Nat.le_of_ble_eq_true rfl, Nat.le_of_ble_eq_true rfl⟩ rfl d_Law_law_222 (c_Co_feed hVC hq222) ?_
      refine l_aload_n (pc := 225) hC (i := 2) (x := (VM.2.2.1 0 0)) rfl rfl d_Law_law_225 ?_
      refine l_aload_n (pc := 226) hC (i := 0) (x := b) rfl rfl d_Law_law_226 ?_
      refine l_iload_n (pc := 227) hC (i := 3) (x := x3) rfl rfl d_Law_law_227 ?_
      refine l_iconst (pc := 228) hC kc_1 d_Law_law_228 ?_
      refine l_iadd (pc := 229) hC d_Law_law_229 ?_
      refine l_xald (pc := 230) hC d_Law_law_230 h (fun h => ?_)
      refine l_aload_n (pc := 231) hC (i := 0) (x := b) rfl rfl d_Law_law_231 ?_
      refine l_iload_n (pc := 232) hC (i := 3) (x := x3) rfl rfl d_Law_law_232 ?_
      refine l_iconst (pc := 233) hC kc_2 d_Law_law_233 ?_
      refine l_iadd (pc := 234) hC d_Law_law_234 ?_
      refine l_xald (pc := 235) hC d_Law_law_235 h (fun h => ?_)
      refine l_aload_n (pc := 236) hC (i := 0) (x := b) rfl rfl d_Law_law_236 ?_
      refine l_iload_n (pc := 237) hC (i := 3) (x := x3) rfl rfl d_Law_law_237 ?_
      refine l_iconst (pc := 238) hC kc_3 d_Law_law_238 ?_
      refine l_iadd (pc := 239) hC d_Law_law_239 ?_
      refine l_xald (pc := 240) hC d_Law_law_240 h (fun h => ?_)
      refine l_aload_n (pc := 241) hC (i := 0) (x := b) rfl rfl d_Law_law_241 ?_
      refine l_iload_n (pc := 242) hC (i := 3) (x := x3) rfl rfl d_Law_law_242 ?_
      refine l_iconst (pc := 243) hC kc_4 d_Law_law_243 ?_
      refine l_iadd (pc := 244) hC d_Law_law_244 ?_
      refine l_xald (pc := 245) hC d_Law_law_245 h (fun h => ?_)
      refine l_aload_n (pc := 246) hC (i := 0) (x := b) rfl rfl d_Law_law_246 ?_
      refine l_iload_n (pc := 247) hC (i := 3) (x := x3) rfl rfl d_Law_law_247 ?_
      refine l_iconst (pc := 248) hC kc_5 d_Law_law_248 ?_
      refine l_iadd (pc := 249) hC d_Law_law_249 ?_
      refine l_xald (pc := 250) hC d_Law_law_250 h (fun h => ?_)
      obtain ⟨q251, hq251, h⟩ := Option.bind_eq_some_iff.mp h
      refine l_vM (pc := 251) hC hVM (As := [.int (xs (x3 + 1).toNatClampNeg), .int (xs (x3 + 2).toNatClampNeg), .int (xs (x3 + 3).toNatClampNeg), .int (xs (x3 + 4).toNatClampNeg), .int (xs (x3 + 5).toNatClampNeg)]) (st := [.int q222.1]) mt_Mo_feed lk_Law_17 rfl (ob_Mo hVM) (Nat.le_of_ble_eq_true rfl) ⟨Nat.le_of_ble_eq_true rfl, Nat.le_of_ble_eq_true rfl⟩ rfl d_Law_law_251 (c_Mo_feed hVM hq251) ?_
      refine l_icmp_eq (pc := 254) hC (tgt := 1399) (by decide) d_Law_law_254 h (fun h => ?_) (fun h => ?_)
      · refine ls_iinc (pc := 1399) hC (i := 3) (x := x3) (v := x3 + 6) rfl (by rw [kc_6]) (by decide) d_Law_law_1399 (lv2 := [some (.ref b), some (.ref (VC.2.2.1 0 0)), some (.ref (VM.2.2.1 0 0)), some (.int (x3 + 6))]) rfl ?_
        refine l_goto (pc := 1402) hC (tgt := 18) (by decide) d_Law_law_1402 ?_
        exact hk18 (x3 + 6) q222.2 q251.2 h
      · refine l_iconst (pc := 257) hC kc_0 d_Law_law_257 ?_
        exact absurd (Option.some.inj h) (by decide)
    rw [if_neg hs33_0] at h
    by_cases hs33_1 : ((xs x3.toNatClampNeg) &&& 63) = 1
    · rw [if_pos hs33_1] at h
      refine l_table (pc := 33) hC (tgt := 259) d_Law_law_33 rfl (by rw [hs33_1]; decide) ?_
      refine l_aload_n (pc := 259) hC (i := 1) (x := (VC.2.2.1 0 0)) rfl rfl d_Law_law_259 ?_
      refine l_aload_n (pc := 260) hC (i := 0) (x := b) rfl rfl d_Law_law_260 ?_
      refine l_iload_n (pc := 261) hC (i := 3) (x := x3) rfl rfl d_Law_law_261 ?_
      refine l_iconst (pc := 262) hC kc_1 d_Law_law_262 ?_
      refine l_iadd (pc := 263) hC d_Law_law_263 ?_
      refine l_xald (pc := 264) hC d_Law_law_264 h (fun h => ?_)
      obtain ⟨q265, hq265, h⟩ := Option.bind_eq_some_iff.mp h
      refine l_vC (pc := 265) hC hVC (As := [.int (xs (x3 + 1).toNatClampNeg)]) (st := []) mt_Co_back lk_Law_18 rfl (ob_Co hVC) (Nat.le_of_ble_eq_true rfl) ⟨Nat.le_of_ble_eq_true rfl, Nat.le_of_ble_eq_true rfl⟩ rfl d_Law_law_265 (c_Co_back hVC hq265) ?_
      refine l_aload_n (pc := 268) hC (i := 2) (x := (VM.2.2.1 0 0)) rfl rfl d_Law_law_268 ?_
      refine l_aload_n (pc := 269) hC (i := 0) (x := b) rfl rfl d_Law_law_269 ?_
      refine l_iload_n (pc := 270) hC (i := 3) (x := x3) rfl rfl d_Law_law_270 ?_
      refine l_iconst (pc := 271) hC kc_1 d_Law_law_271 ?_
      refine l_iadd (pc := 272) hC d_Law_law_272 ?_
      refine l_xald (pc := 273) hC d_Law_law_273 h (fun h => ?_)
      obtain ⟨q274, hq274, h⟩ := Option.bind_eq_some_iff.mp h
      refine l_vM (pc := 274) hC hVM (As := [.int (xs (x3 + 1).toNatClampNeg)]) (st := [.int q265.1]) mt_Mo_back lk_Law_22 rfl (ob_Mo hVM) (Nat.le_of_ble_eq_true rfl) ⟨Nat.le_of_ble_eq_true rfl, Nat.le_of_ble_eq_true rfl⟩ rfl d_Law_law_274 (c_Mo_back hVM hq274) ?_
      refine l_icmp_eq (pc := 277) hC (tgt := 1399) (by decide) d_Law_law_277 h (fun h => ?_) (fun h => ?_)
      · refine ls_iinc (pc := 1399) hC (i := 3) (x := x3) (v := x3 + 6) rfl (by rw [kc_6]) (by decide) d_Law_law_1399 (lv2 := [some (.ref b), some (.ref (VC.2.2.1 0 0)), some (.ref (VM.2.2.1 0 0)), some (.int (x3 + 6))]) rfl ?_
        refine l_goto (pc := 1402) hC (tgt := 18) (by decide) d_Law_law_1402 ?_
        exact hk18 (x3 + 6) q265.2 q274.2 h
      · refine l_iconst (pc := 280) hC kc_0 d_Law_law_280 ?_
        exact absurd (Option.some.inj h) (by decide)
    rw [if_neg hs33_1] at h
    by_cases hs33_2 : ((xs x3.toNatClampNeg) &&& 63) = 2
    · rw [if_pos hs33_2] at h
      refine l_table (pc := 33) hC (tgt := 282) d_Law_law_33 rfl (by rw [hs33_2]; decide) ?_
      refine l_aload_n (pc := 282) hC (i := 1) (x := (VC.2.2.1 0 0)) rfl rfl d_Law_law_282 ?_
      obtain ⟨q283, hq283, h⟩ := Option.bind_eq_some_iff.mp h
      refine l_vC (pc := 283) hC hVC (As := []) (st := []) mt_Co_read lk_Law_23 rfl (ob_Co hVC) (Nat.le_of_ble_eq_true rfl) ⟨Nat.le_of_ble_eq_true rfl, Nat.le_of_ble_eq_true rfl⟩ rfl d_Law_law_283 (c_Co_read hVC hq283) ?_
      refine l_aload_n (pc := 286) hC (i := 2) (x := (VM.2.2.1 0 0)) rfl rfl d_Law_law_286 ?_
      obtain ⟨q287, hq287, h⟩ := Option.bind_eq_some_iff.mp h
      refine l_vM (pc := 287) hC hVM (As := []) (st := [.int q283.1]) mt_Mo_read lk_Law_27 rfl (ob_Mo hVM) (Nat.le_of_ble_eq_true rfl) ⟨Nat.le_of_ble_eq_true rfl, Nat.le_of_ble_eq_true rfl⟩ rfl d_Law_law_287 (c_Mo_read hVM hq287) ?_
      refine l_icmp_eq (pc := 290) hC (tgt := 1399) (by decide) d_Law_law_290 h (fun h => ?_) (fun h => ?_)
      · refine ls_iinc (pc := 1399) hC (i := 3) (x := x3) (v := x3 + 6) rfl (by rw [kc_6]) (by decide) d_Law_law_1399 (lv2 := [some (.ref b), some (.ref (VC.2.2.1 0 0)), some (.ref (VM.2.2.1 0 0)), some (.int (x3 + 6))]) rfl ?_
        refine l_goto (pc := 1402) hC (tgt := 18) (by decide) d_Law_law_1402 ?_
        exact hk18 (x3 + 6) q283.2 q287.2 h
      · refine l_iconst (pc := 293) hC kc_0 d_Law_law_293 ?_
        exact absurd (Option.some.inj h) (by decide)
    rw [if_neg hs33_2] at h
    by_cases hs33_3 : ((xs x3.toNatClampNeg) &&& 63) = 3
    · rw [if_pos hs33_3] at h
      refine l_table (pc := 33) hC (tgt := 295) d_Law_law_33 rfl (by rw [hs33_3]; decide) ?_
      refine l_aload_n (pc := 295) hC (i := 1) (x := (VC.2.2.1 0 0)) rfl rfl d_Law_law_295 ?_
      obtain ⟨q296, hq296, h⟩ := Option.bind_eq_some_iff.mp h
      refine l_vC (pc := 296) hC hVC (As := []) (st := []) mt_Co_place lk_Law_28 rfl (ob_Co hVC) (Nat.le_of_ble_eq_true rfl) ⟨Nat.le_of_ble_eq_true rfl, Nat.le_of_ble_eq_true rfl⟩ rfl d_Law_law_296 (c_Co_place hVC hq296) ?_
      refine l_aload_n (pc := 299) hC (i := 2) (x := (VM.2.2.1 0 0)) rfl rfl d_Law_law_299 ?_
      obtain ⟨q300, hq300, h⟩ := Option.bind_eq_some_iff.mp h
      refine l_vM (pc := 300) hC hVM (As := []) (st := [.int q296]) mt_Mo_place lk_Law_31 rfl (ob_Mo hVM) (Nat.le_of_ble_eq_true rfl) ⟨Nat.le_of_ble_eq_true rfl, Nat.le_of_ble_eq_true rfl⟩ rfl d_Law_law_300 (c_Mo_place hVM hq300) ?_
      refine l_icmp_eq (pc := 303) hC (tgt := 1399) (by decide) d_Law_law_303 h (fun h => ?_) (fun h => ?_)
      · refine ls_iinc (pc := 1399) hC (i := 3) (x := x3) (v := x3 + 6) rfl (by rw [kc_6]) (by decide) d_Law_law_1399 (lv2 := [some (.ref b), some (.ref (VC.2.2.1 0 0)), some (.ref (VM.2.2.1 0 0)), some (.int (x3 + 6))]) rfl ?_
        refine l_goto (pc := 1402) hC (tgt := 18) (by decide) d_Law_law_1402 ?_
        exact hk18 (x3 + 6) SC SM h
      · refine l_iconst (pc := 306) hC kc_0 d_Law_law_306 ?_
        exact absurd (Option.some.inj h) (by decide)
    rw [if_neg hs33_3] at h
    by_cases hs33_4 : ((xs x3.toNatClampNeg) &&& 63) = 4
    · rw [if_pos hs33_4] at h
      refine l_table (pc := 33) hC (tgt := 308) d_Law_law_33 rfl (by rw [hs33_4]; decide) ?_
      refine l_aload_n (pc := 308) hC (i := 1) (x := (VC.2.2.1 0 0)) rfl rfl d_Law_law_308 ?_
      refine l_aload_n (pc := 309) hC (i := 0) (x := b) rfl rfl d_Law_law_309 ?_
      refine l_iload_n (pc := 310) hC (i := 3) (x := x3) rfl rfl d_Law_law_310 ?_
      refine l_iconst (pc := 311) hC kc_1 d_Law_law_311 ?_
      refine l_iadd (pc := 312) hC d_Law_law_312 ?_
      refine l_xald (pc := 313) hC d_Law_law_313 h (fun h => ?_)
      refine l_aload_n (pc := 314) hC (i := 0) (x := b) rfl rfl d_Law_law_314 ?_
      refine l_iload_n (pc := 315) hC (i := 3) (x := x3) rfl rfl d_Law_law_315 ?_
      refine l_iconst (pc := 316) hC kc_2 d_Law_law_316 ?_
      refine l_iadd (pc := 317) hC d_Law_law_317 ?_
      refine l_xald (pc := 318) hC d_Law_law_318 h (fun h => ?_)
      obtain ⟨q319, hq319, h⟩ := Option.bind_eq_some_iff.mp h
      refine l_vC (pc := 319) hC hVC (As := [.int (xs (x3 + 1).toNatClampNeg), .int (xs (x3 + 2).toNatClampNeg)]) (st := []) mt_Co_well lk_Law_32 rfl (ob_Co hVC) (Nat.le_of_ble_eq_true rfl) ⟨Nat.le_of_ble_eq_true rfl, Nat.le_of_ble_eq_true rfl⟩ rfl d_Law_law_319 (c_Co_well hVC hq319) ?_
      refine l_aload_n (pc := 322) hC (i := 2) (x := (VM.2.2.1 0 0)) rfl rfl d_Law_law_322 ?_
      refine l_aload_n (pc := 323) hC (i := 0) (x := b) rfl rfl d_Law_law_323 ?_
      refine l_iload_n (pc := 324) hC (i := 3) (x := x3) rfl rfl d_Law_law_324 ?_
      refine l_iconst (pc := 325) hC kc_1 d_Law_law_325 ?_
      refine l_iadd (pc := 326) hC d_Law_law_326 ?_
      refine l_xald (pc := 327) hC d_Law_law_327 h (fun h => ?_)
      refine l_aload_n (pc := 328) hC (i := 0) (x := b) rfl rfl d_Law_law_328 ?_
      refine l_iload_n (pc := 329) hC (i := 3) (x := x3) rfl rfl d_Law_law_329 ?_
      refine l_iconst (pc := 330) hC kc_2 d_Law_law_330 ?_
      refine l_iadd (pc := 331) hC d_Law_law_331 ?_
      refine l_xald (pc := 332) hC d_Law_law_332 h (fun h => ?_)
      obtain ⟨q333, hq333, h⟩ := Option.bind_eq_some_iff.mp h
      refine l_vM (pc := 333) hC hVM (As := [.int (xs (x3 + 1).toNatClampNeg), .int (xs (x3 + 2).toNatClampNeg)]) (st := [.int q319.1]) mt_Mo_well lk_Law_36 rfl (ob_Mo hVM) (Nat.le_of_ble_eq_true rfl) ⟨Nat.le_of_ble_eq_true rfl, Nat.le_of_ble_eq_true rfl⟩ rfl d_Law_law_333 (c_Mo_well hVM hq333) ?_
      refine l_icmp_eq (pc := 336) hC (tgt := 1399) (by decide) d_Law_law_336 h (fun h => ?_) (fun h => ?_)
      · refine ls_iinc (pc := 1399) hC (i := 3) (x := x3) (v := x3 + 6) rfl (by rw [kc_6]) (by decide) d_Law_law_1399 (lv2 := [some (.ref b), some (.ref (VC.2.2.1 0 0)), some (.ref (VM.2.2.1 0 0)), some (.int (x3 + 6))]) rfl ?_
        refine l_goto (pc := 1402) hC (tgt := 18) (by decide) d_Law_law_1402 ?_
        exact hk18 (x3 + 6) q319.2 q333.2 h
      · refine l_iconst (pc := 339) hC kc_0 d_Law_law_339 ?_
        exact absurd (Option.some.inj h) (by decide)
    rw [if_neg hs33_4] at h
    by_cases hs33_5 : ((xs x3.toNatClampNeg) &&& 63) = 5
    · rw [if_pos hs33_5] at h
      refine l_table (pc := 33) hC (tgt := 341) d_Law_law_33 rfl (by rw [hs33_5]; decide) ?_
      refine l_aload_n (pc := 341) hC (i := 1) (x := (VC.2.2.1 0 0)) rfl rfl d_Law_law_341 ?_
      refine l_aload_n (pc := 342) hC (i := 0) (x := b) rfl rfl d_Law_law_342 ?_
      refine l_iload_n (pc := 343) hC (i := 3) (x := x3) rfl rfl d_Law_law_343 ?_
      refine l_iconst (pc := 344) hC kc_1 d_Law_law_344 ?_
      refine l_iadd (pc := 345) hC d_Law_law_345 ?_
      refine l_xald (pc := 346) hC d_Law_law_346 h (fun h => ?_)
      refine l_aload_n (pc := 347) hC (i := 0) (x := b) rfl rfl d_Law_law_347 ?_
      refine l_iload_n (pc := 348) hC (i := 3) (x := x3) rfl rfl d_Law_law_348 ?_
      refine l_iconst (pc := 349) hC kc_2 d_Law_law_349 ?_
      refine l_iadd (pc := 350) hC d_Law_law_350 ?_
      refine l_xald (pc := 351) hC d_Law_law_351 h (fun h => ?_)
      obtain ⟨q352, hq352, h⟩ := Option.bind_eq_some_iff.mp h
      refine l_vC (pc := 352) hC hVC (As := [.int (xs (x3 + 1).toNatClampNeg), .int (xs (x3 + 2).toNatClampNeg)]) (st := []) mt_Co_man lk_Law_37 rfl (ob_Co hVC) (Nat.le_of_ble_eq_true rfl) ⟨Nat.le_of_ble_eq_true rfl, Nat.le_of_ble_eq_true rfl⟩ rfl d_Law_law_352 (c_Co_man hVC hq352) ?_
      refine l_aload_n (pc := 355) hC (i := 2) (x := (VM.2.2.1 0 0)) rfl rfl d_Law_law_355 ?_
      refine l_aload_n (pc := 356) hC (i := 0) (x := b) rfl rfl d_Law_law_356 ?_
      refine l_iload_n (pc := 357) hC (i := 3) (x := x3) rfl rfl d_Law_law_357 ?_
      refine l_iconst (pc := 358) hC kc_1 d_Law_law_358 ?_
      refine l_iadd (pc := 359) hC d_Law_law_359 ?_
      refine l_xald (pc := 360) hC d_Law_law_360 h (fun h => ?_)
      refine l_aload_n (pc := 361) hC (i := 0) (x := b) rfl rfl d_Law_law_361 ?_
      refine l_iload_n (pc := 362) hC (i := 3) (x := x3) rfl rfl d_Law_law_362 ?_
      refine l_iconst (pc := 363) hC kc_2 d_Law_law_363 ?_
      refine l_iadd (pc := 364) hC d_Law_law_364 ?_
      refine l_xald (pc := 365) hC d_Law_law_365 h (fun h => ?_)
      obtain ⟨q366, hq366, h⟩ := Option.bind_eq_some_iff.mp h
      refine l_vM (pc := 366) hC hVM (As := [.int (xs (x3 + 1).toNatClampNeg), .int (xs (x3 + 2).toNatClampNeg)]) (st := [.int q352.1]) mt_Mo_man lk_Law_40 rfl (ob_Mo hVM) (Nat.le_of_ble_eq_true rfl) ⟨Nat.le_of_ble_eq_true rfl, Nat.le_of_ble_eq_true rfl⟩ rfl d_Law_law_366 (c_Mo_man hVM hq366) ?_
      refine l_icmp_eq (pc := 369) hC (tgt := 1399) (by decide) d_Law_law_369 h (fun h => ?_) (fun h => ?_)
      · refine ls_iinc (pc := 1399) hC (i := 3) (x := x3) (v := x3 + 6) rfl (by rw [kc_6]) (by decide) d_Law_law_1399 (lv2 := [some (.ref b), some (.ref (VC.2.2.1 0 0)), some (.ref (VM.2.2.1 0 0)), some (.int (x3 + 6))]) rfl ?_
        refine l_goto (pc := 1402) hC (tgt := 18) (by decide) d_Law_law_1402 ?_
        exact hk18 (x3 + 6) q352.2 q366.2 h
      · refine l_iconst (pc := 372) hC kc_0 d_Law_law_372 ?_
        exact absurd (Option.some.inj h) (by decide)
    rw [if_neg hs33_5] at h
    by_cases hs33_6 : ((xs x3.toNatClampNeg) &&& 63) = 6
    · rw [if_pos hs33_6] at h
      refine l_table (pc := 33) hC (tgt := 374) d_Law_law_33 rfl (by rw [hs33_6]; decide) ?_
      refine l_aload_n (pc := 374) hC (i := 1) (x := (VC.2.2.1 0 0)) rfl rfl d_Law_law_374 ?_
      refine l_aload_n (pc := 375) hC (i := 0) (x := b) rfl rfl d_Law_law_375 ?_
      refine l_iload_n (pc := 376) hC (i := 3) (x := x3) rfl rfl d_Law_law_376 ?_
      refine l_iconst (pc := 377) hC kc_1 d_Law_law_377 ?_
      refine l_iadd (pc := 378) hC d_Law_law_378 ?_
      refine l_xald (pc := 379) hC d_Law_law_379 h (fun h => ?_)
      refine l_aload_n (pc := 380) hC (i := 0) (x := b) rfl rfl d_Law_law_380 ?_
      refine l_iload_n (pc := 381) hC (i := 3) (x := x3) rfl rfl d_Law_law_381 ?_
      refine l_iconst (pc := 382) hC kc_2 d_Law_law_382 ?_
      refine l_iadd (pc := 383) hC d_Law_law_383 ?_
      refine l_xald (pc := 384) hC d_Law_law_384 h (fun h => ?_)
      obtain ⟨q385, hq385, h⟩ := Option.bind_eq_some_iff.mp h
      refine l_vC (pc := 385) hC hVC (As := [.int (xs (x3 + 1).toNatClampNeg), .int (xs (x3 + 2).toNatClampNeg)]) (st := []) mt_Co_secret lk_Law_41 rfl (ob_Co hVC) (Nat.le_of_ble_eq_true rfl) ⟨Nat.le_of_ble_eq_true rfl, Nat.le_of_ble_eq_true rfl⟩ rfl d_Law_law_385 (c_Co_secret hVC hq385) ?_
      refine l_aload_n (pc := 388) hC (i := 2) (x := (VM.2.2.1 0 0)) rfl rfl d_Law_law_388 ?_
      refine l_aload_n (pc := 389) hC (i := 0) (x := b) rfl rfl d_Law_law_389 ?_
      refine l_iload_n (pc := 390) hC (i := 3) (x := x3) rfl rfl d_Law_law_390 ?_
      refine l_iconst (pc := 391) hC kc_1 d_Law_law_391 ?_
      refine l_iadd (pc := 392) hC d_Law_law_392 ?_
      refine l_xald (pc := 393) hC d_Law_law_393 h (fun h => ?_)
      refine l_aload_n (pc := 394) hC (i := 0) (x := b) rfl rfl d_Law_law_394 ?_
      refine l_iload_n (pc := 395) hC (i := 3) (x := x3) rfl rfl d_Law_law_395 ?_
      refine l_iconst (pc := 396) hC kc_2 d_Law_law_396 ?_
      refine l_iadd (pc := 397) hC d_Law_law_397 ?_
      refine l_xald (pc := 398) hC d_Law_law_398 h (fun h => ?_)
      obtain ⟨q399, hq399, h⟩ := Option.bind_eq_some_iff.mp h
      refine l_vM (pc := 399) hC hVM (As := [.int (xs (x3 + 1).toNatClampNeg), .int (xs (x3 + 2).toNatClampNeg)]) (st := [.int q385]) mt_Mo_secret lk_Law_44 rfl (ob_Mo hVM) (Nat.le_of_ble_eq_true rfl) ⟨Nat.le_of_ble_eq_true rfl, Nat.le_of_ble_eq_true rfl⟩ rfl d_Law_law_399 (c_Mo_secret hVM hq399) ?_
      refine l_icmp_eq (pc := 402) hC (tgt := 1399) (by decide) d_Law_law_402 h (fun h => ?_) (fun h => ?_)
      · refine ls_iinc (pc := 1399) hC (i := 3) (x := x3) (v := x3 + 6) rfl (by rw [kc_6]) (by decide) d_Law_law_1399 (lv2 := [some (.ref b), some (.ref (VC.2.2.1 0 0)), some (.ref (VM.2.2.1 0 0)), some (.int (x3 + 6))]) rfl ?_
        refine l_goto (pc := 1402) hC (tgt := 18) (by decide) d_Law_law_1402 ?_
        exact hk18 (x3 + 6) SC q399.2 h
      · refine l_iconst (pc := 405) hC kc_0 d_Law_law_405 ?_
        exact absurd (Option.some.inj h) (by decide)
    rw [if_neg hs33_6] at h
    by_cases hs33_7 : ((xs x3.toNatClampNeg) &&& 63) = 7
    · rw [if_pos hs33_7] at h
      refine l_table (pc := 33) hC (tgt := 407) d_Law_law_33 rfl (by rw [hs33_7]; decide) ?_
      refine l_aload_n (pc := 407) hC (i := 1) (x := (VC.2.2.1 0 0)) rfl rfl d_Law_law_407 ?_
      refine l_aload_n (pc := 408) hC (i := 0) (x := b) rfl rfl d_Law_law_408 ?_
      refine l_iload_n (pc := 409) hC (i := 3) (x := x3) rfl rfl d_Law_law_409 ?_
      refine l_iconst (pc := 410) hC kc_1 d_Law_law_410 ?_
      refine l_iadd (pc := 411) hC d_Law_law_411 ?_
      refine l_xald (pc := 412) hC d_Law_law_412 h (fun h => ?_)
      refine l_aload_n (pc := 413) hC (i := 0) (x := b) rfl rfl d_Law_law_413 ?_
      refine l_iload_n (pc := 414) hC (i := 3) (x := x3) rfl rfl d_Law_law_414 ?_
      refine l_iconst (pc := 415) hC kc_2 d_Law_law_415 ?_
      refine l_iadd (pc := 416) hC d_Law_law_416 ?_
      refine l_xald (pc := 417) hC d_Law_law_417 h (fun h => ?_)
      obtain ⟨q418, hq418, h⟩ := Option.bind_eq_some_iff.mp h
      refine l_vC (pc := 418) hC hVC (As := [.int (xs (x3 + 1).toNatClampNeg), .int (xs (x3 + 2).toNatClampNeg)]) (st := []) mt_Co_tells lk_Law_45 rfl (ob_Co hVC) (Nat.le_of_ble_eq_true rfl) ⟨Nat.le_of_ble_eq_true rfl, Nat.le_of_ble_eq_true rfl⟩ rfl d_Law_law_418 (c_Co_tells hVC hq418) ?_
      refine l_aload_n (pc := 421) hC (i := 2) (x := (VM.2.2.1 0 0)) rfl rfl d_Law_law_421 ?_
      refine l_aload_n (pc := 422) hC (i := 0) (x := b) rfl rfl d_Law_law_422 ?_
      refine l_iload_n (pc := 423) hC (i := 3) (x := x3) rfl rfl d_Law_law_423 ?_
      refine l_iconst (pc := 424) hC kc_1 d_Law_law_424 ?_
      refine l_iadd (pc := 425) hC d_Law_law_425 ?_
      refine l_xald (pc := 426) hC d_Law_law_426 h (fun h => ?_)
      refine l_aload_n (pc := 427) hC (i := 0) (x := b) rfl rfl d_Law_law_427 ?_
      refine l_iload_n (pc := 428) hC (i := 3) (x := x3) rfl rfl d_Law_law_428 ?_
      refine l_iconst (pc := 429) hC kc_2 d_Law_law_429 ?_
      refine l_iadd (pc := 430) hC d_Law_law_430 ?_
      refine l_xald (pc := 431) hC d_Law_law_431 h (fun h => ?_)
      obtain ⟨q432, hq432, h⟩ := Option.bind_eq_some_iff.mp h
      refine l_vM (pc := 432) hC hVM (As := [.int (xs (x3 + 1).toNatClampNeg), .int (xs (x3 + 2).toNatClampNeg)]) (st := [.int q418.1]) mt_Mo_tells lk_Law_48 rfl (ob_Mo hVM) (Nat.le_of_ble_eq_true rfl) ⟨Nat.le_of_ble_eq_true rfl, Nat.le_of_ble_eq_true rfl⟩ rfl d_Law_law_432 (c_Mo_tells hVM hq432) ?_
      refine l_icmp_eq (pc := 435) hC (tgt := 1399) (by decide) d_Law_law_435 h (fun h => ?_) (fun h => ?_)
      · refine ls_iinc (pc := 1399) hC (i := 3) (x := x3) (v := x3 + 6) rfl (by rw [kc_6]) (by decide) d_Law_law_1399 (lv2 := [some (.ref b), some (.ref (VC.2.2.1 0 0)), some (.ref (VM.2.2.1 0 0)), some (.int (x3 + 6))]) rfl ?_
        refine l_goto (pc := 1402) hC (tgt := 18) (by decide) d_Law_law_1402 ?_
        exact hk18 (x3 + 6) q418.2 q432.2 h
      · refine l_iconst (pc := 438) hC kc_0 d_Law_law_438 ?_
        exact absurd (Option.some.inj h) (by decide)
    rw [if_neg hs33_7] at h
    by_cases hs33_8 : ((xs x3.toNatClampNeg) &&& 63) = 8
    · rw [if_pos hs33_8] at h
      refine l_table (pc := 33) hC (tgt := 440) d_Law_law_33 rfl (by rw [hs33_8]; decide) ?_
      refine l_aload_n (pc := 440) hC (i := 1) (x := (VC.2.2.1 0 0)) rfl rfl d_Law_law_440 ?_
      refine l_aload_n (pc := 441) hC (i := 0) (x := b) rfl rfl d_Law_law_441 ?_
      refine l_iload_n (pc := 442) hC (i := 3) (x := x3) rfl rfl d_Law_law_442 ?_
      refine l_iconst (pc := 443) hC kc_1 d_Law_law_443 ?_
      refine l_iadd (pc := 444) hC d_Law_law_444 ?_
      refine l_xald (pc := 445) hC d_Law_law_445 h (fun h => ?_)
      obtain ⟨q446, hq446, h⟩ := Option.bind_eq_some_iff.mp h
      refine l_vC (pc := 446) hC hVC (As := [.int (xs (x3 + 1).toNatClampNeg)]) (st := []) mt_Co_days lk_Law_49 rfl (ob_Co hVC) (Nat.le_of_ble_eq_true rfl) ⟨Nat.le_of_ble_eq_true rfl, Nat.le_of_ble_eq_true rfl⟩ rfl d_Law_law_446 (c_Co_days hVC hq446) ?_
      refine l_aload_n (pc := 449) hC (i := 2) (x := (VM.2.2.1 0 0)) rfl rfl d_Law_law_449 ?_
      refine l_aload_n (pc := 450) hC (i := 0) (x := b) rfl rfl d_Law_law_450 ?_
      refine l_iload_n (pc := 451) hC (i := 3) (x := x3) rfl rfl d_Law_law_451 ?_
      refine l_iconst (pc := 452) hC kc_1 d_Law_law_452 ?_
      refine l_iadd (pc := 453) hC d_Law_law_453 ?_
      refine l_xald (pc := 454) hC d_Law_law_454 h (fun h => ?_)
      obtain ⟨q455, hq455, h⟩ := Option.bind_eq_some_iff.mp h
      refine l_vM (pc := 455) hC hVM (As := [.int (xs (x3 + 1).toNatClampNeg)]) (st := [.int q446.1]) mt_Mo_days lk_Law_52 rfl (ob_Mo hVM) (Nat.le_of_ble_eq_true rfl) ⟨Nat.le_of_ble_eq_true rfl, Nat.le_of_ble_eq_true rfl⟩ rfl d_Law_law_455 (c_Mo_days hVM hq455) ?_
      refine l_icmp_eq (pc := 458) hC (tgt := 1399) (by decide) d_Law_law_458 h (fun h => ?_) (fun h => ?_)
      · refine ls_iinc (pc := 1399) hC (i := 3) (x := x3) (v := x3 + 6) rfl (by rw [kc_6]) (by decide) d_Law_law_1399 (lv2 := [some (.ref b), some (.ref (VC.2.2.1 0 0)), some (.ref (VM.2.2.1 0 0)), some (.int (x3 + 6))]) rfl ?_
        refine l_goto (pc := 1402) hC (tgt := 18) (by decide) d_Law_law_1402 ?_
        exact hk18 (x3 + 6) q446.2 q455.2 h
      · refine l_iconst (pc := 461) hC kc_0 d_Law_law_461 ?_
        exact absurd (Option.some.inj h) (by decide)
    rw [if_neg hs33_8] at h
    by_cases hs33_9 : ((xs x3.toNatClampNeg) &&& 63) = 9
    · rw [if_pos hs33_9] at h
      refine l_table (pc := 33) hC (tgt := 463) d_Law_law_33 rfl (by rw [hs33_9]; decide) ?_
      refine l_aload_n (pc := 463) hC (i := 1) (x := (VC.2.2.1 0 0)) rfl rfl d_Law_law_463 ?_
      refine l_aload_n (pc := 464) hC (i := 0) (x := b) rfl rfl d_Law_law_464 ?_
      refine l_iload_n (pc := 465) hC (i := 3) (x := x3) rfl rfl d_Law_law_465 ?_
      refine l_iconst (pc := 466) hC kc_1 d_Law_law_466 ?_
      refine l_iadd (pc := 467) hC d_Law_law_467 ?_
      refine l_xald (pc := 468) hC d_Law_law_468 h (fun h => ?_)
      refine l_aload_n (pc := 469) hC (i := 0) (x := b) rfl rfl d_Law_law_469 ?_
      refine l_iload_n (pc := 470) hC (i := 3) (x := x3) rfl rfl d_Law_law_470 ?_
      refine l_iconst (pc := 471) hC kc_2 d_Law_law_471 ?_
      refine l_iadd (pc := 472) hC d_Law_law_472 ?_
      refine l_xald (pc := 473) hC d_Law_law_473 h (fun h => ?_)
      refine l_aload_n (pc := 474) hC (i := 0) (x := b) rfl rfl d_Law_law_474 ?_
      refine l_iload_n (pc := 475) hC (i := 3) (x := x3) rfl rfl d_Law_law_475 ?_
      refine l_iconst (pc := 476) hC kc_3 d_Law_law_476 ?_
      refine l_iadd (pc := 477) hC d_Law_law_477 ?_
      refine l_xald (pc := 478) hC d_Law_law_478 h (fun h => ?_)
      obtain ⟨q479, hq479, h⟩ := Option.bind_eq_some_iff.mp h
      refine l_vC (pc := 479) hC hVC (As := [.int (xs (x3 + 1).toNatClampNeg), .int (xs (x3 + 2).toNatClampNeg), .int (xs (x3 + 3).toNatClampNeg)]) (st := []) mt_Co_whisper lk_Law_53 rfl (ob_Co hVC) (Nat.le_of_ble_eq_true rfl) ⟨Nat.le_of_ble_eq_true rfl, Nat.le_of_ble_eq_true rfl⟩ rfl d_Law_law_479 (c_Co_whisper hVC hq479) ?_
      refine l_aload_n (pc := 482) hC (i := 2) (x := (VM.2.2.1 0 0)) rfl rfl d_Law_law_482 ?_
      refine l_aload_n (pc := 483) hC (i := 0) (x := b) rfl rfl d_Law_law_483 ?_
      refine l_iload_n (pc := 484) hC (i := 3) (x := x3) rfl rfl d_Law_law_484 ?_
      refine l_iconst (pc := 485) hC kc_1 d_Law_law_485 ?_
      refine l_iadd (pc := 486) hC d_Law_law_486 ?_
      refine l_xald (pc := 487) hC d_Law_law_487 h (fun h => ?_)
      refine l_aload_n (pc := 488) hC (i := 0) (x := b) rfl rfl d_Law_law_488 ?_
      refine l_iload_n (pc := 489) hC (i := 3) (x := x3) rfl rfl d_Law_law_489 ?_
      refine l_iconst (pc := 490) hC kc_2 d_Law_law_490 ?_
      refine l_iadd (pc := 491) hC d_Law_law_491 ?_
      refine l_xald (pc := 492) hC d_Law_law_492 h (fun h => ?_)
      refine l_aload_n (pc := 493) hC (i := 0) (x := b) rfl rfl d_Law_law_493 ?_
      refine l_iload_n (pc := 494) hC (i := 3) (x := x3) rfl rfl d_Law_law_494 ?_
      refine l_iconst (pc := 495) hC kc_3 d_Law_law_495 ?_
      refine l_iadd (pc := 496) hC d_Law_law_496 ?_
      refine l_xald (pc := 497) hC d_Law_law_497 h (fun h => ?_)
      obtain ⟨q498, hq498, h⟩ := Option.bind_eq_some_iff.mp h
      refine l_vM (pc := 498) hC hVM (As := [.int (xs (x3 + 1).toNatClampNeg), .int (xs (x3 + 2).toNatClampNeg), .int (xs (x3 + 3).toNatClampNeg)]) (st := [.int q479.1]) mt_Mo_whisper lk_Law_57 rfl (ob_Mo hVM) (Nat.le_of_ble_eq_true rfl) ⟨Nat.le_of_ble_eq_true rfl, Nat.le_of_ble_eq_true rfl⟩ rfl d_Law_law_498 (c_Mo_whisper hVM hq498) ?_
      refine l_icmp_eq (pc := 501) hC (tgt := 1399) (by decide) d_Law_law_501 h (fun h => ?_) (fun h => ?_)
      · refine ls_iinc (pc := 1399) hC (i := 3) (x := x3) (v := x3 + 6) rfl (by rw [kc_6]) (by decide) d_Law_law_1399 (lv2 := [some (.ref b), some (.ref (VC.2.2.1 0 0)), some (.ref (VM.2.2.1 0 0)), some (.int (x3 + 6))]) rfl ?_
        refine l_goto (pc := 1402) hC (tgt := 18) (by decide) d_Law_law_1402 ?_
        exact hk18 (x3 + 6) q479.2 q498.2 h
      · refine l_iconst (pc := 504) hC kc_0 d_Law_law_504 ?_
        exact absurd (Option.some.inj h) (by decide)
    rw [if_neg hs33_9] at h
    by_cases hs33_10 : ((xs x3.toNatClampNeg) &&& 63) = 10
    · rw [if_pos hs33_10] at h
      refine l_table (pc := 33) hC (tgt := 506) d_Law_law_33 rfl (by rw [hs33_10]; decide) ?_
      refine l_aload_n (pc := 506) hC (i := 1) (x := (VC.2.2.1 0 0)) rfl rfl d_Law_law_506 ?_
      refine l_aload_n (pc := 507) hC (i := 0) (x := b) rfl rfl d_Law_law_507 ?_
      refine l_iload_n (pc := 508) hC (i := 3) (x := x3) rfl rfl d_Law_law_508 ?_
      refine l_iconst (pc := 509) hC kc_1 d_Law_law_509 ?_
      refine l_iadd (pc := 510) hC d_Law_law_510 ?_
      refine l_xald (pc := 511) hC d_Law_law_511 h (fun h => ?_)
      refine l_aload_n (pc := 512) hC (i := 0) (x := b) rfl rfl d_Law_law_512 ?_
      refine l_iload_n (pc := 513) hC (i := 3) (x := x3) rfl rfl d_Law_law_513 ?_
      refine l_iconst (pc := 514) hC kc_2 d_Law_law_514 ?_
      refine l_iadd (pc := 515) hC d_Law_law_515 ?_
      refine l_xald (pc := 516) hC d_Law_law_516 h (fun h => ?_)
      refine l_aload_n (pc := 517) hC (i := 0) (x := b) rfl rfl d_Law_law_517 ?_
      refine l_iload_n (pc := 518) hC (i := 3) (x := x3) rfl rfl d_Law_law_518 ?_
      refine l_iconst (pc := 519) hC kc_3 d_Law_law_519 ?_
      refine l_iadd (pc := 520) hC d_Law_law_520 ?_
      refine l_xald (pc := 521) hC d_Law_law_521 h (fun h => ?_)
      obtain ⟨q522, hq522, h⟩ := Option.bind_eq_some_iff.mp h
      refine l_vC (pc := 522) hC hVC (As := [.int (xs (x3 + 1).toNatClampNeg), .int (xs (x3 + 2).toNatClampNeg), .int (xs (x3 + 3).toNatClampNeg)]) (st := []) mt_Co_tell lk_Law_58 rfl (ob_Co hVC) (Nat.le_of_ble_eq_true rfl) ⟨Nat.le_of_ble_eq_true rfl, Nat.le_of_ble_eq_true rfl⟩ rfl d_Law_law_522 (c_Co_tell hVC hq522) ?_
      refine l_aload_n (pc := 525) hC (i := 2) (x := (VM.2.2.1 0 0)) rfl rfl d_Law_law_525 ?_
      refine l_aload_n (pc := 526) hC (i := 0) (x := b) rfl rfl d_Law_law_526 ?_
      refine l_iload_n (pc := 527) hC (i := 3) (x := x3) rfl rfl d_Law_law_527 ?_
      refine l_iconst (pc := 528) hC kc_1 d_Law_law_528 ?_
      refine l_iadd (pc := 529) hC d_Law_law_529 ?_
      refine l_xald (pc := 530) hC d_Law_law_530 h (fun h => ?_)
      refine l_aload_n (pc := 531) hC (i := 0) (x := b) rfl rfl d_Law_law_531 ?_
      refine l_iload_n (pc := 532) hC (i := 3) (x := x3) rfl rfl d_Law_law_532 ?_
      refine l_iconst (pc := 533) hC kc_2 d_Law_law_533 ?_
      refine l_iadd (pc := 534) hC d_Law_law_534 ?_
      refine l_xald (pc := 535) hC d_Law_law_535 h (fun h => ?_)
      refine l_aload_n (pc := 536) hC (i := 0) (x := b) rfl rfl d_Law_law_536 ?_
      refine l_iload_n (pc := 537) hC (i := 3) (x := x3) rfl rfl d_Law_law_537 ?_
      refine l_iconst (pc := 538) hC kc_3 d_Law_law_538 ?_
      refine l_iadd (pc := 539) hC d_Law_law_539 ?_
      refine l_xald (pc := 540) hC d_Law_law_540 h (fun h => ?_)
      obtain ⟨q541, hq541, h⟩ := Option.bind_eq_some_iff.mp h
      refine l_vM (pc := 541) hC hVM (As := [.int (xs (x3 + 1).toNatClampNeg), .int (xs (x3 + 2).toNatClampNeg), .int (xs (x3 + 3).toNatClampNeg)]) (st := [.int q522.1]) mt_Mo_tell lk_Law_62 rfl (ob_Mo hVM) (Nat.le_of_ble_eq_true rfl) ⟨Nat.le_of_ble_eq_true rfl, Nat.le_of_ble_eq_true rfl⟩ rfl d_Law_law_541 (c_Mo_tell hVM hq541) ?_
      refine l_icmp_eq (pc := 544) hC (tgt := 1399) (by decide) d_Law_law_544 h (fun h => ?_) (fun h => ?_)
      · refine ls_iinc (pc := 1399) hC (i := 3) (x := x3) (v := x3 + 6) rfl (by rw [kc_6]) (by decide) d_Law_law_1399 (lv2 := [some (.ref b), some (.ref (VC.2.2.1 0 0)), some (.ref (VM.2.2.1 0 0)), some (.int (x3 + 6))]) rfl ?_
        refine l_goto (pc := 1402) hC (tgt := 18) (by decide) d_Law_law_1402 ?_
        exact hk18 (x3 + 6) q522.2 q541.2 h
      · refine l_iconst (pc := 547) hC kc_0 d_Law_law_547 ?_
        exact absurd (Option.some.inj h) (by decide)
    rw [if_neg hs33_10] at h
    by_cases hs33_11 : ((xs x3.toNatClampNeg) &&& 63) = 11
    · rw [if_pos hs33_11] at h
      refine l_table (pc := 33) hC (tgt := 549) d_Law_law_33 rfl (by rw [hs33_11]; decide) ?_
      refine l_aload_n (pc := 549) hC (i := 1) (x := (VC.2.2.1 0 0)) rfl rfl d_Law_law_549 ?_
      refine l_aload_n (pc := 550) hC (i := 0) (x := b) rfl rfl d_Law_law_550 ?_
      refine l_iload_n (pc := 551) hC (i := 3) (x := x3) rfl rfl d_Law_law_551 ?_
      refine l_iconst (pc := 552) hC kc_1 d_Law_law_552 ?_
      refine l_iadd (pc := 553) hC d_Law_law_553 ?_
      refine l_xald (pc := 554) hC d_Law_law_554 h (fun h => ?_)
      refine l_aload_n (pc := 555) hC (i := 0) (x := b) rfl rfl d_Law_law_555 ?_
      refine l_iload_n (pc := 556) hC (i := 3) (x := x3) rfl rfl d_Law_law_556 ?_
      refine l_iconst (pc := 557) hC kc_2 d_Law_law_557 ?_
      refine l_iadd (pc := 558) hC d_Law_law_558 ?_
      refine l_xald (pc := 559) hC d_Law_law_559 h (fun h => ?_)
      refine l_aload_n (pc := 560) hC (i := 0) (x := b) rfl rfl d_Law_law_560 ?_
      refine l_iload_n (pc := 561) hC (i := 3) (x := x3) rfl rfl d_Law_law_561 ?_
      refine l_iconst (pc := 562) hC kc_3 d_Law_law_562 ?_
      refine l_iadd (pc := 563) hC d_Law_law_563 ?_
      refine l_xald (pc := 564) hC d_Law_law_564 h (fun h => ?_)
      obtain ⟨q565, hq565, h⟩ := Option.bind_eq_some_iff.mp h
      refine l_vC (pc := 565) hC hVC (As := [.int (xs (x3 + 1).toNatClampNeg), .int (xs (x3 + 2).toNatClampNeg), .int (xs (x3 + 3).toNatClampNeg)]) (st := []) mt_Co_drill lk_Law_63 rfl (ob_Co hVC) (Nat.le_of_ble_eq_true rfl) ⟨Nat.le_of_ble_eq_true rfl, Nat.le_of_ble_eq_true rfl⟩ rfl d_Law_law_565 (c_Co_drill hVC hq565) ?_
      refine l_aload_n (pc := 568) hC (i := 2) (x := (VM.2.2.1 0 0)) rfl rfl d_Law_law_568 ?_
      refine l_aload_n (pc := 569) hC (i := 0) (x := b) rfl rfl d_Law_law_569 ?_
      refine l_iload_n (pc := 570) hC (i := 3) (x := x3) rfl rfl d_Law_law_570 ?_
      refine l_iconst (pc := 571) hC kc_1 d_Law_law_571 ?_
      refine l_iadd (pc := 572) hC d_Law_law_572 ?_
      refine l_xald (pc := 573) hC d_Law_law_573 h (fun h => ?_)
      refine l_aload_n (pc := 574) hC (i := 0) (x := b) rfl rfl d_Law_law_574 ?_
      refine l_iload_n (pc := 575) hC (i := 3) (x := x3) rfl rfl d_Law_law_575 ?_
      refine l_iconst (pc := 576) hC kc_2 d_Law_law_576 ?_
      refine l_iadd (pc := 577) hC d_Law_law_577 ?_
      refine l_xald (pc := 578) hC d_Law_law_578 h (fun h => ?_)
      refine l_aload_n (pc := 579) hC (i := 0) (x := b) rfl rfl d_Law_law_579 ?_
      refine l_iload_n (pc := 580) hC (i := 3) (x := x3) rfl rfl d_Law_law_580 ?_
      refine l_iconst (pc := 581) hC kc_3 d_Law_law_581 ?_
      refine l_iadd (pc := 582) hC d_Law_law_582 ?_
      refine l_xald (pc := 583) hC d_Law_law_583 h (fun h => ?_)
      obtain ⟨q584, hq584, h⟩ := Option.bind_eq_some_iff.mp h
      refine l_vM (pc := 584) hC hVM (As := [.int (xs (x3 + 1).toNatClampNeg), .int (xs (x3 + 2).toNatClampNeg), .int (xs (x3 + 3).toNatClampNeg)]) (st := [.int q565.1]) mt_Mo_drill lk_Law_66 rfl (ob_Mo hVM) (Nat.le_of_ble_eq_true rfl) ⟨Nat.le_of_ble_eq_true rfl, Nat.le_of_ble_eq_true rfl⟩ rfl d_Law_law_584 (c_Mo_drill hVM hq584) ?_
      refine l_icmp_eq (pc := 587) hC (tgt := 1399) (by decide) d_Law_law_587 h (fun h => ?_) (fun h => ?_)
      · refine ls_iinc (pc := 1399) hC (i := 3) (x := x3) (v := x3 + 6) rfl (by rw [kc_6]) (by decide) d_Law_law_1399 (lv2 := [some (.ref b), some (.ref (VC.2.2.1 0 0)), some (.ref (VM.2.2.1 0 0)), some (.int (x3 + 6))]) rfl ?_
        refine l_goto (pc := 1402) hC (tgt := 18) (by decide) d_Law_law_1402 ?_
        exact hk18 (x3 + 6) q565.2 q584.2 h
      · refine l_iconst (pc := 590) hC kc_0 d_Law_law_590 ?_
        exact absurd (Option.some.inj h) (by decide)
    rw [if_neg hs33_11] at h
    by_cases hs33_12 : ((xs x3.toNatClampNeg) &&& 63) = 12
    · rw [if_pos hs33_12] at h
      refine l_table (pc := 33) hC (tgt := 592) d_Law_law_33 rfl (by rw [hs33_12]; decide) ?_
      refine l_aload_n (pc := 592) hC (i := 1) (x := (VC.2.2.1 0 0)) rfl rfl d_Law_law_592 ?_
      refine l_aload_n (pc := 593) hC (i := 0) (x := b) rfl rfl d_Law_law_593 ?_
      refine l_iload_n (pc := 594) hC (i := 3) (x := x3) rfl rfl d_Law_law_594 ?_
      refine l_iconst (pc := 595) hC kc_1 d_Law_law_595 ?_
      refine l_iadd (pc := 596) hC d_Law_law_596 ?_
      refine l_xald (pc := 597) hC d_Law_law_597 h (fun h => ?_)
      refine l_aload_n (pc := 598) hC (i := 0) (x := b) rfl rfl d_Law_law_598 ?_
      refine l_iload_n (pc := 599) hC (i := 3) (x := x3) rfl rfl d_Law_law_599 ?_
      refine l_iconst (pc := 600) hC kc_2 d_Law_law_600 ?_
      refine l_iadd (pc := 601) hC d_Law_law_601 ?_
      refine l_xald (pc := 602) hC d_Law_law_602 h (fun h => ?_)
      obtain ⟨q603, hq603, h⟩ := Option.bind_eq_some_iff.mp h
      refine l_vC (pc := 603) hC hVC (As := [.int (xs (x3 + 1).toNatClampNeg), .int (xs (x3 + 2).toNatClampNeg)]) (st := []) mt_Co_go lk_Law_67 rfl (ob_Co hVC) (Nat.le_of_ble_eq_true rfl) ⟨Nat.le_of_ble_eq_true rfl, Nat.le_of_ble_eq_true rfl⟩ rfl d_Law_law_603 (c_Co_go hVC hq603) ?_
      refine l_aload_n (pc := 606) hC (i := 2) (x := (VM.2.2.1 0 0)) rfl rfl d_Law_law_606 ?_
      refine l_aload_n (pc := 607) hC (i := 0) (x := b) rfl rfl d_Law_law_607 ?_
      refine l_iload_n (pc := 608) hC (i := 3) (x := x3) rfl rfl d_Law_law_608 ?_
      refine l_iconst (pc := 609) hC kc_1 d_Law_law_609 ?_
      refine l_iadd (pc := 610) hC d_Law_law_610 ?_
      refine l_xald (pc := 611) hC d_Law_law_611 h (fun h => ?_)
      refine l_aload_n (pc := 612) hC (i := 0) (x := b) rfl rfl d_Law_law_612 ?_
      refine l_iload_n (pc := 613) hC (i := 3) (x := x3) rfl rfl d_Law_law_613 ?_
      refine l_iconst (pc := 614) hC kc_2 d_Law_law_614 ?_
      refine l_iadd (pc := 615) hC d_Law_law_615 ?_
      refine l_xald (pc := 616) hC d_Law_law_616 h (fun h => ?_)
      obtain ⟨q617, hq617, h⟩ := Option.bind_eq_some_iff.mp h
      refine l_vM (pc := 617) hC hVM (As := [.int (xs (x3 + 1).toNatClampNeg), .int (xs (x3 + 2).toNatClampNeg)]) (st := [.int q603.1]) mt_Mo_go lk_Law_71 rfl (ob_Mo hVM) (Nat.le_of_ble_eq_true rfl) ⟨Nat.le_of_ble_eq_true rfl, Nat.le_of_ble_eq_true rfl⟩ rfl d_Law_law_617 (c_Mo_go hVM hq617) ?_
      refine l_icmp_eq (pc := 620) hC (tgt := 1399) (by decide) d_Law_law_620 h (fun h => ?_) (fun h => ?_)
      · refine ls_iinc (pc := 1399) hC (i := 3) (x := x3) (v := x3 + 6) rfl (by rw [kc_6]) (by decide) d_Law_law_1399 (lv2 := [some (.ref b), some (.ref (VC.2.2.1 0 0)), some (.ref (VM.2.2.1 0 0)), some (.int (x3 + 6))]) rfl ?_
        refine l_goto (pc := 1402) hC (tgt := 18) (by decide) d_Law_law_1402 ?_
        exact hk18 (x3 + 6) q603.2 q617.2 h
      · refine l_iconst (pc := 623) hC kc_0 d_Law_law_623 ?_
        exact absurd (Option.some.inj h) (by decide)
    rw [if_neg hs33_12] at h
    by_cases hs33_13 : ((xs x3.toNatClampNeg) &&& 63) = 13
    · rw [if_pos hs33_13] at h
      refine l_table (pc := 33) hC (tgt := 625) d_Law_law_33 rfl (by rw [hs33_13]; decide) ?_
      refine l_aload_n (pc := 625) hC (i := 1) (x := (VC.2.2.1 0 0)) rfl rfl d_Law_law_625 ?_
      refine l_aload_n (pc := 626) hC (i := 0) (x := b) rfl rfl d_Law_law_626 ?_
      refine l_iload_n (pc := 627) hC (i := 3) (x := x3) rfl rfl d_Law_law_627 ?_
      refine l_iconst (pc := 628) hC kc_1 d_Law_law_628 ?_
      refine l_iadd (pc := 629) hC d_Law_law_629 ?_
      refine l_xald (pc := 630) hC d_Law_law_630 h (fun h => ?_)
      refine l_aload_n (pc := 631) hC (i := 0) (x := b) rfl rfl d_Law_law_631 ?_
      refine l_iload_n (pc := 632) hC (i := 3) (x := x3) rfl rfl d_Law_law_632 ?_
      refine l_iconst (pc := 633) hC kc_2 d_Law_law_633 ?_
      refine l_iadd (pc := 634) hC d_Law_law_634 ?_
      refine l_xald (pc := 635) hC d_Law_law_635 h (fun h => ?_)
      refine l_if_eq (pc := 636) hC (tgt := 643) (by decide) d_Law_law_636 h (fun h => ?_) (fun h => ?_)
      · refine l_iconst (pc := 643) hC kc_0 d_Law_law_643 ?_
        exact w_Law_law_b644 hVC hVM hC k18 hk18 x3 0 (xs (x3 + 1).toNatClampNeg) SC SM h
      · refine l_iconst (pc := 639) hC kc_1 d_Law_law_639 ?_
        refine l_goto (pc := 640) hC (tgt := 644) (by decide) d_Law_law_640 ?_
        exact w_Law_law_b644 hVC hVM hC k18 hk18 x3 1 (xs (x3 + 1).toNatClampNeg) SC SM h
    rw [if_neg hs33_13] at h
    by_cases hs33_14 : ((xs x3.toNatClampNeg) &&& 63) = 14
    · rw [if_pos hs33_14] at h
      refine l_table (pc := 33) hC (tgt := 674) d_Law_law_33 rfl (by rw [hs33_14]; decide) ?_
      refine l_aload_n (pc := 674) hC (i := 1) (x := (VC.2.2.1 0 0)) rfl rfl d_Law_law_674 ?_
      obtain ⟨q675, hq675, h⟩ := Option.bind_eq_some_iff.mp h
      refine l_vC (pc := 675) hC hVC (As := []) (st := []) mt_Co_undo lk_Law_77 rfl (ob_Co hVC) (Nat.le_of_ble_eq_true rfl) ⟨Nat.le_of_ble_eq_true rfl, Nat.le_of_ble_eq_true rfl⟩ rfl d_Law_law_675 (c_Co_undo hVC hq675) ?_
      refine l_aload_n (pc := 678) hC (i := 2) (x := (VM.2.2.1 0 0)) rfl rfl d_Law_law_678 ?_
      obtain ⟨q679, hq679, h⟩ := Option.bind_eq_some_iff.mp h
      refine l_vM (pc := 679) hC hVM (As := []) (st := [.int q675.1]) mt_Mo_undo lk_Law_81 rfl (ob_Mo hVM) (Nat.le_of_ble_eq_true rfl) ⟨Nat.le_of_ble_eq_true rfl, Nat.le_of_ble_eq_true rfl⟩ rfl d_Law_law_679 (c_Mo_undo hVM hq679) ?_
      refine l_icmp_eq (pc := 682) hC (tgt := 1399) (by decide) d_Law_law_682 h (fun h => ?_) (fun h => ?_)
      · refine ls_iinc (pc := 1399) hC (i := 3) (x := x3) (v := x3 + 6) rfl (by rw [kc_6]) (by decide) d_Law_law_1399 (lv2 := [some (.ref b), some (.ref (VC.2.2.1 0 0)), some (.ref (VM.2.2.1 0 0)), some (.int (x3 + 6))]) rfl ?_
        refine l_goto (pc := 1402) hC (tgt := 18) (by decide) d_Law_law_1402 ?_
        exact hk18 (x3 + 6) q675.2 q679.2 h
      · refine l_iconst (pc := 685) hC kc_0 d_Law_law_685 ?_
        exact absurd (Option.some.inj h) (by decide)
    rw [if_neg hs33_14] at h
    by_cases hs33_15 : ((xs x3.toNatClampNeg) &&& 63) = 15
    · rw [if_pos hs33_15] at h
      refine l_table (pc := 33) hC (tgt := 687) d_Law_law_33 rfl (by rw [hs33_15]; decide) ?_
      refine l_aload_n (pc := 687) hC (i := 1) (x := (VC.2.2.1 0 0)) rfl rfl d_Law_law_687 ?_
      refine l_aload_n (pc := 688) hC (i := 0) (x := b) rfl rfl d_Law_law_688 ?_
      refine l_iload_n (pc := 689) hC (i := 3) (x := x3) rfl rfl d_Law_law_689 ?_
      refine l_iconst (pc := 690) hC kc_1 d_Law_law_690 ?_
      refine l_iadd (pc := 691) hC d_Law_law_691 ?_
      refine l_xald (pc := 692) hC d_Law_law_692 h (fun h => ?_)
      refine l_aload_n (pc := 693) hC (i := 0) (x := b) rfl rfl d_Law_law_693 ?_
      refine l_iload_n (pc := 694) hC (i := 3) (x := x3) rfl rfl d_Law_law_694 ?_
      refine l_iconst (pc := 695) hC kc_2 d_Law_law_695 ?_
      refine l_iadd (pc := 696) hC d_Law_law_696 ?_
      refine l_xald (pc := 697) hC d_Law_law_697 h (fun h => ?_)
      refine l_aload_n (pc := 698) hC (i := 0) (x := b) rfl rfl d_Law_law_698 ?_
      refine l_iload_n (pc := 699) hC (i := 3) (x := x3) rfl rfl d_Law_law_699 ?_
      refine l_iconst (pc := 700) hC kc_3 d_Law_law_700 ?_
      refine l_iadd (pc := 701) hC d_Law_law_701 ?_
      refine l_xald (pc := 702) hC d_Law_law_702 h (fun h => ?_)
      obtain ⟨q703, hq703, h⟩ := Option.bind_eq_some_iff.mp h
      refine l_vC (pc := 703) hC hVC (As := [.int (xs (x3 + 1).toNatClampNeg), .int (xs (x3 + 2).toNatClampNeg), .int (xs (x3 + 3).toNatClampNeg)]) (st := []) mt_Co_wellIn lk_Law_82 rfl (ob_Co hVC) (Nat.le_of_ble_eq_true rfl) ⟨Nat.le_of_ble_eq_true rfl, Nat.le_of_ble_eq_true rfl⟩ rfl d_Law_law_703 (c_Co_wellIn hVC hq703) ?_
      refine l_aload_n (pc := 706) hC (i := 2) (x := (VM.2.2.1 0 0)) rfl rfl d_Law_law_706 ?_
      refine l_aload_n (pc := 707) hC (i := 0) (x := b) rfl rfl d_Law_law_707 ?_
      refine l_iload_n (pc := 708) hC (i := 3) (x := x3) rfl rfl d_Law_law_708 ?_
      refine l_iconst (pc := 709) hC kc_1 d_Law_law_709 ?_
      refine l_iadd (pc := 710) hC d_Law_law_710 ?_
      refine l_xald (pc := 711) hC d_Law_law_711 h (fun h => ?_)
      refine l_aload_n (pc := 712) hC (i := 0) (x := b) rfl rfl d_Law_law_712 ?_
      refine l_iload_n (pc := 713) hC (i := 3) (x := x3) rfl rfl d_Law_law_713 ?_
      refine l_iconst (pc := 714) hC kc_2 d_Law_law_714 ?_
      refine l_iadd (pc := 715) hC d_Law_law_715 ?_
      refine l_xald (pc := 716) hC d_Law_law_716 h (fun h => ?_)
      refine l_aload_n (pc := 717) hC (i := 0) (x := b) rfl rfl d_Law_law_717 ?_
      refine l_iload_n (pc := 718) hC (i := 3) (x := x3) rfl rfl d_Law_law_718 ?_
      refine l_iconst (pc := 719) hC kc_3 d_Law_law_719 ?_
      refine l_iadd (pc := 720) hC d_Law_law_720 ?_
      refine l_xald (pc := 721) hC d_Law_law_721 h (fun h => ?_)
      obtain ⟨q722, hq722, h⟩ := Option.bind_eq_some_iff.mp h
      refine l_vM (pc := 722) hC hVM (As := [.int (xs (x3 + 1).toNatClampNeg), .int (xs (x3 + 2).toNatClampNeg), .int (xs (x3 + 3).toNatClampNeg)]) (st := [.int q703.1]) mt_Mo_wellIn lk_Law_85 rfl (ob_Mo hVM) (Nat.le_of_ble_eq_true rfl) ⟨Nat.le_of_ble_eq_true rfl, Nat.le_of_ble_eq_true rfl⟩ rfl d_Law_law_722 (c_Mo_wellIn hVM hq722) ?_
      refine l_icmp_eq (pc := 725) hC (tgt := 1399) (by decide) d_Law_law_725 h (fun h => ?_) (fun h => ?_)
      · refine ls_iinc (pc := 1399) hC (i := 3) (x := x3) (v := x3 + 6) rfl (by rw [kc_6]) (by decide) d_Law_law_1399 (lv2 := [some (.ref b), some (.ref (VC.2.2.1 0 0)), some (.ref (VM.2.2.1 0 0)), some (.int (x3 + 6))]) rfl ?_
        refine l_goto (pc := 1402) hC (tgt := 18) (by decide) d_Law_law_1402 ?_
        exact hk18 (x3 + 6) q703.2 q722.2 h
      · refine l_iconst (pc := 728) hC kc_0 d_Law_law_728 ?_
        exact absurd (Option.some.inj h) (by decide)
    rw [if_neg hs33_15] at h
    by_cases hs33_16 : ((xs x3.toNatClampNeg) &&& 63) = 16
    · rw [if_pos hs33_16] at h
      refine l_table (pc := 33) hC (tgt := 730) d_Law_law_33 rfl (by rw [hs33_16]; decide) ?_
      refine l_aload_n (pc := 730) hC (i := 1) (x := (VC.2.2.1 0 0)) rfl rfl d_Law_law_730 ?_
      refine l_aload_n (pc := 731) hC (i := 0) (x := b) rfl rfl d_Law_law_731 ?_
      refine l_iload_n (pc := 732) hC (i := 3) (x := x3) rfl rfl d_Law_law_732 ?_
      refine l_iconst (pc := 733) hC kc_1 d_Law_law_733 ?_
      refine l_iadd (pc := 734) hC d_Law_law_734 ?_
      refine l_xald (pc := 735) hC d_Law_law_735 h (fun h => ?_)
      refine l_aload_n (pc := 736) hC (i := 0) (x := b) rfl rfl d_Law_law_736 ?_
      refine l_iload_n (pc := 737) hC (i := 3) (x := x3) rfl rfl d_Law_law_737 ?_
      refine l_iconst (pc := 738) hC kc_2 d_Law_law_738 ?_
      refine l_iadd (pc := 739) hC d_Law_law_739 ?_
      refine l_xald (pc := 740) hC d_Law_law_740 h (fun h => ?_)
      refine l_aload_n (pc := 741) hC (i := 0) (x := b) rfl rfl d_Law_law_741 ?_
      refine l_iload_n (pc := 742) hC (i := 3) (x := x3) rfl rfl d_Law_law_742 ?_
      refine l_iconst (pc := 743) hC kc_3 d_Law_law_743 ?_
      refine l_iadd (pc := 744) hC d_Law_law_744 ?_
      refine l_xald (pc := 745) hC d_Law_law_745 h (fun h => ?_)
      obtain ⟨q746, hq746, h⟩ := Option.bind_eq_some_iff.mp h
      refine l_vC (pc := 746) hC hVC (As := [.int (xs (x3 + 1).toNatClampNeg), .int (xs (x3 + 2).toNatClampNeg), .int (xs (x3 + 3).toNatClampNeg)]) (st := []) mt_Co_manIn lk_Law_86 rfl (ob_Co hVC) (Nat.le_of_ble_eq_true rfl) ⟨Nat.le_of_ble_eq_true rfl, Nat.le_of_ble_eq_true rfl⟩ rfl d_Law_law_746 (c_Co_manIn hVC hq746) ?_
      refine l_aload_n (pc := 749) hC (i := 2) (x := (VM.2.2.1 0 0)) rfl rfl d_Law_law_749 ?_
      refine l_aload_n (pc := 750) hC (i := 0) (x := b) rfl rfl d_Law_law_750 ?_
      refine l_iload_n (pc := 751) hC (i := 3) (x := x3) rfl rfl d_Law_law_751 ?_
      refine l_iconst (pc := 752) hC kc_1 d_Law_law_752 ?_
      refine l_iadd (pc := 753) hC d_Law_law_753 ?_
      refine l_xald (pc := 754) hC d_Law_law_754 h (fun h => ?_)
      refine l_aload_n (pc := 755) hC (i := 0) (x := b) rfl rfl d_Law_law_755 ?_
      refine l_iload_n (pc := 756) hC (i := 3) (x := x3) rfl rfl d_Law_law_756 ?_
      refine l_iconst (pc := 757) hC kc_2 d_Law_law_757 ?_
      refine l_iadd (pc := 758) hC d_Law_law_758 ?_
      refine l_xald (pc := 759) hC d_Law_law_759 h (fun h => ?_)
      refine l_aload_n (pc := 760) hC (i := 0) (x := b) rfl rfl d_Law_law_760 ?_
      refine l_iload_n (pc := 761) hC (i := 3) (x := x3) rfl rfl d_Law_law_761 ?_
      refine l_iconst (pc := 762) hC kc_3 d_Law_law_762 ?_
      refine l_iadd (pc := 763) hC d_Law_law_763 ?_
      refine l_xald (pc := 764) hC d_Law_law_764 h (fun h => ?_)
      obtain ⟨q765, hq765, h⟩ := Option.bind_eq_some_iff.mp h
      refine l_vM (pc := 765) hC hVM (As := [.int (xs (x3 + 1).toNatClampNeg), .int (xs (x3 + 2).toNatClampNeg), .int (xs (x3 + 3).toNatClampNeg)]) (st := [.int q746.1]) mt_Mo_manIn lk_Law_89 rfl (ob_Mo hVM) (Nat.le_of_ble_eq_true rfl) ⟨Nat.le_of_ble_eq_true rfl, Nat.le_of_ble_eq_true rfl⟩ rfl d_Law_law_765 (c_Mo_manIn hVM hq765) ?_
      refine l_icmp_eq (pc := 768) hC (tgt := 1399) (by decide) d_Law_law_768 h (fun h => ?_) (fun h => ?_)
      · refine ls_iinc (pc := 1399) hC (i := 3) (x := x3) (v := x3 + 6) rfl (by rw [kc_6]) (by decide) d_Law_law_1399 (lv2 := [some (.ref b), some (.ref (VC.2.2.1 0 0)), some (.ref (VM.2.2.1 0 0)), some (.int (x3 + 6))]) rfl ?_
        refine l_goto (pc := 1402) hC (tgt := 18) (by decide) d_Law_law_1402 ?_
        exact hk18 (x3 + 6) q746.2 q765.2 h
      · refine l_iconst (pc := 771) hC kc_0 d_Law_law_771 ?_
        exact absurd (Option.some.inj h) (by decide)
    rw [if_neg hs33_16] at h
    by_cases hs33_17 : ((xs x3.toNatClampNeg) &&& 63) = 17
    · rw [if_pos hs33_17] at h
      refine l_table (pc := 33) hC (tgt := 773) d_Law_law_33 rfl (by rw [hs33_17]; decide) ?_
      refine l_aload_n (pc := 773) hC (i := 1) (x := (VC.2.2.1 0 0)) rfl rfl d_Law_law_773 ?_
      refine l_aload_n (pc := 774) hC (i := 0) (x := b) rfl rfl d_Law_law_774 ?_
      refine l_iload_n (pc := 775) hC (i := 3) (x := x3) rfl rfl d_Law_law_775 ?_
      refine l_iconst (pc := 776) hC kc_1 d_Law_law_776 ?_
      refine l_iadd (pc := 777) hC d_Law_law_777 ?_
      refine l_xald (pc := 778) hC d_Law_law_778 h (fun h => ?_)
      obtain ⟨q779, hq779, h⟩ := Option.bind_eq_some_iff.mp h
      refine l_vC (pc := 779) hC hVC (As := [.int (xs (x3 + 1).toNatClampNeg)]) (st := []) mt_Co_dryBy lk_Law_90 rfl (ob_Co hVC) (Nat.le_of_ble_eq_true rfl) ⟨Nat.le_of_ble_eq_true rfl, Nat.le_of_ble_eq_true rfl⟩ rfl d_Law_law_779 (c_Co_dryBy hVC hq779) ?_
      refine l_aload_n (pc := 782) hC (i := 2) (x := (VM.2.2.1 0 0)) rfl rfl d_Law_law_782 ?_
      refine l_aload_n (pc := 783) hC (i := 0) (x := b) rfl rfl d_Law_law_783 ?_
      refine l_iload_n (pc := 784) hC (i := 3) (x := x3) rfl rfl d_Law_law_784 ?_
      refine l_iconst (pc := 785) hC kc_1 d_Law_law_785 ?_
      refine l_iadd (pc := 786) hC d_Law_law_786 ?_
      refine l_xald (pc := 787) hC d_Law_law_787 h (fun h => ?_)
      obtain ⟨q788, hq788, h⟩ := Option.bind_eq_some_iff.mp h
      refine l_vM (pc := 788) hC hVM (As := [.int (xs (x3 + 1).toNatClampNeg)]) (st := [.int q779.1]) mt_Mo_dryBy lk_Law_93 rfl (ob_Mo hVM) (Nat.le_of_ble_eq_true rfl) ⟨Nat.le_of_ble_eq_true rfl, Nat.le_of_ble_eq_true rfl⟩ rfl d_Law_law_788 (c_Mo_dryBy hVM hq788) ?_
      refine l_icmp_eq (pc := 791) hC (tgt := 1399) (by decide) d_Law_law_791 h (fun h => ?_) (fun h => ?_)
      · refine ls_iinc (pc := 1399) hC (i := 3) (x := x3) (v := x3 + 6) rfl (by rw [kc_6]) (by decide) d_Law_law_1399 (lv2 := [some (.ref b), some (.ref (VC.2.2.1 0 0)), some (.ref (VM.2.2.1 0 0)), some (.int (x3 + 6))]) rfl ?_
        refine l_goto (pc := 1402) hC (tgt := 18) (by decide) d_Law_law_1402 ?_
        exact hk18 (x3 + 6) q779.2 q788.2 h
      · refine l_iconst (pc := 794) hC kc_0 d_Law_law_794 ?_
        exact absurd (Option.some.inj h) (by decide)
    rw [if_neg hs33_17] at h
    by_cases hs33_18 : ((xs x3.toNatClampNeg) &&& 63) = 18
    · rw [if_pos hs33_18] at h
      refine l_table (pc := 33) hC (tgt := 796) d_Law_law_33 rfl (by rw [hs33_18]; decide) ?_
      refine l_aload_n (pc := 796) hC (i := 1) (x := (VC.2.2.1 0 0)) rfl rfl d_Law_law_796 ?_
      refine l_aload_n (pc := 797) hC (i := 0) (x := b) rfl rfl d_Law_law_797 ?_
      refine l_iload_n (pc := 798) hC (i := 3) (x := x3) rfl rfl d_Law_law_798 ?_
      refine l_iconst (pc := 799) hC kc_1 d_Law_law_799 ?_
      refine l_iadd (pc := 800) hC d_Law_law_800 ?_
      refine l_xald (pc := 801) hC d_Law_law_801 h (fun h => ?_)
      obtain ⟨q802, hq802, h⟩ := Option.bind_eq_some_iff.mp h
      refine l_vC (pc := 802) hC hVC (As := [.int (xs (x3 + 1).toNatClampNeg)]) (st := []) mt_Co_first lk_Law_94 rfl (ob_Co hVC) (Nat.le_of_ble_eq_true rfl) ⟨Nat.le_of_ble_eq_true rfl, Nat.le_of_ble_eq_true rfl⟩ rfl d_Law_law_802 (c_Co_first hVC hq802) ?_
      refine l_aload_n (pc := 805) hC (i := 2) (x := (VM.2.2.1 0 0)) rfl rfl d_Law_law_805 ?_
      refine l_aload_n (pc := 806) hC (i := 0) (x := b) rfl rfl d_Law_law_806 ?_
      refine l_iload_n (pc := 807) hC (i := 3) (x := x3) rfl rfl d_Law_law_807 ?_
      refine l_iconst (pc := 808) hC kc_1 d_Law_law_808 ?_
      refine l_iadd (pc := 809) hC d_Law_law_809 ?_
      refine l_xald (pc := 810) hC d_Law_law_810 h (fun h => ?_)
      obtain ⟨q811, hq811, h⟩ := Option.bind_eq_some_iff.mp h
      refine l_vM (pc := 811) hC hVM (As := [.int (xs (x3 + 1).toNatClampNeg)]) (st := [.int q802.1]) mt_Mo_first lk_Law_97 rfl (ob_Mo hVM) (Nat.le_of_ble_eq_true rfl) ⟨Nat.le_of_ble_eq_true rfl, Nat.le_of_ble_eq_true rfl⟩ rfl d_Law_law_811 (c_Mo_first hVM hq811) ?_
      refine l_icmp_eq (pc := 814) hC (tgt := 1399) (by decide) d_Law_law_814 h (fun h => ?_) (fun h => ?_)
      · refine ls_iinc (pc := 1399) hC (i := 3) (x := x3) (v := x3 + 6) rfl (by rw [kc_6]) (by decide) d_Law_law_1399 (lv2 := [some (.ref b), some (.ref (VC.2.2.1 0 0)), some (.ref (VM.2.2.1 0 0)), some (.int (x3 + 6))]) rfl ?_
        refine l_goto (pc := 1402) hC (tgt := 18) (by decide) d_Law_law_1402 ?_
        exact hk18 (x3 + 6) q802.2 q811.2 h
      · refine l_iconst (pc := 817) hC kc_0 d_Law_law_817 ?_
        exact absurd (Option.some.inj h) (by decide)
    rw [if_neg hs33_18] at h
    by_cases hs33_19 : ((xs x3.toNatClampNeg) &&& 63) = 19
    · rw [if_pos hs33_19] at h
      refine l_table (pc := 33) hC (tgt := 819) d_Law_law_33 rfl (by rw [hs33_19]; decide) ?_
      refine l_aload_n (pc := 819) hC (i := 1) (x := (VC.2.2.1 0 0)) rfl rfl d_Law_law_819 ?_
      refine l_aload_n (pc := 820) hC (i := 0) (x := b) rfl rfl d_Law_law_820 ?_
      refine l_iload_n (pc := 821) hC (i := 3) (x := x3) rfl rfl d_Law_law_821 ?_
      refine l_iconst (pc := 822) hC kc_1 d_Law_law_822 ?_
      refine l_iadd (pc := 823) hC d_Law_law_823 ?_
      refine l_xald (pc := 824) hC d_Law_law_824 h (fun h => ?_)
      refine l_aload_n (pc := 825) hC (i := 0) (x := b) rfl rfl d_Law_law_825 ?_
      refine l_iload_n (pc := 826) hC (i := 3) (x := x3) rfl rfl d_Law_law_826 ?_
      refine l_iconst (pc := 827) hC kc_2 d_Law_law_827 ?_
      refine l_iadd (pc := 828) hC d_Law_law_828 ?_
      refine l_xald (pc := 829) hC d_Law_law_829 h (fun h => ?_)
      refine l_aload_n (pc := 830) hC (i := 0) (x := b) rfl rfl d_Law_law_830 ?_
      refine l_iload_n (pc := 831) hC (i := 3) (x := x3) rfl rfl d_Law_law_831 ?_
      refine l_iconst (pc := 832) hC kc_3 d_Law_law_832 ?_
      refine l_iadd (pc := 833) hC d_Law_law_833 ?_
      refine l_xald (pc := 834) hC d_Law_law_834 h (fun h => ?_)
      obtain ⟨q835, hq835, h⟩ := Option.bind_eq_some_iff.mp h
      refine l_vC (pc := 835) hC hVC (As := [.int (xs (x3 + 1).toNatClampNeg), .int (xs (x3 + 2).toNatClampNeg), .int (xs (x3 + 3).toNatClampNeg)]) (st := []) mt_Co_rain lk_Law_98 rfl (ob_Co hVC) (Nat.le_of_ble_eq_true rfl) ⟨Nat.le_of_ble_eq_true rfl, Nat.le_of_ble_eq_true rfl⟩ rfl d_Law_law_835 (c_Co_rain hVC hq835) ?_
      refine l_aload_n (pc := 838) hC (i := 2) (x := (VM.2.2.1 0 0)) rfl rfl d_Law_law_838 ?_
      refine l_aload_n (pc := 839) hC (i := 0) (x := b) rfl rfl d_Law_law_839 ?_
      refine l_iload_n (pc := 840) hC (i := 3) (x := x3) rfl rfl d_Law_law_840 ?_
      refine l_iconst (pc := 841) hC kc_1 d_Law_law_841 ?_
      refine l_iadd (pc := 842) hC d_Law_law_842 ?_
      refine l_xald (pc := 843) hC d_Law_law_843 h (fun h => ?_)
      refine l_aload_n (pc := 844) hC (i := 0) (x := b) rfl rfl d_Law_law_844 ?_
      refine l_iload_n (pc := 845) hC (i := 3) (x := x3) rfl rfl d_Law_law_845 ?_
      refine l_iconst (pc := 846) hC kc_2 d_Law_law_846 ?_
      refine l_iadd (pc := 847) hC d_Law_law_847 ?_
      refine l_xald (pc := 848) hC d_Law_law_848 h (fun h => ?_)
      refine l_aload_n (pc := 849) hC (i := 0) (x := b) rfl rfl d_Law_law_849 ?_
      refine l_iload_n (pc := 850) hC (i := 3) (x := x3) rfl rfl d_Law_law_850 ?_
      refine l_iconst (pc := 851) hC kc_3 d_Law_law_851 ?_
      refine l_iadd (pc := 852) hC d_Law_law_852 ?_
      refine l_xald (pc := 853) hC d_Law_law_853 h (fun h => ?_)
      obtain ⟨q854, hq854, h⟩ := Option.bind_eq_some_iff.mp h
      refine l_vM (pc := 854) hC hVM (As := [.int (xs (x3 + 1).toNatClampNeg), .int (xs (x3 + 2).toNatClampNeg), .int (xs (x3 + 3).toNatClampNeg)]) (st := [.int q835.1]) mt_Mo_rain lk_Law_101 rfl (ob_Mo hVM) (Nat.le_of_ble_eq_true rfl) ⟨Nat.le_of_ble_eq_true rfl, Nat.le_of_ble_eq_true rfl⟩ rfl d_Law_law_854 (c_Mo_rain hVM hq854) ?_
      refine l_icmp_eq (pc := 857) hC (tgt := 1399) (by decide) d_Law_law_857 h (fun h => ?_) (fun h => ?_)
      · refine ls_iinc (pc := 1399) hC (i := 3) (x := x3) (v := x3 + 6) rfl (by rw [kc_6]) (by decide) d_Law_law_1399 (lv2 := [some (.ref b), some (.ref (VC.2.2.1 0 0)), some (.ref (VM.2.2.1 0 0)), some (.int (x3 + 6))]) rfl ?_
        refine l_goto (pc := 1402) hC (tgt := 18) (by decide) d_Law_law_1402 ?_
        exact hk18 (x3 + 6) q835.2 q854.2 h
      · refine l_iconst (pc := 860) hC kc_0 d_Law_law_860 ?_
        exact absurd (Option.some.inj h) (by decide)
    rw [if_neg hs33_19] at h
    by_cases hs33_20 : ((xs x3.toNatClampNeg) &&& 63) = 20
    · rw [if_pos hs33_20] at h
      refine l_table (pc := 33) hC (tgt := 862) d_Law_law_33 rfl (by rw [hs33_20]; decide) ?_
      refine l_aload_n (pc := 862) hC (i := 1) (x := (VC.2.2.1 0 0)) rfl rfl d_Law_law_862 ?_
      refine l_aload_n (pc := 863) hC (i := 0) (x := b) rfl rfl d_Law_law_863 ?_
      refine l_iload_n (pc := 864) hC (i := 3) (x := x3) rfl rfl d_Law_law_864 ?_
      refine l_iconst (pc := 865) hC kc_1 d_Law_law_865 ?_
      refine l_iadd (pc := 866) hC d_Law_law_866 ?_
      refine l_xald (pc := 867) hC d_Law_law_867 h (fun h => ?_)
      refine l_aload_n (pc := 868) hC (i := 0) (x := b) rfl rfl d_Law_law_868 ?_
      refine l_iload_n (pc := 869) hC (i := 3) (x := x3) rfl rfl d_Law_law_869 ?_
      refine l_iconst (pc := 870) hC kc_2 d_Law_law_870 ?_
      refine l_iadd (pc := 871) hC d_Law_law_871 ?_
      refine l_xald (pc := 872) hC d_Law_law_872 h (fun h => ?_)
      refine l_aload_n (pc := 873) hC (i := 0) (x := b) rfl rfl d_Law_law_873 ?_
      refine l_iload_n (pc := 874) hC (i := 3) (x := x3) rfl rfl d_Law_law_874 ?_
      refine l_iconst (pc := 875) hC kc_3 d_Law_law_875 ?_
      refine l_iadd (pc := 876) hC d_Law_law_876 ?_
      refine l_xald (pc := 877) hC d_Law_law_877 h (fun h => ?_)
      obtain ⟨q878, hq878, h⟩ := Option.bind_eq_some_iff.mp h
      refine l_vC (pc := 878) hC hVC (As := [.int (xs (x3 + 1).toNatClampNeg), .int (xs (x3 + 2).toNatClampNeg), .int (xs (x3 + 3).toNatClampNeg)]) (st := []) mt_Co_rainAt lk_Law_102 rfl (ob_Co hVC) (Nat.le_of_ble_eq_true rfl) ⟨Nat.le_of_ble_eq_true rfl, Nat.le_of_ble_eq_true rfl⟩ rfl d_Law_law_878 (c_Co_rainAt hVC hq878) ?_
      refine l_aload_n (pc := 881) hC (i := 2) (x := (VM.2.2.1 0 0)) rfl rfl d_Law_law_881 ?_
      refine l_aload_n (pc := 882) hC (i := 0) (x := b) rfl rfl d_Law_law_882 ?_
      refine l_iload_n (pc := 883) hC (i := 3) (x := x3) rfl rfl d_Law_law_883 ?_
      refine l_iconst (pc := 884) hC kc_1 d_Law_law_884 ?_
      refine l_iadd (pc := 885) hC d_Law_law_885 ?_
      refine l_xald (pc := 886) hC d_Law_law_886 h (fun h => ?_)
      refine l_aload_n (pc := 887) hC (i := 0) (x := b) rfl rfl d_Law_law_887 ?_
      refine l_iload_n (pc := 888) hC (i := 3) (x := x3) rfl rfl d_Law_law_888 ?_
      refine l_iconst (pc := 889) hC kc_2 d_Law_law_889 ?_
      refine l_iadd (pc := 890) hC d_Law_law_890 ?_
      refine l_xald (pc := 891) hC d_Law_law_891 h (fun h => ?_)
      refine l_aload_n (pc := 892) hC (i := 0) (x := b) rfl rfl d_Law_law_892 ?_
      refine l_iload_n (pc := 893) hC (i := 3) (x := x3) rfl rfl d_Law_law_893 ?_
      refine l_iconst (pc := 894) hC kc_3 d_Law_law_894 ?_
      refine l_iadd (pc := 895) hC d_Law_law_895 ?_
      refine l_xald (pc := 896) hC d_Law_law_896 h (fun h => ?_)
      obtain ⟨q897, hq897, h⟩ := Option.bind_eq_some_iff.mp h
      refine l_vM (pc := 897) hC hVM (As := [.int (xs (x3 + 1).toNatClampNeg), .int (xs (x3 + 2).toNatClampNeg), .int (xs (x3 + 3).toNatClampNeg)]) (st := [.int q878.1]) mt_Mo_rainAt lk_Law_105 rfl (ob_Mo hVM) (Nat.le_of_ble_eq_true rfl) ⟨Nat.le_of_ble_eq_true rfl, Nat.le_of_ble_eq_true rfl⟩ rfl d_Law_law_897 (c_Mo_rainAt hVM hq897) ?_
      refine l_icmp_eq (pc := 900) hC (tgt := 1399) (by decide) d_Law_law_900 h (fun h => ?_) (fun h => ?_)
      · refine ls_iinc (pc := 1399) hC (i := 3) (x := x3) (v := x3 + 6) rfl (by rw [kc_6]) (by decide) d_Law_law_1399 (lv2 := [some (.ref b), some (.ref (VC.2.2.1 0 0)), some (.ref (VM.2.2.1 0 0)), some (.int (x3 + 6))]) rfl ?_
        refine l_goto (pc := 1402) hC (tgt := 18) (by decide) d_Law_law_1402 ?_
        exact hk18 (x3 + 6) q878.2 q897.2 h
      · refine l_iconst (pc := 903) hC kc_0 d_Law_law_903 ?_
        exact absurd (Option.some.inj h) (by decide)
    rw [if_neg hs33_20] at h
    by_cases hs33_21 : ((xs x3.toNatClampNeg) &&& 63) = 21
    · rw [if_pos hs33_21] at h
      refine l_table (pc := 33) hC (tgt := 905) d_Law_law_33 rfl (by rw [hs33_21]; decide) ?_
      refine l_aload_n (pc := 905) hC (i := 1) (x := (VC.2.2.1 0 0)) rfl rfl d_Law_law_905 ?_
      refine l_aload_n (pc := 906) hC (i := 0) (x := b) rfl rfl d_Law_law_906 ?_
      refine l_iload_n (pc := 907) hC (i := 3) (x := x3) rfl rfl d_Law_law_907 ?_
      refine l_iconst (pc := 908) hC kc_1 d_Law_law_908 ?_
      refine l_iadd (pc := 909) hC d_Law_law_909 ?_
      refine l_xald (pc := 910) hC d_Law_law_910 h (fun h => ?_)
      refine l_aload_n (pc := 911) hC (i := 0) (x := b) rfl rfl d_Law_law_911 ?_
      refine l_iload_n (pc := 912) hC (i := 3) (x := x3) rfl rfl d_Law_law_912 ?_
      refine l_iconst (pc := 913) hC kc_2 d_Law_law_913 ?_
      refine l_iadd (pc := 914) hC d_Law_law_914 ?_
      refine l_xald (pc := 915) hC d_Law_law_915 h (fun h => ?_)
      refine l_aload_n (pc := 916) hC (i := 0) (x := b) rfl rfl d_Law_law_916 ?_
      refine l_iload_n (pc := 917) hC (i := 3) (x := x3) rfl rfl d_Law_law_917 ?_
      refine l_iconst (pc := 918) hC kc_3 d_Law_law_918 ?_
      refine l_iadd (pc := 919) hC d_Law_law_919 ?_
      refine l_xald (pc := 920) hC d_Law_law_920 h (fun h => ?_)
      obtain ⟨q921, hq921, h⟩ := Option.bind_eq_some_iff.mp h
      refine l_vC (pc := 921) hC hVC (As := [.int (xs (x3 + 1).toNatClampNeg), .int (xs (x3 + 2).toNatClampNeg), .int (xs (x3 + 3).toNatClampNeg)]) (st := []) mt_Co_silence lk_Law_106 rfl (ob_Co hVC) (Nat.le_of_ble_eq_true rfl) ⟨Nat.le_of_ble_eq_true rfl, Nat.le_of_ble_eq_true rfl⟩ rfl d_Law_law_921 (c_Co_silence hVC hq921) ?_
      refine l_aload_n (pc := 924) hC (i := 2) (x := (VM.2.2.1 0 0)) rfl rfl d_Law_law_924 ?_
      refine l_aload_n (pc := 925) hC (i := 0) (x := b) rfl rfl d_Law_law_925 ?_
      refine l_iload_n (pc := 926) hC (i := 3) (x := x3) rfl rfl d_Law_law_926 ?_
      refine l_iconst (pc := 927) hC kc_1 d_Law_law_927 ?_
      refine l_iadd (pc := 928) hC d_Law_law_928 ?_
      refine l_xald (pc := 929) hC d_Law_law_929 h (fun h => ?_)
      refine l_aload_n (pc := 930) hC (i := 0) (x := b) rfl rfl d_Law_law_930 ?_
      refine l_iload_n (pc := 931) hC (i := 3) (x := x3) rfl rfl d_Law_law_931 ?_
      refine l_iconst (pc := 932) hC kc_2 d_Law_law_932 ?_
      refine l_iadd (pc := 933) hC d_Law_law_933 ?_
      refine l_xald (pc := 934) hC d_Law_law_934 h (fun h => ?_)
      refine l_aload_n (pc := 935) hC (i := 0) (x := b) rfl rfl d_Law_law_935 ?_
      refine l_iload_n (pc := 936) hC (i := 3) (x := x3) rfl rfl d_Law_law_936 ?_
      refine l_iconst (pc := 937) hC kc_3 d_Law_law_937 ?_
      refine l_iadd (pc := 938) hC d_Law_law_938 ?_
      refine l_xald (pc := 939) hC d_Law_law_939 h (fun h => ?_)
      obtain ⟨q940, hq940, h⟩ := Option.bind_eq_some_iff.mp h
      refine l_vM (pc := 940) hC hVM (As := [.int (xs (x3 + 1).toNatClampNeg), .int (xs (x3 + 2).toNatClampNeg), .int (xs (x3 + 3).toNatClampNeg)]) (st := [.int q921]) mt_Mo_silence lk_Law_109 rfl (ob_Mo hVM) (Nat.le_of_ble_eq_true rfl) ⟨Nat.le_of_ble_eq_true rfl, Nat.le_of_ble_eq_true rfl⟩ rfl d_Law_law_940 (c_Mo_silence hVM hq940) ?_
      refine l_icmp_eq (pc := 943) hC (tgt := 1399) (by decide) d_Law_law_943 h (fun h => ?_) (fun h => ?_)
      · refine ls_iinc (pc := 1399) hC (i := 3) (x := x3) (v := x3 + 6) rfl (by rw [kc_6]) (by decide) d_Law_law_1399 (lv2 := [some (.ref b), some (.ref (VC.2.2.1 0 0)), some (.ref (VM.2.2.1 0 0)), some (.int (x3 + 6))]) rfl ?_
        refine l_goto (pc := 1402) hC (tgt := 18) (by decide) d_Law_law_1402 ?_
        exact hk18 (x3 + 6) SC q940.2 h
      · refine l_iconst (pc := 946) hC kc_0 d_Law_law_946 ?_
        exact absurd (Option.some.inj h) (by decide)
    rw [if_neg hs33_21] at h
    by_cases hs33_22 : ((xs x3.toNatClampNeg) &&& 63) = 22
    · rw [if_pos hs33_22] at h
      refine l_table (pc := 33) hC (tgt := 948) d_Law_law_33 rfl (by rw [hs33_22]; decide) ?_
      refine l_aload_n (pc := 948) hC (i := 1) (x := (VC.2.2.1 0 0)) rfl rfl d_Law_law_948 ?_
      refine l_aload_n (pc := 949) hC (i := 0) (x := b) rfl rfl d_Law_law_949 ?_
      refine l_iload_n (pc := 950) hC (i := 3) (x := x3) rfl rfl d_Law_law_950 ?_
      refine l_iconst (pc := 951) hC kc_1 d_Law_law_951 ?_
      refine l_iadd (pc := 952) hC d_Law_law_952 ?_
      refine l_xald (pc := 953) hC d_Law_law_953 h (fun h => ?_)
      obtain ⟨q954, hq954, h⟩ := Option.bind_eq_some_iff.mp h
      refine l_vC (pc := 954) hC hVC (As := [.int (xs (x3 + 1).toNatClampNeg)]) (st := []) mt_Co_reach lk_Law_110 rfl (ob_Co hVC) (Nat.le_of_ble_eq_true rfl) ⟨Nat.le_of_ble_eq_true rfl, Nat.le_of_ble_eq_true rfl⟩ rfl d_Law_law_954 (c_Co_reach hVC hq954) ?_
      refine l_aload_n (pc := 957) hC (i := 2) (x := (VM.2.2.1 0 0)) rfl rfl d_Law_law_957 ?_
      refine l_aload_n (pc := 958) hC (i := 0) (x := b) rfl rfl d_Law_law_958 ?_
      refine l_iload_n (pc := 959) hC (i := 3) (x := x3) rfl rfl d_Law_law_959 ?_
      refine l_iconst (pc := 960) hC kc_1 d_Law_law_960 ?_
      refine l_iadd (pc := 961) hC d_Law_law_961 ?_
      refine l_xald (pc := 962) hC d_Law_law_962 h (fun h => ?_)
      obtain ⟨q963, hq963, h⟩ := Option.bind_eq_some_iff.mp h
      refine l_vM (pc := 963) hC hVM (As := [.int (xs (x3 + 1).toNatClampNeg)]) (st := [.int q954]) mt_Mo_reach lk_Law_113 rfl (ob_Mo hVM) (Nat.le_of_ble_eq_true rfl) ⟨Nat.le_of_ble_eq_true rfl, Nat.le_of_ble_eq_true rfl⟩ rfl d_Law_law_963 (c_Mo_reach hVM hq963) ?_
      refine l_icmp_eq (pc := 966) hC (tgt := 1399) (by decide) d_Law_law_966 h (fun h => ?_) (fun h => ?_)
      · refine ls_iinc (pc := 1399) hC (i := 3) (x := x3) (v := x3 + 6) rfl (by rw [kc_6]) (by decide) d_Law_law_1399 (lv2 := [some (.ref b), some (.ref (VC.2.2.1 0 0)), some (.ref (VM.2.2.1 0 0)), some (.int (x3 + 6))]) rfl ?_
        refine l_goto (pc := 1402) hC (tgt := 18) (by decide) d_Law_law_1402 ?_
        exact hk18 (x3 + 6) SC q963.2 h
      · refine l_iconst (pc := 969) hC kc_0 d_Law_law_969 ?_
        exact absurd (Option.some.inj h) (by decide)
    rw [if_neg hs33_22] at h
    by_cases hs33_23 : ((xs x3.toNatClampNeg) &&& 63) = 23
    · rw [if_pos hs33_23] at h
      refine l_table (pc := 33) hC (tgt := 971) d_Law_law_33 rfl (by rw [hs33_23]; decide) ?_
      refine l_aload_n (pc := 971) hC (i := 1) (x := (VC.2.2.1 0 0)) rfl rfl d_Law_law_971 ?_
      refine l_aload_n (pc := 972) hC (i := 0) (x := b) rfl rfl d_Law_law_972 ?_
      refine l_iload_n (pc := 973) hC (i := 3) (x := x3) rfl rfl d_Law_law_973 ?_
      refine l_iconst (pc := 974) hC kc_1 d_Law_law_974 ?_
      refine l_iadd (pc := 975) hC d_Law_law_975 ?_
      refine l_xald (pc := 976) hC d_Law_law_976 h (fun h => ?_)
      refine l_aload_n (pc := 977) hC (i := 0) (x := b) rfl rfl d_Law_law_977 ?_
      refine l_iload_n (pc := 978) hC (i := 3) (x := x3) rfl rfl d_Law_law_978 ?_
      refine l_iconst (pc := 979) hC kc_2 d_Law_law_979 ?_
      refine l_iadd (pc := 980) hC d_Law_law_980 ?_
      refine l_xald (pc := 981) hC d_Law_law_981 h (fun h => ?_)
      obtain ⟨q982, hq982, h⟩ := Option.bind_eq_some_iff.mp h
      refine l_vC (pc := 982) hC hVC (As := [.int (xs (x3 + 1).toNatClampNeg), .int (xs (x3 + 2).toNatClampNeg)]) (st := []) mt_Co_holds lk_Law_114 rfl (ob_Co hVC) (Nat.le_of_ble_eq_true rfl) ⟨Nat.le_of_ble_eq_true rfl, Nat.le_of_ble_eq_true rfl⟩ rfl d_Law_law_982 (c_Co_holds hVC hq982) ?_
      refine l_aload_n (pc := 985) hC (i := 2) (x := (VM.2.2.1 0 0)) rfl rfl d_Law_law_985 ?_
      refine l_aload_n (pc := 986) hC (i := 0) (x := b) rfl rfl d_Law_law_986 ?_
      refine l_iload_n (pc := 987) hC (i := 3) (x := x3) rfl rfl d_Law_law_987 ?_
      refine l_iconst (pc := 988) hC kc_1 d_Law_law_988 ?_
      refine l_iadd (pc := 989) hC d_Law_law_989 ?_
      refine l_xald (pc := 990) hC d_Law_law_990 h (fun h => ?_)
      refine l_aload_n (pc := 991) hC (i := 0) (x := b) rfl rfl d_Law_law_991 ?_
      refine l_iload_n (pc := 992) hC (i := 3) (x := x3) rfl rfl d_Law_law_992 ?_
      refine l_iconst (pc := 993) hC kc_2 d_Law_law_993 ?_
      refine l_iadd (pc := 994) hC d_Law_law_994 ?_
      refine l_xald (pc := 995) hC d_Law_law_995 h (fun h => ?_)
      obtain ⟨q996, hq996, h⟩ := Option.bind_eq_some_iff.mp h
      refine l_vM (pc := 996) hC hVM (As := [.int (xs (x3 + 1).toNatClampNeg), .int (xs (x3 + 2).toNatClampNeg)]) (st := [.int q982]) mt_Mo_holds lk_Law_117 rfl (ob_Mo hVM) (Nat.le_of_ble_eq_true rfl) ⟨Nat.le_of_ble_eq_true rfl, Nat.le_of_ble_eq_true rfl⟩ rfl d_Law_law_996 (c_Mo_holds hVM hq996) ?_
      refine l_icmp_eq (pc := 999) hC (tgt := 1399) (by decide) d_Law_law_999 h (fun h => ?_) (fun h => ?_)
      · refine ls_iinc (pc := 1399) hC (i := 3) (x := x3) (v := x3 + 6) rfl (by rw [kc_6]) (by decide) d_Law_law_1399 (lv2 := [some (.ref b), some (.ref (VC.2.2.1 0 0)), some (.ref (VM.2.2.1 0 0)), some (.int (x3 + 6))]) rfl ?_
        refine l_goto (pc := 1402) hC (tgt := 18) (by decide) d_Law_law_1402 ?_
        exact hk18 (x3 + 6) SC q996.2 h
      · refine l_iconst (pc := 1002) hC kc_0 d_Law_law_1002 ?_
        exact absurd (Option.some.inj h) (by decide)
    rw [if_neg hs33_23] at h
    by_cases hs33_24 : ((xs x3.toNatClampNeg) &&& 63) = 24
    · rw [if_pos hs33_24] at h
      refine l_table (pc := 33) hC (tgt := 1004) d_Law_law_33 rfl (by rw [hs33_24]; decide) ?_
      refine l_aload_n (pc := 1004) hC (i := 1) (x := (VC.2.2.1 0 0)) rfl rfl d_Law_law_1004 ?_
      obtain ⟨q1005, hq1005, h⟩ := Option.bind_eq_some_iff.mp h
      refine l_vC (pc := 1005) hC hVC (As := []) (st := []) mt_Co_rings lk_Law_118 rfl (ob_Co hVC) (Nat.le_of_ble_eq_true rfl) ⟨Nat.le_of_ble_eq_true rfl, Nat.le_of_ble_eq_true rfl⟩ rfl d_Law_law_1005 (c_Co_rings hVC hq1005) ?_
      refine l_aload_n (pc := 1008) hC (i := 2) (x := (VM.2.2.1 0 0)) rfl rfl d_Law_law_1008 ?_
      obtain ⟨q1009, hq1009, h⟩ := Option.bind_eq_some_iff.mp h
      refine l_vM (pc := 1009) hC hVM (As := []) (st := [.int q1005]) mt_Mo_rings lk_Law_121 rfl (ob_Mo hVM) (Nat.le_of_ble_eq_true rfl) ⟨Nat.le_of_ble_eq_true rfl, Nat.le_of_ble_eq_true rfl⟩ rfl d_Law_law_1009 (c_Mo_rings hVM hq1009) ?_
      refine l_icmp_eq (pc := 1012) hC (tgt := 1399) (by decide) d_Law_law_1012 h (fun h => ?_) (fun h => ?_)
      · refine ls_iinc (pc := 1399) hC (i := 3) (x := x3) (v := x3 + 6) rfl (by rw [kc_6]) (by decide) d_Law_law_1399 (lv2 := [some (.ref b), some (.ref (VC.2.2.1 0 0)), some (.ref (VM.2.2.1 0 0)), some (.int (x3 + 6))]) rfl ?_
        refine l_goto (pc := 1402) hC (tgt := 18) (by decide) d_Law_law_1402 ?_
        exact hk18 (x3 + 6) SC q1009.2 h
      · refine l_iconst (pc := 1015) hC kc_0 d_Law_law_1015 ?_
        exact absurd (Option.some.inj h) (by decide)
    rw [if_neg hs33_24] at h
    by_cases hs33_25 : ((xs x3.toNatClampNeg) &&& 63) = 25
    · rw [if_pos hs33_25] at h
      refine l_table (pc := 33) hC (tgt := 1017) d_Law_law_33 rfl (by rw [hs33_25]; decide) ?_
      refine l_aload_n (pc := 1017) hC (i := 1) (x := (VC.2.2.1 0 0)) rfl rfl d_Law_law_1017 ?_
      refine l_aload_n (pc := 1018) hC (i := 0) (x := b) rfl rfl d_Law_law_1018 ?_
      refine l_iload_n (pc := 1019) hC (i := 3) (x := x3) rfl rfl d_Law_law_1019 ?_
      refine l_iconst (pc := 1020) hC kc_1 d_Law_law_1020 ?_
      refine l_iadd (pc := 1021) hC d_Law_law_1021 ?_
      refine l_xald (pc := 1022) hC d_Law_law_1022 h (fun h => ?_)
      refine l_aload_n (pc := 1023) hC (i := 0) (x := b) rfl rfl d_Law_law_1023 ?_
      refine l_iload_n (pc := 1024) hC (i := 3) (x := x3) rfl rfl d_Law_law_1024 ?_
      refine l_iconst (pc := 1025) hC kc_2 d_Law_law_1025 ?_
      refine l_iadd (pc := 1026) hC d_Law_law_1026 ?_
      refine l_xald (pc := 1027) hC d_Law_law_1027 h (fun h => ?_)
      obtain ⟨q1028, hq1028, h⟩ := Option.bind_eq_some_iff.mp h
      refine l_vC (pc := 1028) hC hVC (As := [.int (xs (x3 + 1).toNatClampNeg), .int (xs (x3 + 2).toNatClampNeg)]) (st := []) mt_Co_quiet lk_Law_122 rfl (ob_Co hVC) (Nat.le_of_ble_eq_true rfl) ⟨Nat.le_of_ble_eq_true rfl, Nat.le_of_ble_eq_true rfl⟩ rfl d_Law_law_1028 (c_Co_quiet hVC hq1028) ?_
      refine l_aload_n (pc := 1031) hC (i := 2) (x := (VM.2.2.1 0 0)) rfl rfl d_Law_law_1031 ?_
      refine l_aload_n (pc := 1032) hC (i := 0) (x := b) rfl rfl d_Law_law_1032 ?_
      refine l_iload_n (pc := 1033) hC (i := 3) (x := x3) rfl rfl d_Law_law_1033 ?_
      refine l_iconst (pc := 1034) hC kc_1 d_Law_law_1034 ?_
      refine l_iadd (pc := 1035) hC d_Law_law_1035 ?_
      refine l_xald (pc := 1036) hC d_Law_law_1036 h (fun h => ?_)
      refine l_aload_n (pc := 1037) hC (i := 0) (x := b) rfl rfl d_Law_law_1037 ?_
      refine l_iload_n (pc := 1038) hC (i := 3) (x := x3) rfl rfl d_Law_law_1038 ?_
      refine l_iconst (pc := 1039) hC kc_2 d_Law_law_1039 ?_
      refine l_iadd (pc := 1040) hC d_Law_law_1040 ?_
      refine l_xald (pc := 1041) hC d_Law_law_1041 h (fun h => ?_)
      obtain ⟨q1042, hq1042, h⟩ := Option.bind_eq_some_iff.mp h
      refine l_vM (pc := 1042) hC hVM (As := [.int (xs (x3 + 1).toNatClampNeg), .int (xs (x3 + 2).toNatClampNeg)]) (st := [.int q1028.1]) mt_Mo_quiet lk_Law_125 rfl (ob_Mo hVM) (Nat.le_of_ble_eq_true rfl) ⟨Nat.le_of_ble_eq_true rfl, Nat.le_of_ble_eq_true rfl⟩ rfl d_Law_law_1042 (c_Mo_quiet hVM hq1042) ?_
      refine l_icmp_eq (pc := 1045) hC (tgt := 1399) (by decide) d_Law_law_1045 h (fun h => ?_) (fun h => ?_)
      · refine ls_iinc (pc := 1399) hC (i := 3) (x := x3) (v := x3 + 6) rfl (by rw [kc_6]) (by decide) d_Law_law_1399 (lv2 := [some (.ref b), some (.ref (VC.2.2.1 0 0)), some (.ref (VM.2.2.1 0 0)), some (.int (x3 + 6))]) rfl ?_
        refine l_goto (pc := 1402) hC (tgt := 18) (by decide) d_Law_law_1402 ?_
        exact hk18 (x3 + 6) q1028.2 q1042.2 h
      · refine l_iconst (pc := 1048) hC kc_0 d_Law_law_1048 ?_
        exact absurd (Option.some.inj h) (by decide)
    rw [if_neg hs33_25] at h
    by_cases hs33_26 : ((xs x3.toNatClampNeg) &&& 63) = 26
    · rw [if_pos hs33_26] at h
      refine l_table (pc := 33) hC (tgt := 1050) d_Law_law_33 rfl (by rw [hs33_26]; decide) ?_
      refine l_aload_n (pc := 1050) hC (i := 1) (x := (VC.2.2.1 0 0)) rfl rfl d_Law_law_1050 ?_
      refine l_aload_n (pc := 1051) hC (i := 0) (x := b) rfl rfl d_Law_law_1051 ?_
      refine l_iload_n (pc := 1052) hC (i := 3) (x := x3) rfl rfl d_Law_law_1052 ?_
      refine l_iconst (pc := 1053) hC kc_1 d_Law_law_1053 ?_
      refine l_iadd (pc := 1054) hC d_Law_law_1054 ?_
      refine l_xald (pc := 1055) hC d_Law_law_1055 h (fun h => ?_)
      refine l_aload_n (pc := 1056) hC (i := 0) (x := b) rfl rfl d_Law_law_1056 ?_
      refine l_iload_n (pc := 1057) hC (i := 3) (x := x3) rfl rfl d_Law_law_1057 ?_
      refine l_iconst (pc := 1058) hC kc_2 d_Law_law_1058 ?_
      refine l_iadd (pc := 1059) hC d_Law_law_1059 ?_
      refine l_xald (pc := 1060) hC d_Law_law_1060 h (fun h => ?_)
      refine l_aload_n (pc := 1061) hC (i := 0) (x := b) rfl rfl d_Law_law_1061 ?_
      refine l_iload_n (pc := 1062) hC (i := 3) (x := x3) rfl rfl d_Law_law_1062 ?_
      refine l_iconst (pc := 1063) hC kc_3 d_Law_law_1063 ?_
      refine l_iadd (pc := 1064) hC d_Law_law_1064 ?_
      refine l_xald (pc := 1065) hC d_Law_law_1065 h (fun h => ?_)
      refine l_aload_n (pc := 1066) hC (i := 0) (x := b) rfl rfl d_Law_law_1066 ?_
      refine l_iload_n (pc := 1067) hC (i := 3) (x := x3) rfl rfl d_Law_law_1067 ?_
      refine l_iconst (pc := 1068) hC kc_4 d_Law_law_1068 ?_
      refine l_iadd (pc := 1069) hC d_Law_law_1069 ?_
      refine l_xald (pc := 1070) hC d_Law_law_1070 h (fun h => ?_)
      obtain ⟨q1071, hq1071, h⟩ := Option.bind_eq_some_iff.mp h
      refine l_vC (pc := 1071) hC hVC (As := [.int (xs (x3 + 1).toNatClampNeg), .int (xs (x3 + 2).toNatClampNeg), .int (xs (x3 + 3).toNatClampNeg), .int (xs (x3 + 4).toNatClampNeg)]) (st := []) mt_Co_odds lk_Law_126 rfl (ob_Co hVC) (Nat.le_of_ble_eq_true rfl) ⟨Nat.le_of_ble_eq_true rfl, Nat.le_of_ble_eq_true rfl⟩ rfl d_Law_law_1071 (c_Co_odds hVC hq1071) ?_
      refine l_aload_n (pc := 1074) hC (i := 2) (x := (VM.2.2.1 0 0)) rfl rfl d_Law_law_1074 ?_
      refine l_aload_n (pc := 1075) hC (i := 0) (x := b) rfl rfl d_Law_law_1075 ?_
      refine l_iload_n (pc := 1076) hC (i := 3) (x := x3) rfl rfl d_Law_law_1076 ?_
      refine l_iconst (pc := 1077) hC kc_1 d_Law_law_1077 ?_
      refine l_iadd (pc := 1078) hC d_Law_law_1078 ?_
      refine l_xald (pc := 1079) hC d_Law_law_1079 h (fun h => ?_)
      refine l_aload_n (pc := 1080) hC (i := 0) (x := b) rfl rfl d_Law_law_1080 ?_
      refine l_iload_n (pc := 1081) hC (i := 3) (x := x3) rfl rfl d_Law_law_1081 ?_
      refine l_iconst (pc := 1082) hC kc_2 d_Law_law_1082 ?_
      refine l_iadd (pc := 1083) hC d_Law_law_1083 ?_
      refine l_xald (pc := 1084) hC d_Law_law_1084 h (fun h => ?_)
      refine l_aload_n (pc := 1085) hC (i := 0) (x := b) rfl rfl d_Law_law_1085 ?_
      refine l_iload_n (pc := 1086) hC (i := 3) (x := x3) rfl rfl d_Law_law_1086 ?_
      refine l_iconst (pc := 1087) hC kc_3 d_Law_law_1087 ?_
      refine l_iadd (pc := 1088) hC d_Law_law_1088 ?_
      refine l_xald (pc := 1089) hC d_Law_law_1089 h (fun h => ?_)
      refine l_aload_n (pc := 1090) hC (i := 0) (x := b) rfl rfl d_Law_law_1090 ?_
      refine l_iload_n (pc := 1091) hC (i := 3) (x := x3) rfl rfl d_Law_law_1091 ?_
      refine l_iconst (pc := 1092) hC kc_4 d_Law_law_1092 ?_
      refine l_iadd (pc := 1093) hC d_Law_law_1093 ?_
      refine l_xald (pc := 1094) hC d_Law_law_1094 h (fun h => ?_)
      obtain ⟨q1095, hq1095, h⟩ := Option.bind_eq_some_iff.mp h
      refine l_vM (pc := 1095) hC hVM (As := [.int (xs (x3 + 1).toNatClampNeg), .int (xs (x3 + 2).toNatClampNeg), .int (xs (x3 + 3).toNatClampNeg), .int (xs (x3 + 4).toNatClampNeg)]) (st := [.int q1071.1]) mt_Mo_odds lk_Law_130 rfl (ob_Mo hVM) (Nat.le_of_ble_eq_true rfl) ⟨Nat.le_of_ble_eq_true rfl, Nat.le_of_ble_eq_true rfl⟩ rfl d_Law_law_1095 (c_Mo_odds hVM hq1095) ?_
      refine l_icmp_eq (pc := 1098) hC (tgt := 1399) (by decide) d_Law_law_1098 h (fun h => ?_) (fun h => ?_)
      · refine ls_iinc (pc := 1399) hC (i := 3) (x := x3) (v := x3 + 6) rfl (by rw [kc_6]) (by decide) d_Law_law_1399 (lv2 := [some (.ref b), some (.ref (VC.2.2.1 0 0)), some (.ref (VM.2.2.1 0 0)), some (.int (x3 + 6))]) rfl ?_
        refine l_goto (pc := 1402) hC (tgt := 18) (by decide) d_Law_law_1402 ?_
        exact hk18 (x3 + 6) q1071.2 q1095.2 h
      · refine l_iconst (pc := 1101) hC kc_0 d_Law_law_1101 ?_
        exact absurd (Option.some.inj h) (by decide)
    rw [if_neg hs33_26] at h
    by_cases hs33_27 : ((xs x3.toNatClampNeg) &&& 63) = 27
    · rw [if_pos hs33_27] at h
      refine l_table (pc := 33) hC (tgt := 1103) d_Law_law_33 rfl (by rw [hs33_27]; decide) ?_
      refine l_aload_n (pc := 1103) hC (i := 1) (x := (VC.2.2.1 0 0)) rfl rfl d_Law_law_1103 ?_
      refine l_aload_n (pc := 1104) hC (i := 0) (x := b) rfl rfl d_Law_law_1104 ?_
      refine l_iload_n (pc := 1105) hC (i := 3) (x := x3) rfl rfl d_Law_law_1105 ?_
      refine l_iconst (pc := 1106) hC kc_1 d_Law_law_1106 ?_
      refine l_iadd (pc := 1107) hC d_Law_law_1107 ?_
      refine l_xald (pc := 1108) hC d_Law_law_1108 h (fun h => ?_)
      refine l_aload_n (pc := 1109) hC (i := 0) (x := b) rfl rfl d_Law_law_1109 ?_
      refine l_iload_n (pc := 1110) hC (i := 3) (x := x3) rfl rfl d_Law_law_1110 ?_
      refine l_iconst (pc := 1111) hC kc_2 d_Law_law_1111 ?_
      refine l_iadd (pc := 1112) hC d_Law_law_1112 ?_
      refine l_xald (pc := 1113) hC d_Law_law_1113 h (fun h => ?_)
      obtain ⟨q1114, hq1114, h⟩ := Option.bind_eq_some_iff.mp h
      refine l_vC (pc := 1114) hC hVC (As := [.int (xs (x3 + 1).toNatClampNeg), .int (xs (x3 + 2).toNatClampNeg)]) (st := []) mt_Co_deaths lk_Law_131 rfl (ob_Co hVC) (Nat.le_of_ble_eq_true rfl) ⟨Nat.le_of_ble_eq_true rfl, Nat.le_of_ble_eq_true rfl⟩ rfl d_Law_law_1114 (c_Co_deaths hVC hq1114) ?_
      refine l_aload_n (pc := 1117) hC (i := 2) (x := (VM.2.2.1 0 0)) rfl rfl d_Law_law_1117 ?_
      refine l_aload_n (pc := 1118) hC (i := 0) (x := b) rfl rfl d_Law_law_1118 ?_
      refine l_iload_n (pc := 1119) hC (i := 3) (x := x3) rfl rfl d_Law_law_1119 ?_
      refine l_iconst (pc := 1120) hC kc_1 d_Law_law_1120 ?_
      refine l_iadd (pc := 1121) hC d_Law_law_1121 ?_
      refine l_xald (pc := 1122) hC d_Law_law_1122 h (fun h => ?_)
      refine l_aload_n (pc := 1123) hC (i := 0) (x := b) rfl rfl d_Law_law_1123 ?_
      refine l_iload_n (pc := 1124) hC (i := 3) (x := x3) rfl rfl d_Law_law_1124 ?_
      refine l_iconst (pc := 1125) hC kc_2 d_Law_law_1125 ?_
      refine l_iadd (pc := 1126) hC d_Law_law_1126 ?_
      refine l_xald (pc := 1127) hC d_Law_law_1127 h (fun h => ?_)
      obtain ⟨q1128, hq1128, h⟩ := Option.bind_eq_some_iff.mp h
      refine l_vM (pc := 1128) hC hVM (As := [.int (xs (x3 + 1).toNatClampNeg), .int (xs (x3 + 2).toNatClampNeg)]) (st := [.int q1114.1]) mt_Mo_deaths lk_Law_134 rfl (ob_Mo hVM) (Nat.le_of_ble_eq_true rfl) ⟨Nat.le_of_ble_eq_true rfl, Nat.le_of_ble_eq_true rfl⟩ rfl d_Law_law_1128 (c_Mo_deaths hVM hq1128) ?_
      refine l_icmp_eq (pc := 1131) hC (tgt := 1399) (by decide) d_Law_law_1131 h (fun h => ?_) (fun h => ?_)
      · refine ls_iinc (pc := 1399) hC (i := 3) (x := x3) (v := x3 + 6) rfl (by rw [kc_6]) (by decide) d_Law_law_1399 (lv2 := [some (.ref b), some (.ref (VC.2.2.1 0 0)), some (.ref (VM.2.2.1 0 0)), some (.int (x3 + 6))]) rfl ?_
        refine l_goto (pc := 1402) hC (tgt := 18) (by decide) d_Law_law_1402 ?_
        exact hk18 (x3 + 6) q1114.2 q1128.2 h
      · refine l_iconst (pc := 1134) hC kc_0 d_Law_law_1134 ?_
        exact absurd (Option.some.inj h) (by decide)
    rw [if_neg hs33_27] at h
    by_cases hs33_28 : ((xs x3.toNatClampNeg) &&& 63) = 28
    · rw [if_pos hs33_28] at h
      refine l_table (pc := 33) hC (tgt := 1136) d_Law_law_33 rfl (by rw [hs33_28]; decide) ?_
      refine l_aload_n (pc := 1136) hC (i := 1) (x := (VC.2.2.1 0 0)) rfl rfl d_Law_law_1136 ?_
      refine l_aload_n (pc := 1137) hC (i := 0) (x := b) rfl rfl d_Law_law_1137 ?_
      refine l_iload_n (pc := 1138) hC (i := 3) (x := x3) rfl rfl d_Law_law_1138 ?_
      refine l_iconst (pc := 1139) hC kc_1 d_Law_law_1139 ?_
      refine l_iadd (pc := 1140) hC d_Law_law_1140 ?_
      refine l_xald (pc := 1141) hC d_Law_law_1141 h (fun h => ?_)
      obtain ⟨q1142, hq1142, h⟩ := Option.bind_eq_some_iff.mp h
      refine l_vC (pc := 1142) hC hVC (As := [.int (xs (x3 + 1).toNatClampNeg)]) (st := []) mt_Co_worth lk_Law_135 rfl (ob_Co hVC) (Nat.le_of_ble_eq_true rfl) ⟨Nat.le_of_ble_eq_true rfl, Nat.le_of_ble_eq_true rfl⟩ rfl d_Law_law_1142 (c_Co_worth hVC hq1142) ?_
      refine l_aload_n (pc := 1145) hC (i := 2) (x := (VM.2.2.1 0 0)) rfl rfl d_Law_law_1145 ?_
      refine l_aload_n (pc := 1146) hC (i := 0) (x := b) rfl rfl d_Law_law_1146 ?_
      refine l_iload_n (pc := 1147) hC (i := 3) (x := x3) rfl rfl d_Law_law_1147 ?_
      refine l_iconst (pc := 1148) hC kc_1 d_Law_law_1148 ?_
      refine l_iadd (pc := 1149) hC d_Law_law_1149 ?_
      refine l_xald (pc := 1150) hC d_Law_law_1150 h (fun h => ?_)
      obtain ⟨q1151, hq1151, h⟩ := Option.bind_eq_some_iff.mp h
      refine l_vM (pc := 1151) hC hVM (As := [.int (xs (x3 + 1).toNatClampNeg)]) (st := [.int q1142]) mt_Mo_worth lk_Law_138 rfl (ob_Mo hVM) (Nat.le_of_ble_eq_true rfl) ⟨Nat.le_of_ble_eq_true rfl, Nat.le_of_ble_eq_true rfl⟩ rfl d_Law_law_1151 (c_Mo_worth hVM hq1151) ?_
      refine l_icmp_eq (pc := 1154) hC (tgt := 1399) (by decide) d_Law_law_1154 h (fun h => ?_) (fun h => ?_)
      · refine ls_iinc (pc := 1399) hC (i := 3) (x := x3) (v := x3 + 6) rfl (by rw [kc_6]) (by decide) d_Law_law_1399 (lv2 := [some (.ref b), some (.ref (VC.2.2.1 0 0)), some (.ref (VM.2.2.1 0 0)), some (.int (x3 + 6))]) rfl ?_
        refine l_goto (pc := 1402) hC (tgt := 18) (by decide) d_Law_law_1402 ?_
        exact hk18 (x3 + 6) SC q1151.2 h
      · refine l_iconst (pc := 1157) hC kc_0 d_Law_law_1157 ?_
        exact absurd (Option.some.inj h) (by decide)
    rw [if_neg hs33_28] at h
    by_cases hs33_29 : ((xs x3.toNatClampNeg) &&& 63) = 29
    · rw [if_pos hs33_29] at h
      refine l_table (pc := 33) hC (tgt := 1159) d_Law_law_33 rfl (by rw [hs33_29]; decide) ?_
      refine l_aload_n (pc := 1159) hC (i := 1) (x := (VC.2.2.1 0 0)) rfl rfl d_Law_law_1159 ?_
      refine l_aload_n (pc := 1160) hC (i := 0) (x := b) rfl rfl d_Law_law_1160 ?_
      refine l_iload_n (pc := 1161) hC (i := 3) (x := x3) rfl rfl d_Law_law_1161 ?_
      refine l_iconst (pc := 1162) hC kc_1 d_Law_law_1162 ?_
      refine l_iadd (pc := 1163) hC d_Law_law_1163 ?_
      refine l_xald (pc := 1164) hC d_Law_law_1164 h (fun h => ?_)
      refine l_aload_n (pc := 1165) hC (i := 0) (x := b) rfl rfl d_Law_law_1165 ?_
      refine l_iload_n (pc := 1166) hC (i := 3) (x := x3) rfl rfl d_Law_law_1166 ?_
      refine l_iconst (pc := 1167) hC kc_2 d_Law_law_1167 ?_
      refine l_iadd (pc := 1168) hC d_Law_law_1168 ?_
      refine l_xald (pc := 1169) hC d_Law_law_1169 h (fun h => ?_)
      refine l_aload_n (pc := 1170) hC (i := 0) (x := b) rfl rfl d_Law_law_1170 ?_
      refine l_iload_n (pc := 1171) hC (i := 3) (x := x3) rfl rfl d_Law_law_1171 ?_
      refine l_iconst (pc := 1172) hC kc_3 d_Law_law_1172 ?_
      refine l_iadd (pc := 1173) hC d_Law_law_1173 ?_
      refine l_xald (pc := 1174) hC d_Law_law_1174 h (fun h => ?_)
      obtain ⟨q1175, hq1175, h⟩ := Option.bind_eq_some_iff.mp h
      refine l_vC (pc := 1175) hC hVC (As := [.int (xs (x3 + 1).toNatClampNeg), .int (xs (x3 + 2).toNatClampNeg), .int (xs (x3 + 3).toNatClampNeg)]) (st := []) mt_Co_note lk_Law_139 rfl (ob_Co hVC) (Nat.le_of_ble_eq_true rfl) ⟨Nat.le_of_ble_eq_true rfl, Nat.le_of_ble_eq_true rfl⟩ rfl d_Law_law_1175 (c_Co_note hVC hq1175) ?_
      refine l_aload_n (pc := 1178) hC (i := 2) (x := (VM.2.2.1 0 0)) rfl rfl d_Law_law_1178 ?_
      refine l_aload_n (pc := 1179) hC (i := 0) (x := b) rfl rfl d_Law_law_1179 ?_
      refine l_iload_n (pc := 1180) hC (i := 3) (x := x3) rfl rfl d_Law_law_1180 ?_
      refine l_iconst (pc := 1181) hC kc_1 d_Law_law_1181 ?_
      refine l_iadd (pc := 1182) hC d_Law_law_1182 ?_
      refine l_xald (pc := 1183) hC d_Law_law_1183 h (fun h => ?_)
      refine l_aload_n (pc := 1184) hC (i := 0) (x := b) rfl rfl d_Law_law_1184 ?_
      refine l_iload_n (pc := 1185) hC (i := 3) (x := x3) rfl rfl d_Law_law_1185 ?_
      refine l_iconst (pc := 1186) hC kc_2 d_Law_law_1186 ?_
      refine l_iadd (pc := 1187) hC d_Law_law_1187 ?_
      refine l_xald (pc := 1188) hC d_Law_law_1188 h (fun h => ?_)
      refine l_aload_n (pc := 1189) hC (i := 0) (x := b) rfl rfl d_Law_law_1189 ?_
      refine l_iload_n (pc := 1190) hC (i := 3) (x := x3) rfl rfl d_Law_law_1190 ?_
      refine l_iconst (pc := 1191) hC kc_3 d_Law_law_1191 ?_
      refine l_iadd (pc := 1192) hC d_Law_law_1192 ?_
      refine l_xald (pc := 1193) hC d_Law_law_1193 h (fun h => ?_)
      obtain ⟨q1194, hq1194, h⟩ := Option.bind_eq_some_iff.mp h
      refine l_vM (pc := 1194) hC hVM (As := [.int (xs (x3 + 1).toNatClampNeg), .int (xs (x3 + 2).toNatClampNeg), .int (xs (x3 + 3).toNatClampNeg)]) (st := [.int q1175.1]) mt_Mo_note lk_Law_142 rfl (ob_Mo hVM) (Nat.le_of_ble_eq_true rfl) ⟨Nat.le_of_ble_eq_true rfl, Nat.le_of_ble_eq_true rfl⟩ rfl d_Law_law_1194 (c_Mo_note hVM hq1194) ?_
      refine l_icmp_eq (pc := 1197) hC (tgt := 1399) (by decide) d_Law_law_1197 h (fun h => ?_) (fun h => ?_)
      · refine ls_iinc (pc := 1399) hC (i := 3) (x := x3) (v := x3 + 6) rfl (by rw [kc_6]) (by decide) d_Law_law_1399 (lv2 := [some (.ref b), some (.ref (VC.2.2.1 0 0)), some (.ref (VM.2.2.1 0 0)), some (.int (x3 + 6))]) rfl ?_
        refine l_goto (pc := 1402) hC (tgt := 18) (by decide) d_Law_law_1402 ?_
        exact hk18 (x3 + 6) q1175.2 q1194.2 h
      · refine l_iconst (pc := 1200) hC kc_0 d_Law_law_1200 ?_
        exact absurd (Option.some.inj h) (by decide)
    rw [if_neg hs33_29] at h
    by_cases hs33_30 : ((xs x3.toNatClampNeg) &&& 63) = 30
    · rw [if_pos hs33_30] at h
      refine l_table (pc := 33) hC (tgt := 1202) d_Law_law_33 rfl (by rw [hs33_30]; decide) ?_
      refine l_aload_n (pc := 1202) hC (i := 1) (x := (VC.2.2.1 0 0)) rfl rfl d_Law_law_1202 ?_
      obtain ⟨q1203, hq1203, h⟩ := Option.bind_eq_some_iff.mp h
      refine l_vC (pc := 1203) hC hVC (As := []) (st := []) mt_Co_forget lk_Law_143 rfl (ob_Co hVC) (Nat.le_of_ble_eq_true rfl) ⟨Nat.le_of_ble_eq_true rfl, Nat.le_of_ble_eq_true rfl⟩ rfl d_Law_law_1203 (c_Co_forget hVC hq1203) ?_
      refine l_aload_n (pc := 1206) hC (i := 2) (x := (VM.2.2.1 0 0)) rfl rfl d_Law_law_1206 ?_
      obtain ⟨q1207, hq1207, h⟩ := Option.bind_eq_some_iff.mp h
      refine l_vM (pc := 1207) hC hVM (As := []) (st := [.int q1203.1]) mt_Mo_forget lk_Law_146 rfl (ob_Mo hVM) (Nat.le_of_ble_eq_true rfl) ⟨Nat.le_of_ble_eq_true rfl, Nat.le_of_ble_eq_true rfl⟩ rfl d_Law_law_1207 (c_Mo_forget hVM hq1207) ?_
      refine l_icmp_eq (pc := 1210) hC (tgt := 1399) (by decide) d_Law_law_1210 h (fun h => ?_) (fun h => ?_)
      · refine ls_iinc (pc := 1399) hC (i := 3) (x := x3) (v := x3 + 6) rfl (by rw [kc_6]) (by decide) d_Law_law_1399 (lv2 := [some (.ref b), some (.ref (VC.2.2.1 0 0)), some (.ref (VM.2.2.1 0 0)), some (.int (x3 + 6))]) rfl ?_
        refine l_goto (pc := 1402) hC (tgt := 18) (by decide) d_Law_law_1402 ?_
        exact hk18 (x3 + 6) q1203.2 q1207.2 h
      · refine l_iconst (pc := 1213) hC kc_0 d_Law_law_1213 ?_
        exact absurd (Option.some.inj h) (by decide)
    rw [if_neg hs33_30] at h
    by_cases hs33_31 : ((xs x3.toNatClampNeg) &&& 63) = 31
    · rw [if_pos hs33_31] at h
      refine l_table (pc := 33) hC (tgt := 1215) d_Law_law_33 rfl (by rw [hs33_31]; decide) ?_
      refine l_aload_n (pc := 1215) hC (i := 1) (x := (VC.2.2.1 0 0)) rfl rfl d_Law_law_1215 ?_
      refine l_aload_n (pc := 1216) hC (i := 0) (x := b) rfl rfl d_Law_law_1216 ?_
      refine l_iload_n (pc := 1217) hC (i := 3) (x := x3) rfl rfl d_Law_law_1217 ?_
      refine l_iconst (pc := 1218) hC kc_1 d_Law_law_1218 ?_
      refine l_iadd (pc := 1219) hC d_Law_law_1219 ?_
      refine l_xald (pc := 1220) hC d_Law_law_1220 h (fun h => ?_)
      refine l_aload_n (pc := 1221) hC (i := 0) (x := b) rfl rfl d_Law_law_1221 ?_
      refine l_iload_n (pc := 1222) hC (i := 3) (x := x3) rfl rfl d_Law_law_1222 ?_
      refine l_iconst (pc := 1223) hC kc_2 d_Law_law_1223 ?_
      refine l_iadd (pc := 1224) hC d_Law_law_1224 ?_
      refine l_xald (pc := 1225) hC d_Law_law_1225 h (fun h => ?_)
      obtain ⟨q1226, hq1226, h⟩ := Option.bind_eq_some_iff.mp h
      refine l_vC (pc := 1226) hC hVC (As := [.int (xs (x3 + 1).toNatClampNeg), .int (xs (x3 + 2).toNatClampNeg)]) (st := []) mt_Co_truth lk_Law_147 rfl (ob_Co hVC) (Nat.le_of_ble_eq_true rfl) ⟨Nat.le_of_ble_eq_true rfl, Nat.le_of_ble_eq_true rfl⟩ rfl d_Law_law_1226 (c_Co_truth hVC hq1226) ?_
      refine l_aload_n (pc := 1229) hC (i := 2) (x := (VM.2.2.1 0 0)) rfl rfl d_Law_law_1229 ?_
      refine l_aload_n (pc := 1230) hC (i := 0) (x := b) rfl rfl d_Law_law_1230 ?_
      refine l_iload_n (pc := 1231) hC (i := 3) (x := x3) rfl rfl d_Law_law_1231 ?_
      refine l_iconst (pc := 1232) hC kc_1 d_Law_law_1232 ?_
      refine l_iadd (pc := 1233) hC d_Law_law_1233 ?_
      refine l_xald (pc := 1234) hC d_Law_law_1234 h (fun h => ?_)
      refine l_aload_n (pc := 1235) hC (i := 0) (x := b) rfl rfl d_Law_law_1235 ?_
      refine l_iload_n (pc := 1236) hC (i := 3) (x := x3) rfl rfl d_Law_law_1236 ?_
      refine l_iconst (pc := 1237) hC kc_2 d_Law_law_1237 ?_
      refine l_iadd (pc := 1238) hC d_Law_law_1238 ?_
      refine l_xald (pc := 1239) hC d_Law_law_1239 h (fun h => ?_)
      obtain ⟨q1240, hq1240, h⟩ := Option.bind_eq_some_iff.mp h
      refine l_vM (pc := 1240) hC hVM (As := [.int (xs (x3 + 1).toNatClampNeg), .int (xs (x3 + 2).toNatClampNeg)]) (st := [.int q1226]) mt_Mo_truth lk_Law_150 rfl (ob_Mo hVM) (Nat.le_of_ble_eq_true rfl) ⟨Nat.le_of_ble_eq_true rfl, Nat.le_of_ble_eq_true rfl⟩ rfl d_Law_law_1240 (c_Mo_truth hVM hq1240) ?_
      refine l_icmp_eq (pc := 1243) hC (tgt := 1399) (by decide) d_Law_law_1243 h (fun h => ?_) (fun h => ?_)
      · refine ls_iinc (pc := 1399) hC (i := 3) (x := x3) (v := x3 + 6) rfl (by rw [kc_6]) (by decide) d_Law_law_1399 (lv2 := [some (.ref b), some (.ref (VC.2.2.1 0 0)), some (.ref (VM.2.2.1 0 0)), some (.int (x3 + 6))]) rfl ?_
        refine l_goto (pc := 1402) hC (tgt := 18) (by decide) d_Law_law_1402 ?_
        exact hk18 (x3 + 6) SC SM h
      · refine l_iconst (pc := 1246) hC kc_0 d_Law_law_1246 ?_
        exact absurd (Option.some.inj h) (by decide)
    rw [if_neg hs33_31] at h
    by_cases hs33_32 : ((xs x3.toNatClampNeg) &&& 63) = 32
    · rw [if_pos hs33_32] at h
      refine l_table (pc := 33) hC (tgt := 1248) d_Law_law_33 rfl (by rw [hs33_32]; decide) ?_
      refine l_aload_n (pc := 1248) hC (i := 1) (x := (VC.2.2.1 0 0)) rfl rfl d_Law_law_1248 ?_
      refine l_aload_n (pc := 1249) hC (i := 0) (x := b) rfl rfl d_Law_law_1249 ?_
      refine l_iload_n (pc := 1250) hC (i := 3) (x := x3) rfl rfl d_Law_law_1250 ?_
      refine l_iconst (pc := 1251) hC kc_1 d_Law_law_1251 ?_
      refine l_iadd (pc := 1252) hC d_Law_law_1252 ?_
      refine l_xald (pc := 1253) hC d_Law_law_1253 h (fun h => ?_)
      refine l_aload_n (pc := 1254) hC (i := 0) (x := b) rfl rfl d_Law_law_1254 ?_
      refine l_iload_n (pc := 1255) hC (i := 3) (x := x3) rfl rfl d_Law_law_1255 ?_
      refine l_iconst (pc := 1256) hC kc_2 d_Law_law_1256 ?_
      refine l_iadd (pc := 1257) hC d_Law_law_1257 ?_
      refine l_xald (pc := 1258) hC d_Law_law_1258 h (fun h => ?_)
      refine l_if_eq (pc := 1259) hC (tgt := 1266) (by decide) d_Law_law_1259 h (fun h => ?_) (fun h => ?_)
      · refine l_iconst (pc := 1266) hC kc_0 d_Law_law_1266 ?_
        exact w_Law_law_b1267 hVC hVM hC k18 hk18 x3 0 (xs (x3 + 1).toNatClampNeg) SC SM h
      · refine l_iconst (pc := 1262) hC kc_1 d_Law_law_1262 ?_
        refine l_goto (pc := 1263) hC (tgt := 1267) (by decide) d_Law_law_1263 ?_
        exact w_Law_law_b1267 hVC hVM hC k18 hk18 x3 1 (xs (x3 + 1).toNatClampNeg) SC SM h
    rw [if_neg hs33_32] at h
    by_cases hs33_33 : ((xs x3.toNatClampNeg) &&& 63) = 33
    · rw [if_pos hs33_33] at h
      refine l_table (pc := 33) hC (tgt := 1297) d_Law_law_33 rfl (by rw [hs33_33]; decide) ?_
      refine l_aload_n (pc := 1297) hC (i := 1) (x := (VC.2.2.1 0 0)) rfl rfl d_Law_law_1297 ?_
      refine l_aload_n (pc := 1298) hC (i := 0) (x := b) rfl rfl d_Law_law_1298 ?_
      refine l_iload_n (pc := 1299) hC (i := 3) (x := x3) rfl rfl d_Law_law_1299 ?_
      refine l_iconst (pc := 1300) hC kc_1 d_Law_law_1300 ?_
      refine l_iadd (pc := 1301) hC d_Law_law_1301 ?_
      refine l_xald (pc := 1302) hC d_Law_law_1302 h (fun h => ?_)
      refine l_aload_n (pc := 1303) hC (i := 0) (x := b) rfl rfl d_Law_law_1303 ?_
      refine l_iload_n (pc := 1304) hC (i := 3) (x := x3) rfl rfl d_Law_law_1304 ?_
      refine l_iconst (pc := 1305) hC kc_2 d_Law_law_1305 ?_
      refine l_iadd (pc := 1306) hC d_Law_law_1306 ?_
      refine l_xald (pc := 1307) hC d_Law_law_1307 h (fun h => ?_)
      obtain ⟨q1308, hq1308, h⟩ := Option.bind_eq_some_iff.mp h
      refine l_vC (pc := 1308) hC hVC (As := [.int (xs (x3 + 1).toNatClampNeg), .int (xs (x3 + 2).toNatClampNeg)]) (st := []) mt_Co_next lk_Law_156 rfl (ob_Co hVC) (Nat.le_of_ble_eq_true rfl) ⟨Nat.le_of_ble_eq_true rfl, Nat.le_of_ble_eq_true rfl⟩ rfl d_Law_law_1308 (c_Co_next hVC hq1308) ?_
      refine l_aload_n (pc := 1311) hC (i := 2) (x := (VM.2.2.1 0 0)) rfl rfl d_Law_law_1311 ?_
      refine l_aload_n (pc := 1312) hC (i := 0) (x := b) rfl rfl d_Law_law_1312 ?_
      refine l_iload_n (pc := 1313) hC (i := 3) (x := x3) rfl rfl d_Law_law_1313 ?_
      refine l_iconst (pc := 1314) hC kc_1 d_Law_law_1314 ?_
      refine l_iadd (pc := 1315) hC d_Law_law_1315 ?_
      refine l_xald (pc := 1316) hC d_Law_law_1316 h (fun h => ?_)
      refine l_aload_n (pc := 1317) hC (i := 0) (x := b) rfl rfl d_Law_law_1317 ?_
      refine l_iload_n (pc := 1318) hC (i := 3) (x := x3) rfl rfl d_Law_law_1318 ?_
      refine l_iconst (pc := 1319) hC kc_2 d_Law_law_1319 ?_
      refine l_iadd (pc := 1320) hC d_Law_law_1320 ?_
      refine l_xald (pc := 1321) hC d_Law_law_1321 h (fun h => ?_)
      obtain ⟨q1322, hq1322, h⟩ := Option.bind_eq_some_iff.mp h
      refine l_vM (pc := 1322) hC hVM (As := [.int (xs (x3 + 1).toNatClampNeg), .int (xs (x3 + 2).toNatClampNeg)]) (st := [.int q1308.1]) mt_Mo_next lk_Law_159 rfl (ob_Mo hVM) (Nat.le_of_ble_eq_true rfl) ⟨Nat.le_of_ble_eq_true rfl, Nat.le_of_ble_eq_true rfl⟩ rfl d_Law_law_1322 (c_Mo_next hVM hq1322) ?_
      refine l_icmp_eq (pc := 1325) hC (tgt := 1399) (by decide) d_Law_law_1325 h (fun h => ?_) (fun h => ?_)
      · refine ls_iinc (pc := 1399) hC (i := 3) (x := x3) (v := x3 + 6) rfl (by rw [kc_6]) (by decide) d_Law_law_1399 (lv2 := [some (.ref b), some (.ref (VC.2.2.1 0 0)), some (.ref (VM.2.2.1 0 0)), some (.int (x3 + 6))]) rfl ?_
        refine l_goto (pc := 1402) hC (tgt := 18) (by decide) d_Law_law_1402 ?_
        exact hk18 (x3 + 6) q1308.2 SM h
      · refine l_iconst (pc := 1328) hC kc_0 d_Law_law_1328 ?_
        exact absurd (Option.some.inj h) (by decide)
    rw [if_neg hs33_33] at h
    by_cases hs33_34 : ((xs x3.toNatClampNeg) &&& 63) = 34
    · rw [if_pos hs33_34] at h
      refine l_table (pc := 33) hC (tgt := 1330) d_Law_law_33 rfl (by rw [hs33_34]; decide) ?_
      refine l_aload_n (pc := 1330) hC (i := 1) (x := (VC.2.2.1 0 0)) rfl rfl d_Law_law_1330 ?_
      refine l_aload_n (pc := 1331) hC (i := 0) (x := b) rfl rfl d_Law_law_1331 ?_
      refine l_iload_n (pc := 1332) hC (i := 3) (x := x3) rfl rfl d_Law_law_1332 ?_
      refine l_iconst (pc := 1333) hC kc_1 d_Law_law_1333 ?_
      refine l_iadd (pc := 1334) hC d_Law_law_1334 ?_
      refine l_xald (pc := 1335) hC d_Law_law_1335 h (fun h => ?_)
      obtain ⟨q1336, hq1336, h⟩ := Option.bind_eq_some_iff.mp h
      refine l_vC (pc := 1336) hC hVC (As := [.int (xs (x3 + 1).toNatClampNeg)]) (st := []) mt_Co_hold lk_Law_160 rfl (ob_Co hVC) (Nat.le_of_ble_eq_true rfl) ⟨Nat.le_of_ble_eq_true rfl, Nat.le_of_ble_eq_true rfl⟩ rfl d_Law_law_1336 (c_Co_hold hVC hq1336) ?_
      refine l_aload_n (pc := 1339) hC (i := 2) (x := (VM.2.2.1 0 0)) rfl rfl d_Law_law_1339 ?_
      refine l_aload_n (pc := 1340) hC (i := 0) (x := b) rfl rfl d_Law_law_1340 ?_
      refine l_iload_n (pc := 1341) hC (i := 3) (x := x3) rfl rfl d_Law_law_1341 ?_
      refine l_iconst (pc := 1342) hC kc_1 d_Law_law_1342 ?_
      refine l_iadd (pc := 1343) hC d_Law_law_1343 ?_
      refine l_xald (pc := 1344) hC d_Law_law_1344 h (fun h => ?_)
      obtain ⟨q1345, hq1345, h⟩ := Option.bind_eq_some_iff.mp h
      refine l_vM (pc := 1345) hC hVM (As := [.int (xs (x3 + 1).toNatClampNeg)]) (st := [.int q1336.1]) mt_Mo_hold lk_Law_164 rfl (ob_Mo hVM) (Nat.le_of_ble_eq_true rfl) ⟨Nat.le_of_ble_eq_true rfl, Nat.le_of_ble_eq_true rfl⟩ rfl d_Law_law_1345 (c_Mo_hold hVM hq1345) ?_
      refine l_icmp_eq (pc := 1348) hC (tgt := 1399) (by decide) d_Law_law_1348 h (fun h => ?_) (fun h => ?_)
      · refine ls_iinc (pc := 1399) hC (i := 3) (x := x3) (v := x3 + 6) rfl (by rw [kc_6]) (by decide) d_Law_law_1399 (lv2 := [some (.ref b), some (.ref (VC.2.2.1 0 0)), some (.ref (VM.2.2.1 0 0)), some (.int (x3 + 6))]) rfl ?_
        refine l_goto (pc := 1402) hC (tgt := 18) (by decide) d_Law_law_1402 ?_
        exact hk18 (x3 + 6) q1336.2 q1345.2 h
      · refine l_iconst (pc := 1351) hC kc_0 d_Law_law_1351 ?_
        exact absurd (Option.some.inj h) (by decide)
    rw [if_neg hs33_34] at h
    by_cases hs33_35 : ((xs x3.toNatClampNeg) &&& 63) = 35
    · rw [if_pos hs33_35] at h
      refine l_table (pc := 33) hC (tgt := 1353) d_Law_law_33 rfl (by rw [hs33_35]; decide) ?_
      refine l_aload_n (pc := 1353) hC (i := 1) (x := (VC.2.2.1 0 0)) rfl rfl d_Law_law_1353 ?_
      refine l_aload_n (pc := 1354) hC (i := 0) (x := b) rfl rfl d_Law_law_1354 ?_
      refine l_iload_n (pc := 1355) hC (i := 3) (x := x3) rfl rfl d_Law_law_1355 ?_
      refine l_iconst (pc := 1356) hC kc_1 d_Law_law_1356 ?_
      refine l_iadd (pc := 1357) hC d_Law_law_1357 ?_
      refine l_xald (pc := 1358) hC d_Law_law_1358 h (fun h => ?_)
      obtain ⟨q1359, hq1359, h⟩ := Option.bind_eq_some_iff.mp h
      refine l_vC (pc := 1359) hC hVC (As := [.int (xs (x3 + 1).toNatClampNeg)]) (st := []) mt_Co_restore lk_Law_165 rfl (ob_Co hVC) (Nat.le_of_ble_eq_true rfl) ⟨Nat.le_of_ble_eq_true rfl, Nat.le_of_ble_eq_true rfl⟩ rfl d_Law_law_1359 (c_Co_restore hVC hq1359) ?_
      refine l_aload_n (pc := 1362) hC (i := 2) (x := (VM.2.2.1 0 0)) rfl rfl d_Law_law_1362 ?_
      refine l_aload_n (pc := 1363) hC (i := 0) (x := b) rfl rfl d_Law_law_1363 ?_
      refine l_iload_n (pc := 1364) hC (i := 3) (x := x3) rfl rfl d_Law_law_1364 ?_
      refine l_iconst (pc := 1365) hC kc_1 d_Law_law_1365 ?_
      refine l_iadd (pc := 1366) hC d_Law_law_1366 ?_
      refine l_xald (pc := 1367) hC d_Law_law_1367 h (fun h => ?_)
      obtain ⟨q1368, hq1368, h⟩ := Option.bind_eq_some_iff.mp h
      refine l_vM (pc := 1368) hC hVM (As := [.int (xs (x3 + 1).toNatClampNeg)]) (st := [.int q1359.1]) mt_Mo_restore lk_Law_168 rfl (ob_Mo hVM) (Nat.le_of_ble_eq_true rfl) ⟨Nat.le_of_ble_eq_true rfl, Nat.le_of_ble_eq_true rfl⟩ rfl d_Law_law_1368 (c_Mo_restore hVM hq1368) ?_
      refine l_icmp_eq (pc := 1371) hC (tgt := 1399) (by decide) d_Law_law_1371 h (fun h => ?_) (fun h => ?_)
      · refine ls_iinc (pc := 1399) hC (i := 3) (x := x3) (v := x3 + 6) rfl (by rw [kc_6]) (by decide) d_Law_law_1399 (lv2 := [some (.ref b), some (.ref (VC.2.2.1 0 0)), some (.ref (VM.2.2.1 0 0)), some (.int (x3 + 6))]) rfl ?_
        refine l_goto (pc := 1402) hC (tgt := 18) (by decide) d_Law_law_1402 ?_
        exact hk18 (x3 + 6) q1359.2 q1368.2 h
      · refine l_iconst (pc := 1374) hC kc_0 d_Law_law_1374 ?_
        exact absurd (Option.some.inj h) (by decide)
    rw [if_neg hs33_35] at h
    by_cases hs33_36 : ((xs x3.toNatClampNeg) &&& 63) = 36
    · rw [if_pos hs33_36] at h
      refine l_table (pc := 33) hC (tgt := 1376) d_Law_law_33 rfl (by rw [hs33_36]; decide) ?_
      refine l_aload_n (pc := 1376) hC (i := 1) (x := (VC.2.2.1 0 0)) rfl rfl d_Law_law_1376 ?_
      refine l_aload_n (pc := 1377) hC (i := 0) (x := b) rfl rfl d_Law_law_1377 ?_
      refine l_iload_n (pc := 1378) hC (i := 3) (x := x3) rfl rfl d_Law_law_1378 ?_
      refine l_iconst (pc := 1379) hC kc_1 d_Law_law_1379 ?_
      refine l_iadd (pc := 1380) hC d_Law_law_1380 ?_
      refine l_xald (pc := 1381) hC d_Law_law_1381 h (fun h => ?_)
      obtain ⟨q1382, hq1382, h⟩ := Option.bind_eq_some_iff.mp h
      refine l_vC (pc := 1382) hC hVC (As := [.int (xs (x3 + 1).toNatClampNeg)]) (st := []) mt_Co_count lk_Law_169 rfl (ob_Co hVC) (Nat.le_of_ble_eq_true rfl) ⟨Nat.le_of_ble_eq_true rfl, Nat.le_of_ble_eq_true rfl⟩ rfl d_Law_law_1382 (c_Co_count hVC hq1382) ?_
      refine l_aload_n (pc := 1385) hC (i := 2) (x := (VM.2.2.1 0 0)) rfl rfl d_Law_law_1385 ?_
      refine l_aload_n (pc := 1386) hC (i := 0) (x := b) rfl rfl d_Law_law_1386 ?_
      refine l_iload_n (pc := 1387) hC (i := 3) (x := x3) rfl rfl d_Law_law_1387 ?_
      refine l_iconst (pc := 1388) hC kc_1 d_Law_law_1388 ?_
      refine l_iadd (pc := 1389) hC d_Law_law_1389 ?_
      refine l_xald (pc := 1390) hC d_Law_law_1390 h (fun h => ?_)
      obtain ⟨q1391, hq1391, h⟩ := Option.bind_eq_some_iff.mp h
      refine l_vM (pc := 1391) hC hVM (As := [.int (xs (x3 + 1).toNatClampNeg)]) (st := [.int q1382]) mt_Mo_count lk_Law_172 rfl (ob_Mo hVM) (Nat.le_of_ble_eq_true rfl) ⟨Nat.le_of_ble_eq_true rfl, Nat.le_of_ble_eq_true rfl⟩ rfl d_Law_law_1391 (c_Mo_count hVM hq1391) ?_
      refine l_icmp_eq (pc := 1394) hC (tgt := 1399) (by decide) d_Law_law_1394 h (fun h => ?_) (fun h => ?_)
      · refine ls_iinc (pc := 1399) hC (i := 3) (x := x3) (v := x3 + 6) rfl (by rw [kc_6]) (by decide) d_Law_law_1399 (lv2 := [some (.ref b), some (.ref (VC.2.2.1 0 0)), some (.ref (VM.2.2.1 0 0)), some (.int (x3 + 6))]) rfl ?_
        refine l_goto (pc := 1402) hC (tgt := 18) (by decide) d_Law_law_1402 ?_
        exact hk18 (x3 + 6) SC SM h
      · refine l_iconst (pc := 1397) hC kc_0 d_Law_law_1397 ?_
        exact absurd (Option.some.inj h) (by decide)
    rw [if_neg hs33_36] at h
    refine l_table (pc := 33) hC (tgt := 1399) d_Law_law_33 rfl ((sw_else [(0 : Int32), (1 : Int32), (2 : Int32), (3 : Int32), (4 : Int32), (5 : Int32), (6 : Int32), (7 : Int32), (8 : Int32), (9 : Int32), (10 : Int32), (11 : Int32), (12 : Int32), (13 : Int32), (14 : Int32), (15 : Int32), (16 : Int32), (17 : Int32), (18 : Int32), (19 : Int32), (20 : Int32), (21 : Int32), (22 : Int32), (23 : Int32), (24 : Int32), (25 : Int32), (26 : Int32), (27 : Int32), (28 : Int32), (29 : Int32), (30 : Int32), (31 : Int32), (32 : Int32), (33 : Int32), (34 : Int32), (35 : Int32), (36 : Int32)] (by intro v hv; simp only [List.mem_cons, List.not_mem_nil, or_false] at hv; rcases hv with rfl | rfl | rfl | rfl | rfl | rfl | rfl | rfl | rfl | rfl | rfl | rfl | rfl | rfl | rfl | rfl | rfl | rfl | rfl | rfl | rfl | rfl | rfl | rfl | rfl | rfl | rfl | rfl | rfl | rfl | rfl | rfl | rfl | rfl | rfl | rfl | rfl <;> assumption) (by decide)).trans (by decide)) ?_
    refine ls_iinc (pc := 1399) hC (i := 3) (x := x3) (v := x3 + 6) rfl (by rw [kc_6]) (by decide) d_Law_law_1399 (lv2 := [some (.ref b), some (.ref (VC.2.2.1 0 0)), some (.ref (VM.2.2.1 0 0)), some (.int (x3 + 6))]) rfl ?_
    refine l_goto (pc := 1402) hC (tgt := 18) (by decide) d_Law_law_1402 ?_
    exact hk18 (x3 + 6) SC SM h
theorem w_Law_law_l18 {X : CX} {VC VM : WV} {b L : Nat} {xs : Nat → Int32} (hVC : IsC VC) (hVM : IsM VM) (hC : CkL X VC VM b L xs) : ∀ (n : Nat) (x3 : Int32) (SC SM : Mem), f_Law_law_l18 L xs n x3 SC SM = some 1 → GL X VC VM 18 [some (.ref b), some (.ref (VC.2.2.1 0 0)), some (.ref (VM.2.2.1 0 0)), some (.int x3)] [] SC SM := by
  intro n
  induction n with
  | zero =>
    intro x3 SC SM h
    have h : (none : Option Int32) = some 1 := h
    cases h
  | succ n ih =>
    intro x3 SC SM h
    exact w_Law_law_b18 hVC hVM hC (f_Law_law_l18 L xs n) ih x3 SC SM h
