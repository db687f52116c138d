/-! BOTH: who gains by keeping quiet, on. -/
theorem sum_ins {f : Nat → Int32} {x : Int32} {s0 : Nat} (hx : bt x s0 = false) : ∀ n, s0 < n → n ≤ 31 → sumF (fun s => if bt (x ||| bitM s0) s = true then f s else 0) n = sumF (fun s => if bt x s = true then f s else 0) n + f s0
  | 0, h, _ => by omega
  | n + 1, h, hn => by
    simp only [sumF]
    by_cases q : s0 = n
    · subst q
      rw [sumF_c (g := fun s => if bt x s = true then f s else 0) s0 (fun j hj => by rw [b_or, bt_bitM (by omega) (by omega)]; simp [show ¬ j = s0 by omega])]
      rw [if_pos (by rw [b_or, bt_bitM (by omega) (by omega)]; simp), if_neg (by rw [hx]; decide), Int32.add_zero]
    · rw [sum_ins hx n (by omega) (by omega)]
      have e : bt (x ||| bitM s0) n = bt x n := by rw [b_or, bt_bitM (by omega) (by omega)]; simp [show ¬ n = s0 from fun z => q z.symm]
      rw [e, Int32.add_assoc, Int32.add_assoc, Int32.add_comm (f s0)]
def ob (T : TX) (r : RW) (set : Int32) (o : Nat) : Int32 := if bt set o = true then (if ow T r o = -1 then 0 else bitM (ow T r o).toNatClampNeg) else 0
def sd (T : TX) (r : RW) (set : Int32) (j : Nat) : Int32 := orF (ob T r set) j
def dpS (T : TX) (r : RW) (w : Nat) (x : Int32) : Int32 := dp T r w + sumF (fun s => if bt x s = true then wgt T r s else 0) (nS T)
def gn (T : TX) (r : RW) (w : Nat) (set : Int32) (a : Nat) : Int32 :=
  (if bt (drk T r w) a = true then dpS T r w (sd T r set (nM T)) / bits (drk T r w) else 0) - (if bt set a = true then 5 * bits (plB T r (nM T) &&& (set ^^^ (-1))) else 0)
abbrev plS (T : TX) (r : RW) (set : Int32) : Prop := ∀ o, o < 32 → bt set o = true → o < nM T ∧ ¬ ow T r o = -1
theorem bt_plB {T : TX} {r : RW} (hN : TN T) {i : Nat} (hi : i < 32) : bt (plB T r (nM T)) i = true ↔ i < nM T ∧ ¬ ow T r i = -1 := by
  have h7 := hN.2.1.2
  have := bt_orM (P := fun a => ¬ ow T r a = -1) (n := nM T) (i := i) (by omega) hi
  have e : plB T r (nM T) = orF (fun a => if ¬ ow T r a = -1 then bitM a else 0) (nM T) := orF_c _ (fun j hj => by by_cases q : ow T r j = -1 <;> simp [q])
  rw [e, this]
theorem pl_hi {T : TX} {r : RW} (hN : TN T) (y : Int32) : ∀ i, 12 ≤ i → i < 32 → bt (plB T r (nM T) &&& y) i = false := fun i h1 h2 => by
  rw [b_and]
  cases hq : bt (plB T r (nM T)) i
  · rfl
  · have := ((bt_plB hN h2).mp hq).1
    have h7 := hN.2.1.2
    omega
theorem bt_drk {T : TX} {r : RW} (hN : TN T) {w i : Nat} (hi : i < 32) : bt (drk T r w) i = true ↔ i < nM T ∧ bt (r 33) i = true ∧ r (12 + i) = nI w := by
  have h7 := hN.2.1.2
  have := bt_orM (P := fun a => bitOf (r 33) a = 1 ∧ r (12 + a) = nI w) (n := nM T) (i := i) (by omega) hi
  unfold drk
  rw [this, bitOf_1 _ hi]
theorem Mo_hasOf {v : Nat} {T : TX} {r : RW} {S : Mem} (hN : TN T) (hV : TV v T S) (hr : MR r S) (hm : ∀ a, a < nM T → S.2.1 0 66 a = ow T r a) (hp : S.1 0 67 = plB T r (nM T)) {w a : Nat} (hw : w < nW T) (ha : a < nM T) {set : Int32} (hs : plS T r set) : f_Mo_hasOf (nI a) (nI w) set S = some (gn T r w set a) := by
  have h4 := hN.1.2
  have h7 := hN.2.1.2
  have h8 := hN.2.2.1.2
  obtain ⟨hv, e18, ⟨-, e27, e30, -⟩, -⟩ := id hV
  unfold f_Mo_hasOf f_Mo_hasOf_b0
  rw [Mo_drinkersOf hN hV hr, bind_e]
  refine lpN (P := fun n o => f_Mo_hasOf_l13 S n (nI a) (nI w) set (drk T r w) (sd T r set o) (nI o) = some (gn T r w set a)) (nM T) (fun n o ho ih => ?_) (fun n => ?_) 5000 0 (by omega) (by omega)
  · show f_Mo_hasOf_b13 S (f_Mo_hasOf_l13 S n) (nI a) (nI w) set (drk T r w) (sd T r set o) (nI o) = _
    rw [← ih]
    simp only [f_Mo_hasOf_b13, e18, g2 hv, cl (show v < 4096 by omega), e27, hN.2.1.1, if_neg (le_nI (show ¬ nM T ≤ o by omega) (by omega) (by omega)), g7 (show o < 7 by omega), cl (show o < 4096 by omega), hm o ho, letS_e, nI_1, show ((set >>> (nI o &&& 31)) &&& 1) = bitOf set o from rfl]
    by_cases q : bitOf set o = 1
    · have b1 := (bitOf_1 _ (by omega)).mp q
      rw [if_pos q]
      obtain ⟨-, q2⟩ := hs o (by omega) b1
      rcases ow_c T r o with e | ⟨-, s, hs', e⟩
      · exact absurd e q2
      · have : sd T r set (o + 1) = sd T r set o ||| ((1 : Int32) <<< (ow T r o &&& 31)) := by
          unfold sd
          simp only [orF]
          congr 1
          unfold ob
          rw [if_pos b1, if_neg q2, e, cl (by omega)]; rfl
        rw [this]
    · have b0 := (bitOf_0 _ (by omega)).mp (nat_n1 q)
      rw [if_neg q, show sd T r set (o + 1) = sd T r set o from orF_0 (by unfold ob; rw [if_neg (by rw [b0]; decide)])]
  · show f_Mo_hasOf_b13 S (f_Mo_hasOf_l13 S n) (nI a) (nI w) set (drk T r w) (sd T r set (nM T)) (nI (nM T)) = _
    simp only [f_Mo_hasOf_b13, e18, g2 hv, cl (show v < 4096 by omega), e27, hN.2.1.1, if_pos (le_rf _), Mo_deepOf hN hV hr (show w < 4 by omega), bind_e]
    generalize hX : sd T r set (nM T) = X
    have e0 : dp T r w = dp T r w + sumF (fun s => if bt X s = true then wgt T r s else 0) 0 := by simp [sumF]
    rw [e0]
    refine lpN (P := fun n s => f_Mo_hasOf_l67 S n (nI a) set (drk T r w) X (dp T r w + sumF (fun s => if bt X s = true then wgt T r s else 0) s) (nI s) = some (gn T r w set a)) (nS T) (fun n s hs ih => ?_) (fun n => ?_) 5000 0 (by omega) (by omega)
    · show f_Mo_hasOf_b67 S (f_Mo_hasOf_l67 S n) (nI a) set (drk T r w) X _ (nI s) = _
      rw [← ih, sumF_a]
      simp only [f_Mo_hasOf_b67, e18, g2 hv, cl (show v < 4096 by omega), e30, hN.2.2.1.1, if_neg (le_nI (show ¬ nS T ≤ s by omega) (by omega) (by omega)), Mo_weightNow hN hV hr (show s < 8 by omega), bind_e, letS_e, nI_1, show ((X >>> (nI s &&& 31)) &&& 1) = bitOf X s from rfl]
      by_cases q : bitOf X s = 1
      · rw [if_pos q, if_pos ((bitOf_1 _ (by omega)).mp q)]
      · rw [if_neg q, if_neg (by rw [(bitOf_0 _ (by omega)).mp (nat_n1 q)]; decide), Int32.add_zero]
    · show f_Mo_hasOf_b67 S (f_Mo_hasOf_l67 S n) (nI a) set (drk T r w) X _ (nI (nS T)) = _
      simp only [f_Mo_hasOf_b67, f_Mo_hasOf_b131, e18, g2 hv, cl (show v < 4096 by omega), e30, hN.2.2.1.1, if_pos (le_rf _), Mo_bits, bind_e, hp, show ((drk T r w >>> (nI a &&& 31)) &&& 1) = bitOf (drk T r w) a from rfl, show ((set >>> (nI a &&& 31)) &&& 1) = bitOf set a from rfl]
      unfold gn dpS
      rw [hX]
      by_cases q : bitOf (drk T r w) a = 1
      · have b1 := (bitOf_1 _ (by omega)).mp q
        have nz : ¬ bits (drk T r w) = 0 := fun z => by
          have := (bits_z (drk_12 hN w)).mp z
          rw [this, b_0] at b1; exact absurd b1 (by decide)
        rw [if_pos q, if_pos b1, show ∀ k : Option Int32, gNz (bits (drk T r w)) k = k from fun k => if_neg nz]
        by_cases q2 : bitOf set a = 1
        · rw [if_pos q2, if_pos ((bitOf_1 _ (by omega)).mp q2)]
        · rw [if_neg q2, if_neg (by rw [(bitOf_0 _ (by omega)).mp (nat_n1 q2)]; decide), Int32.sub_zero]
      · rw [if_neg q, if_neg (show ¬ bt (drk T r w) a = true by rw [(bitOf_0 _ (by omega)).mp (nat_n1 q)]; decide)]
        by_cases q2 : bitOf set a = 1
        · rw [if_pos q2, if_pos ((bitOf_1 _ (by omega)).mp q2)]
        · rw [if_neg q2, if_neg (by rw [(bitOf_0 _ (by omega)).mp (nat_n1 q2)]; decide), Int32.sub_zero]
theorem Pe_deepBy {tx : Nat} {T : TX} {r : RW} {S : Mem} (hN : TN T) (hC : CT T tx S) (hM : CM T r 4 S) (hm : ∀ a, a < nM T → S.2.1 8 0 a = ow T r a) {w : Nat} (hw : w < nW T) (set : Int32) : f_Pe_deepBy tx 4 (nI w) set S = some (dpS T r w (sd T r set (nM T))) := by
  have h4 := hN.1.2
  have h7 := hN.2.1.2
  have h8 := hN.2.2.1.2
  unfold f_Pe_deepBy f_Pe_deepBy_b0
  rw [g4 (by omega), letS_e, cl (by omega), (hM.1 w hw).1]
  have e0 : dp T r w = dpS T r w (sd T r set 0) := by
    unfold dpS
    rw [sumF_c (g := fun _ => 0) (nS T) (fun j hj => by rw [if_neg (by show ¬ bt 0 j = true; rw [b_0]; decide)])]
    have : ∀ n, sumF (fun _ => 0) n = 0 := fun n => by induction n with
      | zero => rfl
      | succ n ih => simp only [sumF, ih, Int32.add_zero]
    rw [this, Int32.add_zero]
  rw [e0]
  refine lpN (P := fun n m => f_Pe_deepBy_l14 tx 4 S n set (dpS T r w (sd T r set m)) (sd T r set m) (nI m) = some (dpS T r w (sd T r set (nM T)))) (nM T) (fun n m hm' ih => ?_) (fun n => ?_) 5000 0 (by omega) (by omega)
  · show f_Pe_deepBy_b14 tx 4 S (f_Pe_deepBy_l14 tx 4 S n) set _ _ (nI m) = _
    simp only [f_Pe_deepBy_b14, hC.1.2.1, hN.2.1.1, if_neg (le_nI (show ¬ nM T ≤ m by omega) (by omega) (by omega)), g7 (show m < 7 by omega), cl (show m < 4096 by omega), hm m hm', letS_e, nI_1, show ((set >>> (nI m &&& 31)) &&& 1) = bitOf set m from rfl]
    by_cases q : bitOf set m = 0
    · rw [if_pos q, ← ih, show sd T r set (m + 1) = sd T r set m from orF_0 (by unfold ob; rw [if_neg (by rw [(bitOf_0 _ (by omega)).mp q]; decide)])]
    rw [if_neg q]
    have b1 := (bitOf_1 _ (by omega)).mp (bit_n0 q)
    rcases ow_c T r m with e | ⟨-, s, hs, e⟩
    · rw [if_pos e, ← ih, show sd T r set (m + 1) = sd T r set m from orF_0 (by unfold ob; rw [if_pos b1, if_pos e])]
    · have es : sd T r set (m + 1) = sd T r set m ||| bitM s := by
        unfold sd
        simp only [orF]
        congr 1
        unfold ob
        rw [if_pos b1, e, if_neg (nI_m1 (by omega)), cl (by omega)]
      rw [e, if_neg (nI_m1 (by omega)), g8 (by omega), cl (by omega), hM.2 s hs]
      rw [es] at ih
      generalize sd T r set m = X at ih ⊢
      rw [show ((X >>> (nI s &&& 31)) &&& 1) = bitOf X s from rfl]
      by_cases q2 : bitOf X s = 0
      · rw [if_pos q2]
        have := sum_ins (f := wgt T r) ((bitOf_0 _ (by omega)).mp q2) (nS T) hs (by omega)
        unfold dpS at ih ⊢
        rw [this, ← Int32.add_assoc] at ih
        exact ih
      · rw [if_neg q2]
        have ex : X ||| bitM s = X := b_ext (fun i hi => by
          rw [b_or, bt_bitM (by omega) hi]
          by_cases y : i = s
          · rw [y, (bitOf_1 _ (by omega)).mp (bit_n0 q2)]; rfl
          · simp [y])
        rw [ex] at ih
        exact ih
  · show f_Pe_deepBy_b14 tx 4 S (f_Pe_deepBy_l14 tx 4 S n) set _ _ (nI (nM T)) = _
    simp only [f_Pe_deepBy_b14, hC.1.2.1, hN.2.1.1, if_pos (le_rf _)]
theorem Pe_gain {tx : Nat} {T : TX} {r : RW} {S : Mem} (hN : TN T) (hC : CT T tx S) (hB : CB T r 4 S) (hM : CM T r 4 S) (hm : ∀ a, a < nM T → S.2.1 8 0 a = ow T r a) (hp : S.1 8 1 = plB T r (nM T)) {w a : Nat} (hw : w < nW T) (ha : a < nM T) (hal : bt (r 33) a = true) (set : Int32) : f_Pe_gain tx 4 (nI w) set (nI a) S = some (gn T r w set a) := by
  have h4 := hN.1.2
  have h7 := hN.2.1.2
  unfold f_Pe_gain f_Pe_gain_b0 f_Pe_gain_b44
  rw [g4 (by omega), cl (show w < 4096 by omega), (hM.1 w hw).2.2, bc12 (drk_12 hN w), bind_e, g7 (by omega), cl (by omega), (hB.2.2.1 a ha).1, Pe_deepBy hN hC hM hm hw, bind_e, hp, bc12 (pl_hi hN _), bind_e, show ((set >>> (nI a &&& 31)) &&& 1) = bitOf set a from rfl]
  have fin : ∀ x : Int32, (if bitOf set a = 0 then some x else letS (x - 5 * bits (plB T r (nM T) &&& (set ^^^ (-1)))) (fun y71 => some y71)) = some (x - (if bt set a = true then 5 * bits (plB T r (nM T) &&& (set ^^^ (-1))) else 0)) := fun x => by
    rcases bit01 set a with e | e
    · rw [if_pos e, if_neg (by rw [(bitOf_0 _ (by omega)).mp e]; decide), Int32.sub_zero]
    · rw [if_neg (by rw [e]; decide), if_pos ((bitOf_1 _ (by omega)).mp e), letS_e]
  unfold gn
  by_cases q : r (12 + a) = nI w
  · have b1 : bt (drk T r w) a = true := (bt_drk hN (by omega)).mpr ⟨ha, hal, q⟩
    have nz : ¬ bits (drk T r w) = 0 := fun z => by
      have := (bits_z (drk_12 hN w)).mp z
      rw [this, b_0] at b1; exact absurd b1 (by decide)
    have np : ¬ bits (drk T r w) ≤ 0 := by
      rw [bits_pop] at nz ⊢
      rcases Nat.eq_zero_or_pos (popN (drk T r w) 12) with z | z
      · exact absurd (by rw [z]; rfl) nz
      · exact nI_nle z (by have := popN_le (drk T r w) 12; omega)
    rw [if_neg np, if_pos q, if_pos b1, show ∀ k : Option Int32, gNz (bits (drk T r w)) k = k from fun k => if_neg nz, letS_e]
    exact fin _
  · have b0 : ¬ bt (drk T r w) a = true := fun z => q ((bt_drk hN (by omega)).mp z).2.2
    rw [if_neg q, if_neg b0]
    split <;> exact fin 0
theorem S_quiet {SC SM : Mem} (h : Rel SC SM) (x1 x2 : Int32) : Sim (f_Co_quiet x1 x2 SC) (f_Mo_quiet x1 x2 SM) := by
  obtain ⟨v, tx, T, F, r, U, H, N, B, P, w, hM, hC⟩ := h
  have hN := w.1.1
  have h4 := hN.1.2
  have h7 := hN.2.1.2
  have p2 := p2_12 (nM T) (by omega)
  have hX := hC.1.1
  unfold f_Co_quiet f_Co_quiet_b0 f_Mo_quiet f_Mo_quiet_b0
  rcases rg x1 (n := nW T) (by omega) with ⟨b, hb, rfl⟩ | ⟨q, -⟩
  case inr => rw [Mo_isWell_n hN hM.1 q, Co_isWell_n hN hX q, bind_e, bind_e, i00, i00]; exact Sim.ok w (Ok.e rfl ⟨rfl, hC⟩) (Ok.e rfl ⟨rfl, hM⟩)
  rw [Mo_isWell_y hN hM.1 hb, Co_isWell_y hN hX hb, bind_e, bind_e, i10, i10]
  by_cases qi : (-1 : Int32) ≤ x2
  case neg => rw [if_neg qi, if_neg qi]; exact Sim.ok w (Ok.e rfl ⟨rfl, hC⟩) (Ok.e rfl ⟨rfl, hM⟩)
  rw [if_pos qi, if_pos qi, hX.2.2.2.1, gTx_t hX.2.1, cl hX.tx]
  obtain ⟨q, eq, hq, hr, -⟩ := hM.cp
  obtain ⟨c, ec, gc, hc1, hc2⟩ := Pe_gather w.1 w.2.1.1 hX.1.2.1 hX.1.1 hC.2.1 hC.2.2.1
  obtain ⟨d, ed, gd, hd1, hd2⟩ := Mo_fillsMay w.1 hq.1.1 hr
  unfold f_Pe_rests f_Pe_rests_b0
  rw [eq, bind_e, ed, bind_e, ec, bind_e]
  have kC : COK tx T F r U H N B P c := by
    rw [hc1]
    obtain ⟨⟨h1, h2, h3, h4, h5, h6, h7⟩, hB, hM, hR⟩ := hC
    exact ⟨⟨h1.of (fun a ha => by funext k; rw [pI_1, if_neg (by omega)]; rfl) (fun a f ha hf => by rw [pI_2, pA_2, if_neg (by omega)]) rfl rfl, h2, h3, h4, h5, h6, h7⟩, hB, hM, hR⟩
  have kM : MOK v T F r U H N B P d := by
    rw [hd1]
    exact hq.fr ((Fr.A (by unfold scA; decide)).tr (Fr.I (by unfold scI; decide)))
  have mr : MR r d := by rw [hd1]; exact hr
  have m1 : ∀ a, a < nM T → d.2.1 0 66 a = ow T r a := fun a ha => by rw [hd1]; exact hd2 a ha
  have m2 : d.1 0 67 = plB T r (nM T) := by rw [hd1]; rfl
  have n1 : ∀ a, a < nM T → c.2.1 8 0 a = ow T r a := fun a ha => by rw [hc1]; exact hc2 a ha
  have n2 : c.1 8 1 = plB T r (nM T) := by rw [hc1]; rfl
  have hv := kM.1.1.1
  have kX := kC.1.1
  have rest : ∀ set : Int32, plS T r set → SimP (f_Pe_isRest tx 4 (nI b) set c) (f_Mo_isResting (nI b) set d) := by
    intro set hset
    refine lpN (P := fun n a => SimP (f_Pe_isRest_l3 tx 4 c n (nI b) set (nI a)) (f_Mo_isResting_l2 d n (nI b) set (nI a))) (nM T) (fun n a ha ih => ?_) (fun n => ?_) 5000 0 (by omega) (by omega)
    · show SimP (f_Pe_isRest_b3 tx 4 c (f_Pe_isRest_l3 tx 4 c n) (nI b) set (nI a)) (f_Mo_isResting_b2 d (f_Mo_isResting_l2 d n) (nI b) set (nI a))
      simp only [f_Pe_isRest_b3, f_Pe_isRest_b29, f_Mo_isResting_b2, kX.1.2.1.1.2.1, kM.1.1.2.1, g2 hv, cl (show v < 4096 by omega), kM.1.1.2.2.1.2.1, hN.2.1.1, if_neg (le_nI (show ¬ nM T ≤ a by omega) (by omega) (by omega)), n2, m2, nI_1, show ((plB T r (nM T) >>> (nI a &&& 31)) &&& 1) = bitOf (plB T r (nM T)) a from rfl]
      by_cases qp : bitOf (plB T r (nM T)) a = 1
      · have bp := (bt_plB hN (by omega)).mp ((bitOf_1 _ (by omega)).mp qp)
        have hal : bt (r 33) a = true := by
          rcases ow_c T r a with e | ⟨e, -⟩
          · exact absurd e bp.2
          · exact (bitOf_1 _ (by omega)).mp e
        have hset2 : plS T r (set ^^^ bitM a) := fun o ho hb => by
          by_cases y : o = a
          · rw [y]; exact bp
          · refine hset o ho ?_
            rw [b_xor, bt_bitM (by omega) ho] at hb
            simpa [y] using hb
        rw [if_pos qp, if_neg (by rw [qp]; decide), i10]
        rw [show (1 : Int32) <<< (nI a &&& 31) = bitM a from rfl, Pe_gain hN kX.1.2.1 kC.2.1 kC.2.2.1 n1 n2 hb ha hal, bind_e, Pe_gain hN kX.1.2.1 kC.2.1 kC.2.2.1 n1 n2 hb ha hal, bind_e, Mo_hasOf hN kM.1.1 mr m1 m2 hb ha hset2, bind_e, Mo_hasOf hN kM.1.1 mr m1 m2 hb ha hset, bind_e]
        by_cases z : gn T r b (set ^^^ bitM a) a ≤ gn T r b set a
        · rw [if_pos z, if_pos z]; exact ih
        · rw [if_neg z, if_neg z]; exact SimP.i _
      · rw [if_neg qp, if_pos (nat_n1 qp), if_pos trivial]; exact ih
    · show SimP (f_Pe_isRest_b3 tx 4 c (f_Pe_isRest_l3 tx 4 c n) (nI b) set (nI (nM T))) (f_Mo_isResting_b2 d (f_Mo_isResting_l2 d n) (nI b) set (nI (nM T)))
      simp only [f_Pe_isRest_b3, f_Mo_isResting_b2, kX.1.2.1.1.2.1, kM.1.1.2.1, g2 hv, cl (show v < 4096 by omega), kM.1.1.2.2.1.2.1, hN.2.1.1, if_pos (le_rf _)]
      exact SimP.i _
  have key : ∃ z, f_Pe_rests_l12 tx 4 5000 (nI b) x2 0 0 c = some (z, c) ∧ f_Mo_quiet_l28 5000 (nI b) x2 0 0 d = some (z, d) := by
    refine lpN (P := fun n j => ∀ acc, ∃ z, f_Pe_rests_l12 tx 4 n (nI b) x2 acc (nI j) c = some (z, c) ∧ f_Mo_quiet_l28 n (nI b) x2 acc (nI j) d = some (z, d)) (2 ^ nM T) (fun n j hj ih acc => ?_) (fun n acc => ?_) 5000 0 (by omega) (by omega) 0
    · show ∃ z, f_Pe_rests_b12 tx 4 (f_Pe_rests_l12 tx 4 n) (nI b) x2 acc (nI j) c = some (z, c) ∧ f_Mo_quiet_b28 (f_Mo_quiet_l28 n) (nI b) x2 acc (nI j) d = some (z, d)
      simp only [f_Pe_rests_b12, f_Mo_quiet_b28, kX.1.2.1.1.2.1, kM.1.1.2.1, g2 hv, cl (show v < 4096 by omega), kM.1.1.2.2.1.2.1, hN.2.1.1, shl_p _ (show nM T ≤ 12 by omega), if_neg (le_nI (show ¬ 2 ^ nM T ≤ j by omega) (by omega) (by omega)), n2, m2, nI_1]
      by_cases qz : nI j &&& (plB T r (nM T) ^^^ (-1)) = 0
      · rw [if_pos qz, if_pos qz]
        have hset : plS T r (nI j) := fun o ho hb => by
          refine (bt_plB hN ho).mp ?_
          cases hq : bt (plB T r (nM T)) o
          · have : bt (nI j &&& (plB T r (nM T) ^^^ (-1))) o = true := by rw [b_and, b_xor, b_m1 o ho, hb, hq]; rfl
            rw [qz, b_0] at this; exact absurd this (by decide)
          · rfl
        obtain ⟨e, k1, k2⟩ := rest (nI j) hset
        rw [k1, k2, bind_e, bind_e]
        by_cases z : e = 0
        · rw [if_pos z, if_pos z]; exact ih _
        · rw [if_neg z, if_neg z]
          by_cases y : acc = x2
          · rw [if_pos y, if_pos y]; exact ⟨_, rfl, rfl⟩
          · rw [if_neg y, if_neg y]; exact ih _
      · rw [if_neg qz, if_neg qz]; exact ih _
    · show ∃ z, f_Pe_rests_b12 tx 4 (f_Pe_rests_l12 tx 4 n) (nI b) x2 acc (nI (2 ^ nM T)) c = some (z, c) ∧ f_Mo_quiet_b28 (f_Mo_quiet_l28 n) (nI b) x2 acc (nI (2 ^ nM T)) d = some (z, d)
      simp only [f_Pe_rests_b12, f_Mo_quiet_b28, kX.1.2.1.1.2.1, kM.1.1.2.1, g2 hv, cl (show v < 4096 by omega), kM.1.1.2.2.1.2.1, hN.2.1.1, shl_p _ (show nM T ≤ 12 by omega), if_pos (le_rf _)]
      by_cases z : x2 = -1
      · rw [if_pos z, if_pos z]; exact ⟨_, rfl, rfl⟩
      · rw [if_neg z, if_neg z]; exact ⟨_, rfl, rfl⟩
  obtain ⟨z, k1, k2⟩ := key
  rw [k1, bind_e]
  exact Sim.ok w (Ok.e rfl ⟨rfl, kC⟩) (Ok.e k2 ⟨rfl, kM⟩)
