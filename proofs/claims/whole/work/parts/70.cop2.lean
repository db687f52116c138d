/-! THE CLASS, its small operations, on. -/
theorem Co_forget {tx : Nat} {T : TX} {F : LF} {r : RW} {U : UX} {H : HX} {N : NX} {B : BX} {P : Int32} {S : Mem} (h : COK tx T F r U H N B P S) : Ok (fun z : Int32 × Mem => z.1 = nI N.1 ∧ COK tx T F r U H (0, N.2) B P z.2) (f_Co_forget S) := by
  obtain ⟨⟨h1, h2, h3, h4, h5, h6, h7⟩, hB, hM, hR⟩ := h
  unfold f_Co_forget f_Co_forget_b0
  rw [letS_e, letS_e]
  refine Ok.i ⟨h4.1, ⟨h1.of (fun a ha => ?_) (fun a f ha hf => rfl) rfl rfl, h2, h3, ⟨rfl, Nat.zero_le _, fun i hi => absurd hi (by show ¬ i < 0; omega)⟩, h5, h6, h7⟩, hB, hM, hR⟩
  funext k; rw [pI_1, if_neg (by omega)]
theorem Co_place {tx : Nat} {T : TX} {F : LF} {r : RW} {U : UX} {H : HX} {N : NX} {B : BX} {P : Int32} {S : Mem} (h : COK tx T F r U H N B P S) : f_Co_place S = some P := congrArg some h.1.2.2.2.2.2.1
theorem Co_isWell_y {tx : Nat} {T : TX} {F : LF} {S : Mem} (hN : TN T) (h : CXt T F tx S) {w : Nat} (hw : w < nW T) : f_Co_isWell (nI w) S = some 1 := by
  have := hN.1.2
  unfold f_Co_isWell f_Co_isWell_b0
  rw [if_neg (nI_pos (by omega)), h.2.2.2.1, gTx_t h.2.1, cl h.tx, h.1.2.1.1.1, hN.1.1, if_neg (le_nI (by omega) (by omega) (by omega))]
theorem Co_isWell_n {tx : Nat} {T : TX} {F : LF} {S : Mem} (hN : TN T) (h : CXt T F tx S) {x : Int32} (hx : ∀ j, j < nW T → x ≠ nI j) : f_Co_isWell x S = some 0 := by
  have := hN.1.2
  unfold f_Co_isWell f_Co_isWell_b0
  rw [h.2.2.2.1, gTx_t h.2.1, cl h.tx, h.1.2.1.1.1, hN.1.1]
  rcases rg x (n := nW T) (by omega) with ⟨j, hj, e⟩ | ⟨-, q | ⟨q, q1, q2⟩⟩
  · exact absurd e (hx j hj)
  · rw [if_pos q]
  · rw [if_neg q, if_pos q1]
theorem Co_isMan_y {tx : Nat} {T : TX} {F : LF} {S : Mem} (hN : TN T) (h : CXt T F tx S) {w : Nat} (hw : w < nM T) : f_Co_isMan (nI w) S = some 1 := by
  have := hN.2.1.2
  unfold f_Co_isMan f_Co_isMan_b0
  rw [if_neg (nI_pos (by omega)), h.2.2.2.1, gTx_t h.2.1, cl h.tx, h.1.2.1.1.2.1, hN.2.1.1, if_neg (le_nI (by omega) (by omega) (by omega))]
theorem Co_isMan_n {tx : Nat} {T : TX} {F : LF} {S : Mem} (hN : TN T) (h : CXt T F tx S) {x : Int32} (hx : ∀ j, j < nM T → x ≠ nI j) : f_Co_isMan x S = some 0 := by
  have := hN.2.1.2
  unfold f_Co_isMan f_Co_isMan_b0
  rw [h.2.2.2.1, gTx_t h.2.1, cl h.tx, h.1.2.1.1.2.1, hN.2.1.1]
  rcases rg x (n := nM T) (by omega) with ⟨j, hj, e⟩ | ⟨-, q | ⟨q, q1, q2⟩⟩
  · exact absurd e (hx j hj)
  · rw [if_pos q]
  · rw [if_neg q, if_pos q1]
theorem Co_isSecret_y {tx : Nat} {T : TX} {F : LF} {S : Mem} (hN : TN T) (h : CXt T F tx S) {w : Nat} (hw : w < nS T) : f_Co_isSecret (nI w) S = some 1 := by
  have := hN.2.2.1.2
  unfold f_Co_isSecret f_Co_isSecret_b0
  rw [if_neg (nI_pos (by omega)), h.2.2.2.1, gTx_t h.2.1, cl h.tx, h.1.2.1.1.2.2.1, hN.2.2.1.1, if_neg (le_nI (by omega) (by omega) (by omega))]
theorem Co_isSecret_n {tx : Nat} {T : TX} {F : LF} {S : Mem} (hN : TN T) (h : CXt T F tx S) {x : Int32} (hx : ∀ j, j < nS T → x ≠ nI j) : f_Co_isSecret x S = some 0 := by
  have := hN.2.2.1.2
  unfold f_Co_isSecret f_Co_isSecret_b0
  rw [h.2.2.2.1, gTx_t h.2.1, cl h.tx, h.1.2.1.1.2.2.1, hN.2.2.1.1]
  rcases rg x (n := nS T) (by omega) with ⟨j, hj, e⟩ | ⟨-, q | ⟨q, q1, q2⟩⟩
  · exact absurd e (hx j hj)
  · rw [if_pos q]
  · rw [if_neg q, if_pos q1]
theorem Co_isTie_y {tx : Nat} {T : TX} {F : LF} {S : Mem} (hN : TN T) (h : CXt T F tx S) {w : Nat} (hw : w < nT T) : f_Co_isTie (nI w) S = some 1 := by
  have := hN.2.2.2.2
  unfold f_Co_isTie f_Co_isTie_b0
  rw [if_neg (nI_pos (by omega)), h.2.2.2.1, gTx_t h.2.1, cl h.tx, h.1.2.1.1.2.2.2, hN.2.2.2.1, if_neg (le_nI (by omega) (by omega) (by omega))]
theorem Co_isTie_n {tx : Nat} {T : TX} {F : LF} {S : Mem} (hN : TN T) (h : CXt T F tx S) {x : Int32} (hx : ∀ j, j < nT T → x ≠ nI j) : f_Co_isTie x S = some 0 := by
  have := hN.2.2.2.2
  unfold f_Co_isTie f_Co_isTie_b0
  rw [h.2.2.2.1, gTx_t h.2.1, cl h.tx, h.1.2.1.1.2.2.2, hN.2.2.2.1]
  rcases rg x (n := nT T) (by omega) with ⟨j, hj, e⟩ | ⟨-, q | ⟨q, q1, q2⟩⟩
  · exact absurd e (hx j hj)
  · rw [if_pos q]
  · rw [if_neg q, if_pos q1]
theorem Co_isSet_y {tx : Nat} {T : TX} {F : LF} {S : Mem} (hN : TN T) (h : CXt T F tx S) {w : Nat} (hw : w < 2 ^ nS T) : f_Co_isSet (nI w) S = some 1 := by
  have := hN.2.2.1.2
  have p := p2_12 (nS T) (by omega)
  unfold f_Co_isSet f_Co_isSet_b0
  rw [if_neg (nI_pos (by omega)), h.2.2.2.1, gTx_t h.2.1, cl h.tx, h.1.2.1.1.2.2.1, hN.2.2.1.1, shl_p _ (by omega), if_neg (le_nI (by omega) (by omega) (by omega))]
theorem Co_isSet_n {tx : Nat} {T : TX} {F : LF} {S : Mem} (hN : TN T) (h : CXt T F tx S) {x : Int32} (hx : ∀ j, j < 2 ^ nS T → x ≠ nI j) : f_Co_isSet x S = some 0 := by
  have := hN.2.2.1.2
  have p := p2_12 (nS T) (by omega)
  unfold f_Co_isSet f_Co_isSet_b0
  rw [h.2.2.2.1, gTx_t h.2.1, cl h.tx, h.1.2.1.1.2.2.1, hN.2.2.1.1, shl_p _ (by omega)]
  rcases rg x (n := 2 ^ nS T) (by omega) with ⟨j, hj, e⟩ | ⟨-, q | ⟨q, q1, q2⟩⟩
  · exact absurd e (hx j hj)
  · rw [if_pos q]
  · rw [if_neg q, if_pos q1]
theorem Co_note_n {tx : Nat} {T : TX} {F : LF} {r : RW} {U : UX} {H : HX} {N : NX} {B : BX} {P : Int32} {S : Mem} (hN : TN T) (h : COK tx T F r U H N B P S) {x1 x2 x3 : Int32} (hx : N.1 = 20 ∨ (∀ j, j < nW T → x1 ≠ nI j) ∨ (∀ j, j < 2 ^ nS T → x2 ≠ nI j) ∨ (∀ j, j < 10000 → x3 ≠ nI j)) : f_Co_note x1 x2 x3 S = some (-1, S) := by
  have h1 := h.1.1
  have h4 := h.1.2.2.2.1
  have hS := hN.2.2.1.2
  have p := p2_12 (nS T) (by omega)
  unfold f_Co_note f_Co_note_b0
  rcases rg x1 (n := nW T) (by have := hN.1.2; omega) with ⟨w, hw, rfl⟩ | ⟨q1, -⟩
  case inr => rw [Co_isWell_n hN h1 q1, bind_e, if_pos rfl]
  rw [Co_isWell_y hN h1 hw, bind_e, if_neg (by decide)]
  rcases rg x2 (n := 2 ^ nS T) (by omega) with ⟨s, hs, rfl⟩ | ⟨q2, -⟩
  case inr => rw [Co_isSet_n hN h1 q2, bind_e, if_pos rfl]
  rw [Co_isSet_y hN h1 hs, bind_e, if_neg (by decide)]
  rcases rg x3 (n := 10000) (by decide) with ⟨d, hd, rfl⟩ | ⟨-, q | ⟨q, q3, q4⟩⟩
  · rw [if_neg (nI_pos (by omega)), if_pos (show nI d ≤ (9999 : Int32) from nI_le (b := 9999) (by omega) (by decide))]
    unfold f_Nt_add f_Nt_add_b0
    have : N.1 = 20 := by
      rcases hx with hx | hx | hx | hx
      · exact hx
      · exact absurd rfl (hx w hw)
      · exact absurd rfl (hx s hs)
      · exact absurd rfl (hx d hd)
    rw [h4.1, this, if_neg (by decide), bind_e]
  · rw [if_pos q]
  · rw [if_neg q, if_neg]
    intro z
    obtain ⟨j, hj, rfl⟩ := nI_of q
    have a := (nI_leI (a := 10000) (by decide) hj).mp q3
    have b := (nI_leI (b := 9999) hj (by decide)).mp z
    omega
theorem Co_note_y {tx : Nat} {T : TX} {F : LF} {r : RW} {U : UX} {H : HX} {N : NX} {B : BX} {P : Int32} {S : Mem} (hN : TN T) (h : COK tx T F r U H N B P S) {w s d : Nat} (h0 : N.1 < 20) (hw : w < nW T) (hs : s < 2 ^ nS T) (hd : d < 10000) : Ok (fun z : Int32 × Mem => z.1 = nI N.1 ∧ COK tx T F r U H (updN N (nI w) (nI s) (nI d)) B P z.2) (f_Co_note (nI w) (nI s) (nI d) S) := by
  obtain ⟨⟨h1, h2, h3, ⟨e4, l4, h4⟩, h5, h6, h7⟩, hB, hM, hR⟩ := h
  have gn : ∀ {α : Type} {k : Option α}, gIn (nI N.1) 20 k = k := gIn_n h0 (by decide)
  unfold f_Co_note f_Co_note_b0
  rw [Co_isWell_y hN h1 hw, bind_e, if_neg (by decide), Co_isSet_y hN h1 hs, bind_e, if_neg (by decide), if_neg (nI_pos (by omega)), if_pos (show nI d ≤ (9999 : Int32) from nI_le (b := 9999) (by omega) (by decide))]
  unfold f_Nt_add f_Nt_add_b0
  rw [e4, if_pos (show nI N.1 < (20 : Int32) from nI_lt (b := 20) h0 (by decide))]
  simp only [sA_1, e4, gn, letS_e, nI_1, bind_e]
  refine Ok.i ⟨?_, ⟨h1.of (fun a ha => ?_) (fun a f ha hf => ?_) rfl rfl, h2, h3, ⟨rfl, by show N.1 + 1 ≤ 20; omega, ?_⟩, h5, h6, h7⟩, hB, hM, hR⟩
  · show nI (N.1 + 1) - 1 = nI N.1
    exact nI_pred _
  · funext k; rw [pI_1, if_neg (by omega)]; rfl
  · simp only [pI_2, sA_2]
    rw [if_neg (by omega), if_neg (by omega), if_neg (by omega)]
  · intro i hi
    show upd (S.2.1 9 1) (nI N.1).toNatClampNeg (nI w) i = _ ∧ upd (S.2.1 9 2) (nI N.1).toNatClampNeg (nI s) i = _ ∧ upd (S.2.1 9 3) (nI N.1).toNatClampNeg (nI d) i = _
    rw [cl (by omega), upd_at, upd_at, upd_at]
    unfold updN
    by_cases q : i = N.1
    · simp [q]
    · have : i < N.1 + 1 := hi
      simp only [if_neg q]
      exact h4 i (by omega)
theorem Tp_append {S : Mem} {L : Nat} (e : S.1 1 0 = nI L) (hL : L + 4 ≤ 2000) (x : Int32) : f_Tp_append x S = some (pI (pA S 1 1 (cpF L 4 (byt x) (S.2.1 1 1))) 1 0 (nI (L + 4))) := by
  have := lq_3 f_Tp_append_b3 f_Tp_append_l3 (fun _ => rfl) (fun _ => x) (fun j => 24 - 8 * nI j) (fun j => pI (pA S 1 1 (cpF L j (byt x) (S.2.1 1 1))) 1 0 (nI (L + j))) 4 (some (pI (pA S 1 1 (cpF L 4 (byt x) (S.2.1 1 1))) 1 0 (nI (L + 4)))) (fun k j hj => ?_) (fun k => ?_) 5000 (by decide)
  · rw [cpF_0, pA_self] at this
    have e0 : pI S 1 0 (nI (L + 0)) = S := by
      refine Prod.ext ?_ rfl
      funext o k
      show (if _ then _ else _) = _
      split
      · rename_i z; rw [z.1, z.2, e]; rfl
      · rfl
    rw [e0] at this
    exact this
  · have e1 : (pI (pA S 1 1 (cpF L j (byt x) (S.2.1 1 1))) 1 0 (nI (L + j))).1 1 0 = nI (L + j) := rfl
    simp only [f_Tp_append_b3, if_neg (sh_d j hj).1, e1, if_neg (show ¬ (2000 : Int32) ≤ nI (L + j) from le_nI (show ¬ 2000 ≤ L + j by omega) (by decide) (by omega)), gIn_n (show L + j < 2000 by omega) (by decide), letS_e, (sh_d j hj).2]
    rw [sA_pp, cl (by omega), pI_pp]
    show k x _ (pI _ 1 0 (nI (L + j) + 1)) = _
    rw [nI_1, show vp_nar .byte ((x >>> (24 - 8 * nI j &&& 31)).toInt8.toInt32) = byt x j from rfl, cpF_s]; rfl
  · simp only [f_Tp_append_b3]
    rw [if_pos (by decide)]
theorem Co_puts {tx : Nat} {T : TX} {F : LF} {r : RW} {U : UX} {H : HX} {N : NX} {B : BX} {P : Int32} {S : Mem} (h : COK tx T F r U H N B P S) (hL : B.1 + 4 ≤ 2000) (x : Int32) : Ok (fun S' => COK tx T F r U H N (app B x) P S') (f_Tp_append x S) := by
  obtain ⟨⟨h1, h2, h3, h4, h5, h6, h7⟩, hB, hM, hR⟩ := h
  rw [Tp_append h5.1 hL]
  refine Ok.i ⟨⟨h1.of (fun a ha => ?_) (fun a f ha hf => ?_) rfl rfl, h2, h3, h4, mT_app h5 hL, h6, h7⟩, hB, hM, hR⟩
  · funext k; rw [pI_1, if_neg (by omega)]; rfl
  · rw [pI_2, pA_2, if_neg (by omega)]
theorem Co_feed_y {tx : Nat} {T : TX} {F : LF} {r : RW} {U : UX} {H : HX} {N : NX} {B : BX} {P : Int32} {S : Mem} (h : COK tx T F r U H N B P S) (hL : B.1 + 20 ≤ 2000) (x1 x2 x3 x4 x5 : Int32) : Ok (fun z : Int32 × Mem => z.1 = nI (B.1 + 20) ∧ COK tx T F r U H N (app5 B x1 x2 x3 x4 x5) P z.2) (f_Co_feed x1 x2 x3 x4 x5 S) := by
  unfold f_Co_feed f_Co_feed_b0
  rw [h.1.2.2.2.2.1.1, show (20 : Int32) = nI 20 from rfl, iA, if_pos (show nI (B.1 + 20) ≤ (2000 : Int32) from nI_le (b := 2000) hL (by decide))]
  refine (Co_puts h (by omega) x1).b (fun q1 k1 => (Co_puts k1 (by show B.1 + 4 + 4 ≤ 2000; omega) x2).b (fun q2 k2 => (Co_puts k2 (by show B.1 + 4 + 4 + 4 ≤ 2000; omega) x3).b (fun q3 k3 => (Co_puts k3 (by show B.1 + 4 + 4 + 4 + 4 ≤ 2000; omega) x4).b (fun q4 k4 => (Co_puts k4 (by show B.1 + 4 + 4 + 4 + 4 + 4 ≤ 2000; omega) x5).b (fun q5 k5 => Ok.i ⟨k5.1.2.2.2.2.1.1, k5⟩)))))
theorem Co_feed_n {tx : Nat} {T : TX} {F : LF} {r : RW} {U : UX} {H : HX} {N : NX} {B : BX} {P : Int32} {S : Mem} (h : COK tx T F r U H N B P S) (hL : ¬ B.1 + 20 ≤ 2000) (x1 x2 x3 x4 x5 : Int32) : f_Co_feed x1 x2 x3 x4 x5 S = some (-1, S) := by
  unfold f_Co_feed f_Co_feed_b0
  rw [h.1.2.2.2.2.1.1, show (20 : Int32) = nI 20 from rfl, iA, if_neg]
  exact le_nI hL (by have := h.1.2.2.2.2.1.2.1; omega) (by decide)
theorem Co_back_y {tx : Nat} {T : TX} {F : LF} {r : RW} {U : UX} {H : HX} {N : NX} {B : BX} {P : Int32} {S : Mem} (h : COK tx T F r U H N B P S) {n : Nat} (hn : n < B.1 + 1) : Ok (fun z : Int32 × Mem => z.1 = nI (B.1 - n) ∧ COK tx T F r U H N (B.1 - n, B.2) P z.2) (f_Co_back (nI n) S) := by
  obtain ⟨⟨h1, h2, h3, h4, ⟨e5, l5, h5⟩, h6, h7⟩, hB, hM, hR⟩ := h
  unfold f_Co_back f_Co_back_b0
  rw [if_neg (nI_pos (by omega)), e5, if_pos (nI_le (by omega) (by omega)), letS_e, pk_sub (by omega)]
  refine Ok.i ⟨rfl, ⟨h1.of (fun a ha => ?_) (fun a f ha hf => rfl) rfl rfl, h2, h3, h4, ⟨rfl, by show B.1 - n ≤ 2000; omega, fun i hi => h5 i (by have : i < B.1 - n := hi; omega)⟩, h6, h7⟩, hB, hM, hR⟩
  funext k; rw [pI_1, if_neg (by omega)]
theorem Co_back_n {tx : Nat} {T : TX} {F : LF} {r : RW} {U : UX} {H : HX} {N : NX} {B : BX} {P : Int32} {S : Mem} (h : COK tx T F r U H N B P S) {x : Int32} (hx : ∀ j, j < B.1 + 1 → x ≠ nI j) : f_Co_back x S = some (-1, S) := by
  obtain ⟨⟨h1, h2, h3, h4, ⟨e5, l5, h5⟩, h6, h7⟩, hB, hM, hR⟩ := h
  unfold f_Co_back f_Co_back_b0
  rw [e5]
  by_cases q : x < 0
  · rw [if_pos q]
  · rw [if_neg q, if_neg]
    intro z
    obtain ⟨j, hj, rfl⟩ := nI_of q
    exact hx j (by have := (nI_leI hj (by omega)).mp z; omega) rfl
theorem St_allWater {tx : Nat} {T : TX} {r : RW} {S : Mem} (hN : TN T) (hC : CT T tx S) (hB : CB T r 4 S) : f_St_allWater 4 tx S = some (sumF r (nW T)) := by
  have h4 := hN.1.2
  refine lq_2 (f_St_allWater_b4 4 tx S) (f_St_allWater_l4 4 tx S) (fun _ => rfl) (sumF r) nI (nW T) _ (fun k j hj => ?_) (fun k => ?_) 5000 (by omega)
  · simp only [f_St_allWater_b4, hC.1.1, hN.1.1, if_neg (le_nI (show ¬ nW T ≤ j by omega) (by omega) (by omega)), g4 (show j < 4 by omega), letS_e, nI_1, cl (show j < 4096 by omega), hB.2.1 j hj]
    rfl
  · simp only [f_St_allWater_b4, hC.1.1, hN.1.1, if_pos (le_rf _)]
theorem held_c {b : Int32} {H : HX} (h : b = orF (fun s => if H.1 s then bitM s else 0) 3) : f_JInt_bitCount b = some ((if H.1 0 then 1 else 0) + (if H.1 1 then 1 else 0) + (if H.1 2 then 1 else 0)) := by
  rw [h]
  simp only [orF]
  cases H.1 0 <;> cases H.1 1 <;> cases H.1 2 <;> decide +kernel
theorem Co_count {tx : Nat} {T : TX} {F : LF} {r : RW} {U : UX} {H : HX} {N : NX} {B : BX} {P : Int32} {S : Mem} (hN : TN T) (h : COK tx T F r U H N B P S) (x : Int32) : f_Co_count x S = some (CN T r U H N B x) := by
  obtain ⟨⟨h1, ⟨o, ho, eo, ec, -⟩, ⟨e3, -⟩, h4, h5, h6, h7⟩, hB, hM, hR⟩ := h
  unfold f_Co_count f_Co_count_b0
  rw [h1.2.2.2.1]
  simp only [gTx_t h1.2.1, cl h1.tx]
  rw [h1.1.2.1.1.1, h1.1.2.1.1.2.1, h1.1.2.1.1.2.2.1, h1.1.2.1.1.2.2.2, hB.1.1, hB.1.2.1, hB.1.2.2.1, hB.1.2.2.2, h5.1, ec, h4.1, held_c e3, St_allWater hN h1.1.2.1 hB, h1.2.2.1, bind_e, bind_e]
  unfold CN
  simp only [apply_ite (some : Int32 → Option Int32)]
