/-! RAIN: the class goes a way, and all ways. -/
theorem St_allThirst {tx : Nat} {T : TX} {r : RW} {S : Mem} (hN : TN T) (hC : CT T tx S) (hB : CB T r 5 S) : f_St_allThirst 5 tx S = some (thr T r) := by
  have h7 := hN.2.1.2
  refine lpN (P := fun n a => f_St_allThirst_l4 5 tx S n (sumF (fun a => if bitOf (r 33) a = 1 then r (19 + a) else 0) a) (nI a) = some (thr T r)) (nM T) (fun n a ha ih => ?_) (fun n => ?_) 5000 0 (by omega) (by omega)
  · show f_St_allThirst_b4 5 tx S (f_St_allThirst_l4 5 tx S n) _ (nI a) = _
    rw [← ih]
    simp only [f_St_allThirst_b4, f_St_allThirst_b31, hC.1.2.1, hN.2.1.1, if_neg (le_nI (show ¬ nM T ≤ a by omega) (by omega) (by omega)), St_isAlive hB, bind_e, g7 (show a < 7 by omega), cl (show a < 4096 by omega), (hB.2.2.1 a ha).2.1, letS_e, nI_1]
    by_cases q : bitOf (r 33) a = 0
    · rw [if_pos q, sumF_0 (f := fun a => if bitOf (r 33) a = 1 then r (19 + a) else 0) (by rw [if_neg (by rw [q]; decide)]), Int32.add_zero]
    · rw [if_neg q]; simp only [sumF]; rw [if_pos (bit_n0 q)]
  · show f_St_allThirst_b4 5 tx S (f_St_allThirst_l4 5 tx S n) _ (nI (nM T)) = _
    simp only [f_St_allThirst_b4, hC.1.2.1, hN.2.1.1, if_pos (le_rf _)]
    rfl
theorem Rn_isBetter (x1 x2 x3 : Int32) (S : Mem) : f_Rn_isBetter x1 x2 x3 S = some (if rbLt (x1, x2, x3) (S.1 7 1, S.1 7 2, S.1 7 3) then 1 else 0) := by
  unfold f_Rn_isBetter f_Rn_isBetter_b0 rbLt
  dsimp only
  have sw : ∀ a b : Int32, (if b ≤ a then some (0 : Int32) else some 1) = some (if a < b then 1 else 0) := fun a b => by
    by_cases q : a < b
    · rw [if_neg (Int32.not_le.mpr q), if_pos q]
    · rw [if_pos (Int32.not_lt.mp q), if_neg q]
  rw [sw, sw, sw]
  by_cases q1 : x1 = S.1 7 1
  · rw [if_pos q1]
    by_cases q2 : x2 = S.1 7 2
    · rw [if_pos q2]; simp only [if_pos q1, if_pos q2]
    · rw [if_neg q2]; simp only [if_pos q1, if_neg q2]
  · rw [if_neg q1]; simp only [if_neg q1]
/-- what a way gone leaves in the cloud -/
def atP (tx : Nat) (T : TX) (F : LF) (r : RW) (U : UX) (H : HX) (N : NX) (B : BX) (P : Int32) (set : Int32) (n way : Nat) (S S' : Mem) : Prop :=
  CQ tx T F r U H N B P S' ∧ (∀ k, k ≠ 1 → k ≠ 2 → k ≠ 3 → S'.1 7 k = S.1 7 k) ∧ (∀ f, f ≠ 4 → S'.2.1 7 f = S.2.1 7 f) ∧
  ((rbLt (rbO T F r set n way) (S.1 7 1, S.1 7 2, S.1 7 3) ∧ S'.1 7 1 = (rbO T F r set n way).1 ∧ S'.1 7 2 = (rbO T F r set n way).2.1 ∧ S'.1 7 3 = (rbO T F r set n way).2.2 ∧ ∀ i, i < popN set 12 → S'.2.1 7 4 i = dig T (popN set 12) way i) ∨
   (¬ rbLt (rbO T F r set n way) (S.1 7 1, S.1 7 2, S.1 7 3) ∧ S'.1 7 = S.1 7 ∧ S'.2.1 7 4 = S.2.1 7 4))
theorem Rn_b131 {tx : Nat} {T : TX} {F : LF} {r q : RW} {U : UX} {H : HX} {N : NX} {B : BX} {P : Int32} {S S' : Mem} (hT : TG T F) (hG : GR T r) (h : CQ tx T F r U H N B P S) {set : Int32} (hS : StK T set) {way n : Nat} (hl : ladP T r set way) (h7 : S.1 7 7 = nI (popN set 12)) (h6 : ∀ i, i < popN set 12 → S.2.1 7 6 i = dig T (popN set 12) way i) (hf : Fq 5 S S') (hg : CG T F q tx 5 S') {x7 : Int32}
    (hy : rbLt (x7, thr T q, nI (rbA T r set way).1) (S.1 7 1, S.1 7 2, S.1 7 3) ↔ rbLt (rbO T F r set n way) (S.1 7 1, S.1 7 2, S.1 7 3))
    (hz : rbLt (rbO T F r set n way) (S.1 7 1, S.1 7 2, S.1 7 3) → x7 = (rbO T F r set n way).1 ∧ thr T q = (rbO T F r set n way).2.1) : Ok (atP tx T F r U H N B P set n way S) (f_Rn_attempt_b131 tx 4 5 x7 S') := by
  have hN := hT.1
  have hK := hS.2
  obtain ⟨e7, e7a⟩ := hf.e7
  have kq := h.fq hf
  unfold f_Rn_attempt_b131
  rw [St_allThirst hN hg.2.1 hg.2.2.2.1, bind_e, Rn_whispers (way := way) hK hN (by rw [e7]; exact h7) (fun i hi => by rw [e7a]; exact h6 i hi), bind_e, Rn_isBetter, bind_e, e7, ← rbX_cnt hT hG hS hl (popN set 12) (Nat.le_refl _)]
  rw [show (rbX T r set way (popN set 12)).1 = (rbA T r set way).1 from rfl]
  by_cases c : rbLt (rbO T F r set n way) (S.1 7 1, S.1 7 2, S.1 7 3)
  · rw [if_pos (hy.mpr c), i10, letS_e, letS_e, letS_e, gCp4, letS_e]
    obtain ⟨z1, z2⟩ := hz c
    have o7 : O7 S' (sCp (pI (pI (pI S' 7 1 x7) 7 2 (thr T q)) 7 3 (nI (rbA T r set way).1)) 7 6 7 4 0 0 4) := ((((O7.rf S').p 1 x7).p 2 (thr T q)).p 3 (nI (rbA T r set way).1)).c 7 6 4 0 0 4
    refine Ok.i ⟨kq.o7 o7, fun k a1 a2 a3 => ?_, fun f a4 => ?_, Or.inl ⟨c, z1, z2, rfl, fun i hi => ?_⟩⟩
    · rw [sCp_1, pI_1, if_neg (by omega), pI_1, if_neg (by omega), pI_1, if_neg (by omega), e7]
    · rw [sCp_2, if_neg (by omega)]; exact e7a f
    · rw [sCp_2, if_pos ⟨rfl, rfl⟩, ic_0, ic_4, pk_cpy_in (by omega) (by omega), show 0 + (i - 0) = i by omega]
      show S'.2.1 7 6 i = _
      rw [e7a]; exact h6 i hi
  · rw [if_neg (fun z => c (hy.mp z)), i00]
    exact Ok.i ⟨kq, fun k _ _ _ => by rw [e7], fun f _ => e7a f, Or.inr ⟨c, e7, e7a 4⟩⟩
theorem pop_0 {x : Int32} (h : ∀ i, 12 ≤ i → i < 32 → bt x i = false) (e : popN x 12 = 0) : x = 0 := (bits_z h).mp (by rw [bits_pop, e]; rfl)
theorem days_0 {T : TX} {F : LF} {sd : Int32} {r : RW} (hT : TG T F) (hG : GR T r) (h0 : r 33 = 0) (n : Nat) : days T F sd n r 33 = 0 := b_ext (fun i hi => by
  rw [b_0]
  cases hb : bt (days T F sd n r 33) i
  · rfl
  · have := days_sub hT hG n hb
    rw [h0, b_0] at this; exact absurd this (by decide))
theorem days_add {T : TX} {F : LF} {sd : Int32} {r : RW} : ∀ (m n : Nat), days T F sd (m + n) r = days T F sd n (days T F sd m r)
  | _, 0 => rfl
  | m, n + 1 => by show dayR T F sd (days T F sd (m + n) r) = _; rw [days_add m n]; rfl
theorem thr_0 {T : TX} {r : RW} (h : r 33 = 0) : thr T r = 0 := by
  unfold thr
  rw [sumF_c (g := fun _ => 0) (nM T) (fun j hj => ?_)]
  · generalize nM T = n
    induction n with
    | zero => rfl
    | succ n ih => simp only [sumF, ih, Int32.add_zero]
  · rw [h, if_neg]
    intro z
    unfold bitOf at z
    rw [Int32.zero_shiftRight] at z
    exact absurd z (by decide)
theorem Rn_days79 {tx : Nat} {T : TX} {F : LF} {r : RW} {U : UX} {H : HX} {N : NX} {B : BX} {P : Int32} {S S' : Mem} (hT : TG T F) (hG : GR T r) (h : CQ tx T F r U H N B P S) {set : Int32} (hS : StK T set) {way n fd : Nat} (hl : ladP T r set way) (h7 : S.1 7 7 = nI (popN set 12)) (h6 : ∀ i, i < popN set 12 → S.2.1 7 6 i = dig T (popN set 12) way i) (hfd : S.1 7 1 = nI fd) (hfd8 : fd ≤ 8) (hn : n ≤ 60) (hf : Fq 5 S S') (hg : CG T F (rbA T r set way).2 tx 5 S') : Ok (atP tx T F r U H N B P set n way S) (f_Rn_attempt_l79 tx 4 5 5000 (nI n) (bits (r 33)) 0 0 S') := by
  have hN := hT.1
  have ok := rbX_ok (way := way) hT hG hS (popN set 12) (Nat.le_refl _)
  have e33 : (rbA T r set way).2 33 = r 33 := ok.2.1 33 (by omega)
  have hGa : GR T (rbA T r set way).2 := ok.1
  have dn := fun j => dead_n (F := F) (sd := T 0 6) (r := r) hT hGa e33 hG.1.1 j
  have A7 : popN (r 33) 12 ≤ 7 := (dn 0).2.2
  have mono : ∀ j m, popN (days T F (T 0 6) (j + m) (rbA T r set way).2 33) 12 ≤ popN (days T F (T 0 6) j (rbA T r set way).2 33) 12 := fun j m => by
    rw [days_add]
    exact popN_mono 12 (fun i _ hb => days_sub hT (GR.days (sd := T 0 6) hT hGa j) m hb)
  have eO : rbO T F r set n way = (nI (popN (r 33) 12 - popN (days T F (T 0 6) n (rbA T r set way).2 33) 12), thr T (days T F (T 0 6) n (rbA T r set way).2), nI (rbA T r set way).1) := by
    unfold rbO; rw [(dn n).1]
  have e0 : (0 : Int32) = nI (popN (r 33) 12 - popN (days T F (T 0 6) 0 (rbA T r set way).2 33) 12) := by
    show _ = nI (popN (r 33) 12 - popN ((rbA T r set way).2 33) 12)
    rw [e33, Nat.sub_self]; rfl
  rw [bits_pop]
  suffices key : Ok (atP tx T F r U H N B P set n way S) (f_Rn_attempt_l79 tx 4 5 5000 (nI n) (nI (popN (r 33) 12)) (nI (popN (r 33) 12 - popN (days T F (T 0 6) 0 (rbA T r set way).2 33) 12)) (nI 0) S') by
    rw [← e0] at key; exact key
  refine lpN (P := fun m j => ∀ S', Fq 5 S S' → CG T F (days T F (T 0 6) j (rbA T r set way).2) tx 5 S' → Ok (atP tx T F r U H N B P set n way S) (f_Rn_attempt_l79 tx 4 5 m (nI n) (nI (popN (r 33) 12)) (nI (popN (r 33) 12 - popN (days T F (T 0 6) j (rbA T r set way).2 33) 12)) (nI j) S')) n (fun m j hj ih S' f1 f2 => ?_) (fun m S' f1 f2 => ?_) 5000 0 (by omega) (by omega) S' hf hg
  · show Ok _ (f_Rn_attempt_b79 tx 4 5 (f_Rn_attempt_l79 tx 4 5 m) (nI n) (nI (popN (r 33) 12)) _ (nI j) S')
    have e7 := f1.e7.1
    have mj := mono j (n - j)
    rw [show j + (n - j) = n by omega] at mj
    have dj := (dn j).2.1
    simp only [f_Rn_attempt_b79, if_neg (le_nI (show ¬ n ≤ j by omega) (by omega) (by omega)), e7, hfd]
    by_cases q1 : nI fd < nI (popN (r 33) 12 - popN (days T F (T 0 6) j (rbA T r set way).2 33) 12)
    · have q1' := (nI_ltI (by omega) (by omega)).mp q1
      have ndx : ∀ d, fd < d → d < 100 → ∀ x y, ¬ rbLt (nI d, x, y) (S.1 7 1, S.1 7 2, S.1 7 3) := fun d hd hd2 x y z => by
        rw [rbLt_i, hfd] at z
        dsimp only at z
        rw [nI_toInt (by omega), nI_toInt (by omega)] at z
        omega
      rw [if_pos q1]
      refine Rn_b131 hT hG h hS hl h7 h6 f1 f2 ?_ (fun z => ?_)
      · rw [eO]
        exact ⟨fun z => absurd z (ndx _ q1' (by omega) _ _), fun z => absurd z (ndx _ (by omega) (by omega) _ _)⟩
      · rw [eO] at z
        exact absurd z (ndx _ (by omega) (by omega) _ _)
    rw [if_neg q1]
    by_cases q2 : nI (popN (r 33) 12) ≤ nI (popN (r 33) 12 - popN (days T F (T 0 6) j (rbA T r set way).2 33) 12)
    · have q2' := (nI_leI (by omega) (by omega)).mp q2
      rw [if_pos q2]
      have hx : days T F (T 0 6) j (rbA T r set way).2 33 = 0 ∨ popN (days T F (T 0 6) j (rbA T r set way).2 33) 12 = 0 := Or.inr (by
        rcases Nat.eq_zero_or_pos (popN (r 33) 12) with z | z
        · omega
        · omega)
      have hp0 : popN (days T F (T 0 6) j (rbA T r set way).2 33) 12 = 0 := by
        rcases hx with z | z
        · rw [z]; decide
        · exact z
      have h0 := pop_0 (alive_12 hN (GR.days (sd := T 0 6) hT hGa j).1) hp0
      have hn0 : days T F (T 0 6) n (rbA T r set way).2 33 = 0 := by
        have := days_0 hT (GR.days (sd := T 0 6) hT hGa j) h0 (sd := T 0 6) (n - j)
        rw [← days_add, show j + (n - j) = n by omega] at this
        exact this
      have e1 : popN (days T F (T 0 6) n (rbA T r set way).2 33) 12 = popN (days T F (T 0 6) j (rbA T r set way).2 33) 12 := by rw [hn0, h0]
      have e2 : thr T (days T F (T 0 6) n (rbA T r set way).2) = thr T (days T F (T 0 6) j (rbA T r set way).2) := by rw [thr_0 hn0, thr_0 h0]
      rw [e1, e2] at eO
      refine Rn_b131 hT hG h hS hl h7 h6 f1 f2 (by rw [eO]) (fun _ => by rw [eO]; exact ⟨rfl, rfl⟩)
    rw [if_neg q2, f2.2.1.2.1.2.2]
    obtain ⟨c, ec, hc⟩ := Dy_pass (sd := T 0 6) hT (GR.days (sd := T 0 6) hT hGa j).1 f2
    rw [ec, bind_e, hc.2.1.2.2.2.1.1.2.1, bc12 (alive_12 hN hc.2.2), bind_e, letS_e, bits_pop, nI_1]
    have dj1 := (dn (j + 1)).2.1
    rw [show dayR T F (T 0 6) (days T F (T 0 6) j (rbA T r set way).2) = days T F (T 0 6) (j + 1) (rbA T r set way).2 from rfl] at hc ⊢
    rw [pk_sub dj1]
    exact ih c (f1.tr hc.1) hc.2.1
  · show Ok _ (f_Rn_attempt_b79 tx 4 5 (f_Rn_attempt_l79 tx 4 5 m) (nI n) (nI (popN (r 33) 12)) _ (nI n) S')
    simp only [f_Rn_attempt_b79, if_pos (le_rf _)]
    exact Rn_b131 hT hG h hS hl h7 h6 f1 f2 (by rw [eO]) (fun _ => by rw [eO]; exact ⟨rfl, rfl⟩)
theorem Rn_attempt {tx : Nat} {T : TX} {F : LF} {r : RW} {U : UX} {H : HX} {N : NX} {B : BX} {P : Int32} {S : Mem} (hT : TG T F) (hG : GR T r) (h : CQ tx T F r U H N B P S) {set : Int32} (hS : StK T set) {way n fd : Nat} (hl : ladP T r set way) (h7 : S.1 7 7 = nI (popN set 12)) (h5 : ∀ i, i < popN set 12 → S.2.1 7 5 i = nI (sel set i)) (h6 : ∀ i, i < popN set 12 → S.2.1 7 6 i = dig T (popN set 12) way i) (hfd : S.1 7 1 = nI fd) (hfd8 : fd ≤ 8) (hn : n ≤ 60) : Ok (atP tx T F r U H N B P set n way S) (f_Rn_attempt tx 4 5 (nI n) S) := by
  have hN := hT.1
  have h4 := hN.1.2
  have h8 := hN.2.2.1.2
  have hK := hS.2
  have h20 := h.1.1.1.1
  unfold f_Rn_attempt f_Rn_attempt_b0
  refine (St_copyOf hN h.2.1 h.2.2).b (fun c hc => ?_)
  refine lpN (P := fun m i => ∀ S', Fq 5 S S' → CG T F (rbX T r set way i).2 tx 5 S' → Ok (atP tx T F r U H N B P set n way S) (f_Rn_attempt_l8 tx 4 5 m (nI n) (nI i) S')) (popN set 12) (fun m i hi ih S' f1 f2 => ?_) (fun m S' f1 f2 => ?_) 5000 0 (by omega) (by omega) c hc.1 ((h.fq hc.1).1.1.1.g (by decide) hc.2.1 hc.2.2)
  · show Ok _ (f_Rn_attempt_b8 tx 4 5 (f_Rn_attempt_l8 tx 4 5 m) (nI n) (nI i) S')
    obtain ⟨e7, e7a⟩ := f1.e7
    have hs := hS.se hi
    have kk := rbX_kn (way := way) hT hG hS (i := i) (by omega) (sel set i)
    simp only [f_Rn_attempt_b8, e7, h7, if_neg (le_nI (show ¬ popN set 12 ≤ i by omega) (by omega) (by omega)), g4 (show i < 4 by omega), cl (show i < 4096 by omega), e7a, h6 i hi, h5 i hi, g8 (show sel set i < 8 by omega), letS_e, nI_1]
    have dlt := dgt_lt (T := T) (popN set 12) way i
    unfold rbs at dlt
    by_cases q : dgt T (popN set 12) way i = 0
    · rw [if_pos (by unfold dig; rw [if_pos q])]
      rw [rbX, if_pos (Or.inl q)] at ih
      exact ih S' f1 f2
    · have ed : dig T (popN set 12) way i = nI (dgt T (popN set 12) way i - 1) := by unfold dig; rw [if_neg q]
      rw [ed, if_neg (show ¬ nI (dgt T (popN set 12) way i - 1) = -3 from fun z => nI_pos (n := dgt T (popN set 12) way i - 1) (by omega) (by rw [z]; decide))]
      have hu := (hl i hi).resolve_left q
      rw [rbX, if_neg (by rintro (z | z); exact q z; exact hu.1 (kk.symm.trans z))] at ih
      have okI := (rbX_ok (way := way) hT hG hS i (by omega)).1
      have hI2 := okI.1.i hN hs (dgt_w q)
      have fs := (Fq.rf 5 S').s 8 (nI (sel set i)) (nI (dgt T (popN set 12) way i - 1))
      have cb := f2.2.2.2.1.i hN hs (nI (dgt T (popN set 12) way i - 1))
      refine (CG.meas hT hI2 (f2.x.fq fs (by decide)) (by decide) cb).b (fun a ha => ?_)
      refine (St_settle hN (show tx ≠ 5 by omega) h20 (by decide) ha.2.2.1 ha.2.2.2.2.1 ha.2.2.2.2.2).b (fun b hb => ?_)
      have f3 := (f1.tr fs).tr (ha.1.fq.tr hb.1)
      exact ih b f3 ((h.fq f3).1.1.1.g (by decide) hb.2.1 hb.2.2.1)
  · show Ok _ (f_Rn_attempt_b8 tx 4 5 (f_Rn_attempt_l8 tx 4 5 m) (nI n) (nI (popN set 12)) S')
    obtain ⟨e7, e7a⟩ := f1.e7
    have kq := h.fq f1
    simp only [f_Rn_attempt_b8, e7, h7, if_pos (le_rf _), kq.2.1.1.2.1, bc12 (alive_12 hN hG.1), bind_e]
    exact Rn_days79 hT hG h hS hl h7 h6 hfd hfd8 hn f1 f2
/-- the class has the best of the ways below w -/
def rwC (T : TX) (F : LF) (r : RW) (set : Int32) (n w : Nat) (S : Mem) : Prop := S.1 7 7 = nI (popN set 12) ∧ (∀ i, i < popN set 12 → S.2.1 7 5 i = nI (sel set i)) ∧ (w = 0 → S.1 7 1 = nI 8) ∧ ∀ w', w = w' + 1 → S.1 7 1 = (rbB T F r set n w').2.1 ∧ S.1 7 2 = (rbB T F r set n w').2.2.1 ∧ S.1 7 3 = (rbB T F r set n w').2.2.2 ∧ ∀ i, i < popN set 12 → S.2.1 7 4 i = dig T (popN set 12) (rbB T F r set n w').1 i
def skP (tx : Nat) (T : TX) (F : LF) (r : RW) (U : UX) (H : HX) (N : NX) (B : BX) (P : Int32) (set : Int32) (n : Nat) (S : Mem) : Prop := COK tx T F r U H N B P S ∧ S.1 7 1 = (RN T F r set n).2.1 ∧ S.1 7 2 = (RN T F r set n).2.2.1 ∧ S.1 7 3 = (RN T F r set n).2.2.2 ∧ ∀ i, i < popN set 12 → S.2.1 7 4 i = dig T (popN set 12) (RN T F r set n).1 i
theorem Rn_seek74 {tx : Nat} {T : TX} {F : LF} {r : RW} {U : UX} {H : HX} {N : NX} {B : BX} {P : Int32} {S : Mem} (hT : TG T F) (hG : GR T r) (h : CQ tx T F r U H N B P S) {set : Int32} (hS : StK T set) {n : Nat} (hn : n ≤ 60) (hR : rwC T F r set n 0 S) : Ok (skP tx T F r U H N B P set n) (f_Rn_seek_l74 tx 4 5 5000 set (nI n) (nI (rbs T ^ popN set 12)) 0 S) := by
  have hN := hT.1
  have hK := hS.2
  have p0 := pw hN (show popN set 12 < 5 by omega)
  refine lpN (P := fun m w => ∀ S', CQ tx T F r U H N B P S' → rwC T F r set n w S' → Ok (skP tx T F r U H N B P set n) (f_Rn_seek_l74 tx 4 5 m set (nI n) (nI (rbs T ^ popN set 12)) (nI w) S')) (rbs T ^ popN set 12) (fun m w hw ih S' hQ hR => ?_) (fun m S' hQ hR => ?_) 5000 0 (by omega) (by omega) S h hR
  · show Ok _ (f_Rn_seek_b74 tx 4 5 (f_Rn_seek_l74 tx 4 5 m) set (nI n) (nI (rbs T ^ popN set 12)) (nI w) S')
    obtain ⟨r7, r5, r0, rS⟩ := hR
    obtain ⟨z, ez, z1, z2, z3, z4⟩ := Rn_isLaid hT hG hQ hS r7 r5 hw
    have kz := hQ.o7 z1
    have zr : rwC T F r set n w z.2 := by
      refine ⟨by rw [z2]; exact r7, fun i hi => by rw [z3 5 (by omega)]; exact r5 i hi, fun e => by rw [z2]; exact r0 e, fun w' e => ?_⟩
      rw [z2, z3 4 (by omega)]; exact rS w' e
    simp only [f_Rn_seek_b74, if_neg (le_nI (show ¬ rbs T ^ popN set 12 ≤ w by omega) (by omega) (by omega)), ez, bind_e, nI_1]
    have stay : ∀ S2, CQ tx T F r U H N B P S2 → S2.1 7 = z.2.1 7 → (∀ f, f = 4 ∨ f = 5 → S2.2.1 7 f = z.2.2.1 7 f) → ¬ w = 0 → (∀ w', w = w' + 1 → rbB T F r set n w = rbB T F r set n w') → Ok (skP tx T F r U H N B P set n) (f_Rn_seek_l74 tx 4 5 m set (nI n) (nI (rbs T ^ popN set 12)) (nI (w + 1)) S2) := fun S2 k1 k2 k3 w0 e => by
      refine ih S2 k1 ⟨by rw [k2]; exact zr.1, fun i hi => by rw [k3 5 (by omega)]; exact zr.2.1 i hi, fun e => by omega, fun w' hw' => ?_⟩
      have : w' = w := by omega
      subst this
      cases hw0 : w' with
      | zero => exact absurd hw0 w0
      | succ u =>
        rw [← hw0, e u hw0, k2, k3 4 (by omega)]
        exact zr.2.2.2 u hw0
    rcases z4 with ⟨hl, e1, h6⟩ | ⟨hl, e1⟩
    · rw [e1, i10]
      -- what the best so far is
      have bst : ∃ fd, fd ≤ 8 ∧ z.2.1 7 1 = nI fd := by
        cases hw0 : w with
        | zero => exact ⟨8, by omega, zr.2.2.1 hw0⟩
        | succ u =>
          obtain ⟨w2, -, hb⟩ := rbB_O (T := T) (F := F) (r := r) (set := set) (n := n) u
          obtain ⟨d2, t2, c2, b1, b2, b3, eb⟩ := rbO_n hT hG hS n w2
          refine ⟨d2, by omega, ?_⟩
          rw [(zr.2.2.2 u hw0).1, hb, eb]
      obtain ⟨fd, hfd8, hfd⟩ := bst
      have go : Ok (skP tx T F r U H N B P set n) (Option.bind (f_Rn_attempt tx 4 5 (nI n) z.2) (fun q107 => f_Rn_seek_l74 tx 4 5 m set (nI n) (nI (rbs T ^ popN set 12)) (nI (w + 1)) q107)) := by
        refine (Rn_attempt hT hG kz hS hl zr.1 zr.2.1 h6 hfd hfd8 hn).b (fun a ha => ?_)
        obtain ⟨a1, a2, a3, a4⟩ := ha
        rcases a4 with ⟨lt, b1, b2, b3, b4⟩ | ⟨nlt, b1, b2⟩
        · refine ih a a1 ⟨by rw [a2 7 (by omega) (by omega) (by omega)]; exact zr.1, fun i hi => by rw [a3 5 (by omega)]; exact zr.2.1 i hi, fun e => by omega, fun w' hw' => ?_⟩
          have : w' = w := by omega
          subst this
          have e : rbB T F r set n w' = (w', rbO T F r set n w') := by
            cases hw0 : w' with
            | zero => rfl
            | succ u =>
              obtain ⟨k1, k2, k3, -⟩ := zr.2.2.2 u hw0
              rw [k1, k2, k3, hw0] at lt
              rw [rbB, if_pos lt]
          rw [e]
          exact ⟨b1, b2, b3, b4⟩
        · have w0 : ¬ w = 0 := fun e => by
            apply nlt
            obtain ⟨d1, t1, c1, c2, c3, c4, ec⟩ := rbO_n hT hG hS n w
            rw [rbLt_i, ec, zr.2.2.1 e]
            left
            show (nI d1).toInt < (nI 8).toInt
            rw [nI_toInt (by omega), nI_toInt (by omega)]; omega
          refine stay a a1 b1 (fun f hf => ?_) w0 (fun w' hw' => ?_)
          · rcases hf with rfl | rfl
            · exact b2
            · exact a3 5 (by omega)
          · obtain ⟨k1, k2, k3, -⟩ := zr.2.2.2 w' hw'
            rw [k1, k2, k3, hw'] at nlt
            rw [hw', rbB, if_neg nlt]
      unfold f_Rn_mayBeBetter f_Rn_mayBeBetter_b0
      by_cases q1 : 0 < z.2.1 7 1
      · rw [if_pos q1, bind_e, i10]; exact go
      rw [if_neg q1]
      by_cases q2 : 0 < z.2.1 7 2
      · rw [if_pos q2, bind_e, i10]; exact go
      rw [if_neg q2, Rn_whispers (way := w) hK hN zr.1 h6, bind_e]
      by_cases q3 : z.2.1 7 3 ≤ nI (cntF (fun i => ¬ dgt T (popN set 12) w i = 0) (popN set 12))
      · rw [if_pos q3, bind_e, i00]
        have w0 : ¬ w = 0 := fun e => q1 (by rw [zr.2.2.1 e]; decide)
        refine stay z.2 kz rfl (fun f _ => rfl) w0 (fun w' hw' => ?_)
        obtain ⟨k1, k2, k3, -⟩ := zr.2.2.2 w' hw'
        obtain ⟨w2, -, hb⟩ := rbB_O (T := T) (F := F) (r := r) (set := set) (n := n) w'
        obtain ⟨d2, t2, c2, b1, b2, b3, eb⟩ := rbO_n hT hG hS n w2
        obtain ⟨d1, t1, c1, a1, a2, a3, ea⟩ := rbO_n hT hG hS n w
        rw [← rbX_cnt hT hG hS hl (popN set 12) (Nat.le_refl _)] at q3
        have ec1 : nI c1 = nI (rbX T r set w (popN set 12)).1 := (congrArg (fun z => z.2.2) ea).symm
        rw [← ec1, k3, hb, eb] at q3
        rw [k1, hb, eb] at q1
        rw [k2, hb, eb] at q2
        dsimp only at q1 q2 q3
        have d20 : d2 = 0 := by
          rcases Nat.eq_zero_or_pos d2 with y | y
          · exact y
          · exact absurd (nI_lt (a := 0) y (by omega)) q1
        have t20 : t2 = 0 := by
          rcases Nat.eq_zero_or_pos t2 with y | y
          · exact y
          · exact absurd (nI_lt (a := 0) y (by omega)) q2
        have c21 := (nI_leI (by omega) (by omega)).mp q3
        have nlt : ¬ rbLt (rbO T F r set n w) (rbB T F r set n w').2 := by
          rw [rbLt_i, hb, ea, eb]
          dsimp only
          rw [nI_toInt (by omega), nI_toInt (by omega), nI_toInt (by omega), nI_toInt (by omega), nI_toInt (by omega), nI_toInt (by omega)]
          omega
        rw [hw'] at nlt
        rw [hw', rbB, if_neg nlt]
      · rw [if_neg q3, bind_e, i10]; exact go
    · rw [e1, i00]
      have w0 : ¬ w = 0 := fun e => hl (fun i hi => Or.inl (by rw [e]; unfold dgt; rw [Nat.zero_div, Nat.zero_mod]))
      refine stay z.2 kz rfl (fun f _ => rfl) w0 (fun w' hw' => ?_)
      rw [hw'] at hl hw ⊢
      exact rbB_skip hT hG hS hw hl
  · show Ok _ (f_Rn_seek_b74 tx 4 5 (f_Rn_seek_l74 tx 4 5 m) set (nI n) (nI (rbs T ^ popN set 12)) (nI (rbs T ^ popN set 12)) S')
    obtain ⟨r7, r5, r0, rS⟩ := hR
    obtain ⟨k1, k2, k3, k4⟩ := rS (rbs T ^ popN set 12 - 1) (by omega)
    simp only [f_Rn_seek_b74, if_pos (le_rf _), letS_e]
    have o7 : O7 S' (pI (pI (pI S' 7 0 1) 7 8 set) 7 9 (nI n)) := (((O7.rf S').p 0 1).p 8 set).p 9 (nI n)
    have kq := hQ.o7 o7
    exact Ok.i ⟨⟨kq.1, kq.2.1, kq.2.2, Or.inr ⟨rfl, n, hn, rfl, k1, k2, k3, k4⟩⟩, k1, k2, k3, k4⟩
theorem Rn_seek {tx : Nat} {T : TX} {F : LF} {r : RW} {U : UX} {H : HX} {N : NX} {B : BX} {P : Int32} {S : Mem} (hT : TG T F) (hG : GR T r) (h : COK tx T F r U H N B P S) {set : Int32} (hS : StK T set) {n : Nat} (hn : n ≤ 60) : Ok (skP tx T F r U H N B P set n) (f_Rn_seek tx 4 5 set (nI n) S) := by
  have hN := hT.1
  have hK := hS.2
  have new : Ok (skP tx T F r U H N B P set n) (f_Rn_seek_b26 tx 4 5 set (nI n) S) := by
    unfold f_Rn_seek_b26
    have hQ : CQ tx T F r U H N B P S := ⟨h.1, h.2.1, h.2.2.1⟩
    refine (Rn_choose hN h.1.1.1.2.1 h.1.1.1.1 hS).b (fun c hc => ?_)
    rw [letS_e]
    have o7 := hc.1.p 1 8
    have kq := hQ.o7 o7
    have hr : rwC T F r set n 0 (pI c 7 1 8) := ⟨hc.2.1, hc.2.2.2, fun _ => rfl, fun w' hw' => by omega⟩
    generalize pI c 7 1 8 = c2 at kq hr ⊢
    refine lpN (P := fun m j => Ok (skP tx T F r U H N B P set n) (f_Rn_seek_l45 tx 4 5 m set (nI n) (nI (rbs T ^ j)) (nI j) c2)) (popN set 12) (fun m j hj ih => ?_) (fun m => ?_) 5000 0 (by omega) (by omega)
    · show Ok _ (f_Rn_seek_b45 tx 4 5 (f_Rn_seek_l45 tx 4 5 m) set (nI n) (nI (rbs T ^ j)) (nI j) c2)
      simp only [f_Rn_seek_b45, hr.1, if_neg (le_nI (show ¬ popN set 12 ≤ j by omega) (by omega) (by omega)), kq.1.1.1.2.1.1.1, hN.1.1, nI_1, letS_e, iM]
      exact ih
    · show Ok _ (f_Rn_seek_b45 tx 4 5 (f_Rn_seek_l45 tx 4 5 m) set (nI n) (nI (rbs T ^ popN set 12)) (nI (popN set 12)) c2)
      simp only [f_Rn_seek_b45, hr.1, if_pos (le_rf _)]
      exact Rn_seek74 hT hG kq hS hn hr
  unfold f_Rn_seek f_Rn_seek_b0
  rcases h.2.2.2 with e | ⟨e, n', hn', e9, c1, c2, c3, c4⟩
  · rw [e, i00]; exact new
  · rw [e, i10]
    by_cases q1 : set = S.1 7 8
    · rw [if_pos q1]
      by_cases q2 : nI n = S.1 7 9
      · rw [if_pos q2]
        rw [e9] at q2
        have : n = n' := (nI_eq (by omega) (by omega)).mp q2
        subst this
        rw [← q1] at c1 c2 c3 c4
        exact Ok.i ⟨h, c1, c2, c3, c4⟩
      · rw [if_neg q2]; exact new
    · rw [if_neg q1]; exact new
