/-! RAIN: the reference. -/
theorem pw_t : ∀ B, B < 6 → ∀ m, m < 5 → B ^ m ≤ 625 ∧ (B = 0 ∨ 1 ≤ B ^ m) := by decide +kernel
theorem pw {T : TX} (hN : TN T) {m : Nat} (hm : m < 5) : 1 ≤ rbs T ^ m ∧ rbs T ^ m ≤ 625 := by
  have h4 := hN.1.2
  have k := pw_t (rbs T) (by unfold rbs; omega) m hm
  exact ⟨k.2.resolve_left (by unfold rbs; omega), k.1⟩
theorem pw_s {B m : Nat} (h : 1 ≤ B) : B ^ (m + 1) / B = B ^ m := by rw [Nat.pow_succ]; exact Nat.mul_div_cancel _ (by omega)
theorem popN_hi {x : Int32} {m : Nat} (h : ∀ i, m ≤ i → i < 32 → bt x i = false) : ∀ n, m ≤ n → n ≤ 32 → popN x n = popN x m
  | 0, h1, _ => by have : m = 0 := by omega
                   rw [this]
  | n + 1, h1, h2 => by
    rcases Nat.lt_or_ge n m with q | q
    · have : m = n + 1 := by omega
      rw [this]
    · simp only [popN]
      rw [if_neg (by rw [h n q (by omega)]; decide), popN_hi h n q (by omega), Nat.add_zero]
theorem Mo_rainsBy {v : Nat} {T : TX} {F : LF} {r : RW} {U : UX} {H : HX} {N : NX} {B : BX} {P : Int32} {S : Mem} (hT : TG T F) (hG : GR T r) (h : MOK v T F r U H N B P S) {set : Int32} (hS : StK T set) {way : Nat} (hw : way < rbs T ^ popN set 12) : Ok (fun z : Int32 × Mem => z.1 = nI (rbA T r set way).1 ∧ Fr S z.2 ∧ MR (rbA T r set way).2 z.2 ∧ z.2.1 0 58 = T 0 6) (f_Mo_rainsBy set (nI way) (nI (rbs T ^ popN set 12)) S) := by
  have hN := hT.1
  have h4 := hN.1.2
  have h8 := hN.2.2.1.2
  have hK := hS.2
  have eK : popN set 12 = popN set (nS T) := popN_hi hS.1 12 (by omega) (by omega)
  have p0 := pw hN (show popN set 12 < 5 by omega)
  unfold f_Mo_rainsBy f_Mo_rainsBy_b0
  refine (Mo_copies h.1.1 h.2.1).b (fun q hq => ?_)
  refine lpN (P := fun m s => ∀ S', Fr S S' → MR (rbX T r set way (popN set s)).2 S' → S'.1 0 58 = T 0 6 → Ok (fun z : Int32 × Mem => z.1 = nI (rbA T r set way).1 ∧ Fr S z.2 ∧ MR (rbA T r set way).2 z.2 ∧ z.2.1 0 58 = T 0 6) (f_Mo_rainsBy_l13 m set (nI way) (nI (rbs T ^ (popN set 12 - popN set s))) (nI (rbX T r set way (popN set s)).1) (nI s) S')) (nS T) (fun m s hs ih S' hf hr e58 => ?_) (fun m S' hf hr e58 => ?_) 5000 0 (by omega) (by omega) q hq.1 hq.2.1 hq.2.2
  · show Ok _ (f_Mo_rainsBy_b13 (f_Mo_rainsBy_l13 m) set (nI way) _ _ (nI s) S')
    have tm := h.1.fr hf
    obtain ⟨hv, e18, ⟨e24, -, e30, -⟩, -⟩ := id tm.1
    simp only [f_Mo_rainsBy_b13, e18, g2 hv, cl (show v < 4096 by omega), e30, e24, hN.2.2.1.1, hN.1.1, if_neg (le_nI (show ¬ nS T ≤ s by omega) (by omega) (by omega)), nI_1, show ((set >>> (nI s &&& 31)) &&& 1) = bitOf set s from rfl]
    by_cases qb : bitOf set s = 0
    · rw [if_pos qb]
      have b0 := (bitOf_0 _ (by omega)).mp qb
      have ep : popN set (s + 1) = popN set s := by simp only [popN]; rw [if_neg (by rw [b0]; decide), Nat.add_zero]
      rw [ep] at ih
      exact ih S' hf hr e58
    · have b1 := (bitOf_1 _ (by omega)).mp (bit_n0 qb)
      have ep : popN set (s + 1) = popN set s + 1 := by simp only [popN]; rw [if_pos b1]
      have es := sel_at (set := set) (s := s) (by omega) b1
      have hi : popN set s < popN set 12 := by have := popN_st b1 12 (by omega); omega
      rw [ep] at ih
      generalize popN set s = i at ih es hi hr ⊢
      have pi1 := pw hN (show popN set 12 - 1 - i < 5 by omega)
      have pi2 := pw hN (show popN set 12 - i < 5 by omega)
      have hb1 : 1 ≤ rbs T := by unfold rbs; omega
      have hb5 : rbs T ≤ 5 := by unfold rbs; omega
      have er : rbs T ^ (popN set 12 - i) / rbs T = rbs T ^ (popN set 12 - 1 - i) := by
        rw [show popN set 12 - i = (popN set 12 - 1 - i) + 1 by omega]; exact pw_s hb1
      have gz : ∀ (x : Nat), 1 ≤ x → x < 2 ^ 31 → ∀ {α : Type} (k : Option α), gNz (nI x) k = k := fun x h1 h2 α k => if_neg (nI_ne0 (by omega) h2)
      rw [if_neg qb, show nW T + 1 = rbs T from rfl, gz _ hb1 (by omega), letS_e, pk_div (by omega) (by omega) (by omega), er, gz _ pi1.1 (by omega), gz _ hb1 (by omega), letS_e, pk_div (by omega) (by omega) (by omega), pk_rem (Nat.lt_of_le_of_lt (Nat.div_le_self _ _) (by omega)) (by omega) (by omega)]
      have ed : way / rbs T ^ (popN set 12 - 1 - i) % rbs T = dgt T (popN set 12) way i := rfl
      rw [ed]
      have e1 : popN set 12 - (i + 1) = popN set 12 - 1 - i := by omega
      rw [e1] at ih
      have eX : rbX T r set way (i + 1) = if dgt T (popN set 12) way i = 0 ∨ knB T (rbX T r set way i).2 s = 0 then rbX T r set way i else ((rbX T r set way i).1 + 1, iter (cutR T) (nW T) (upd (rbX T r set way i).2 (4 + s) (nI (dgt T (popN set 12) way i - 1)))) := by
        rw [rbX, es]
      by_cases qd : dgt T (popN set 12) way i = 0
      · rw [qd, if_pos (by decide)]
        rw [eX, if_pos (Or.inl qd)] at ih
        exact ih S' hf hr e58
      · have ee : nI (dgt T (popN set 12) way i) - 1 = nI (dgt T (popN set 12) way i - 1) := by
          have := nI_pred (dgt T (popN set 12) way i - 1)
          rwa [Nat.sub_add_cancel (by omega)] at this
        have dw := dgt_w qd
        rw [ee, if_neg (nI_pos (by omega)), Mo_knownBy hN tm.1 hr, bind_e]
        by_cases qk : knB T (rbX T r set way i).2 s = 0
        · rw [if_pos qk]
          rw [eX, if_pos (Or.inr qk)] at ih
          exact ih S' hf hr e58
        · rw [if_neg qk, a4, g40 (by omega), letS_e]
          rw [eX, if_neg (by rintro (z | z); exact qd z; exact qk z)] at ih
          have f1 := hf.tr (Fr.s (i := nI (4 + s)) (x := nI (dgt T (popN set 12) way i - 1)) sc57)
          have r1 := MR_s hr (i := 4 + s) (by omega) (nI (dgt T (popN set 12) way i - 1))
          refine (Mo_cutsWater hN (h.1.fr f1).1 r1).b (fun c hc => ?_)
          exact ih c (f1.tr hc.1) hc.2.1 (by rw [hc.2.2]; exact e58)
  · show Ok _ (f_Mo_rainsBy_b13 (f_Mo_rainsBy_l13 m) set (nI way) _ _ (nI (nS T)) S')
    obtain ⟨hv, e18, ⟨-, -, e30, -⟩, -⟩ := (h.1.fr hf).1
    rw [← eK] at hr ⊢
    simp only [f_Mo_rainsBy_b13, e18, g2 hv, cl (show v < 4096 by omega), e30, hN.2.2.1.1, if_pos (le_rf _)]
    exact Ok.i ⟨rfl, hf, hr, e58⟩
theorem Mo_thirstAll {v : Nat} {T : TX} {r : RW} {S : Mem} (hN : TN T) (hV : TV v T S) (hr : MR r S) : f_Mo_thirstAll S = some (thr T r) := by
  have h7 := hN.2.1.2
  obtain ⟨hv, e18, ⟨-, e27, -, -⟩, -⟩ := id hV
  refine lpN (P := fun n a => f_Mo_thirstAll_l4 S n (sumF (fun a => if bitOf (r 33) a = 1 then r (19 + a) else 0) a) (nI a) = some (thr T r)) (nM T) (fun n a ha ih => ?_) (fun n => ?_) 5000 0 (by omega) (by omega)
  · show f_Mo_thirstAll_b4 S (f_Mo_thirstAll_l4 S n) _ (nI a) = _
    rw [← ih]
    simp only [f_Mo_thirstAll_b4, e18, g2 hv, cl (show v < 4096 by omega), e27, hN.2.1.1, if_neg (le_nI (show ¬ nM T ≤ a by omega) (by omega) (by omega)), Mo_isAlive hr, bind_e, a19, g40 (show 19 + a < 40 by omega), cl (show 19 + a < 4096 by omega), hr (19 + a) (by omega), letS_e, nI_1]
    by_cases q : bitOf (r 33) a = 0
    · rw [if_pos q, sumF_0 (f := fun a => if bitOf (r 33) a = 1 then r (19 + a) else 0) (by rw [if_neg (by rw [q]; decide)])]
    · rw [if_neg q]; simp only [sumF]; rw [if_pos (bit_n0 q)]
  · show f_Mo_thirstAll_b4 S (f_Mo_thirstAll_l4 S n) _ (nI (nM T)) = _
    simp only [f_Mo_thirstAll_b4, e18, g2 hv, cl (show v < 4096 by omega), e27, hN.2.1.1, if_pos (le_rf _)]
    rfl
theorem thr_b {T : TX} {r : RW} (hN : TN T) (hTI : TI T r) : ∃ t, t ≤ 700 ∧ thr T r = nI t := by
  have h7 := hN.2.1.2
  obtain ⟨v, h1, h2⟩ := sum_b (f := fun a => if bitOf (r 33) a = 1 then r (19 + a) else 0) (m := 99) (by omega) (nM T) (by omega) (fun j hj => by
    obtain ⟨n, hn, e, -⟩ := hTI j hj
    split
    · exact ⟨n, hn, e⟩
    · exact ⟨0, by omega, rfl⟩)
  exact ⟨v, by omega, h2⟩
theorem days_sub {T : TX} {F : LF} {sd : Int32} {r : RW} (hT : TG T F) (hG : GR T r) {i : Nat} : ∀ n, bt (days T F sd n r 33) i = true → bt (r 33) i = true
  | 0, h => h
  | n + 1, h => days_sub hT hG n (day_sub hT.1 hT.2.2.1 (GR.days (sd := sd) hT hG n).1 h)
theorem dead_n {T : TX} {F : LF} {sd : Int32} {r q : RW} (hT : TG T F) (hG : GR T q) (e : q 33 = r 33) (hr : ∀ i, nM T ≤ i → i < 32 → bt (r 33) i = false) (n : Nat) : bits (r 33) - bits (days T F sd n q 33) = nI (popN (r 33) 12 - popN (days T F sd n q 33) 12) ∧ popN (days T F sd n q 33) 12 ≤ popN (r 33) 12 ∧ popN (r 33) 12 ≤ 7 := by
  have h7 := hT.1.2.1.2
  have h1 : popN (days T F sd n q 33) 12 ≤ popN (r 33) 12 := popN_mono 12 (fun i _ hb => by rw [← e]; exact days_sub hT hG n hb)
  rw [bits_pop, bits_pop, pk_sub h1]
  exact ⟨rfl, h1, by have := popN_m hr 12 (by omega); omega⟩
theorem rbO_n {T : TX} {F : LF} {r : RW} {set : Int32} (hT : TG T F) (hG : GR T r) (hS : StK T set) (n way : Nat) : ∃ d t c, d ≤ 7 ∧ t ≤ 700 ∧ c ≤ 4 ∧ rbO T F r set n way = (nI d, nI t, nI c) := by
  have ok := rbX_ok (way := way) hT hG hS (popN set 12) (Nat.le_refl _)
  obtain ⟨e1, e2, e3⟩ := dead_n (F := F) (sd := T 0 6) (r := r) hT ok.1 (ok.2.1 33 (by omega)) hG.1.1 n
  obtain ⟨t, h1, h2⟩ := thr_b hT.1 (GR.days (F := F) (sd := T 0 6) hT ok.1 n).2.2.2
  have hK := hS.2
  refine ⟨popN (r 33) 12 - popN (days T F (T 0 6) n (rbX T r set way (popN set 12)).2 33) 12, t, (rbA T r set way).1, by omega, h1, by have := ok.2.2.2; unfold rbA; omega, ?_⟩
  unfold rbO
  rw [← h2]
  unfold rbA
  rw [e1]
theorem rbB_O {T : TX} {F : LF} {r : RW} {set : Int32} {n : Nat} : ∀ w, ∃ w', w' ≤ w ∧ rbB T F r set n w = (w', rbO T F r set n w')
  | 0 => ⟨0, Nat.le_refl _, rfl⟩
  | w + 1 => by
    obtain ⟨w', h1, h2⟩ := rbB_O (T := T) (F := F) (r := r) (set := set) (n := n) w
    rw [rbB]
    split
    · exact ⟨w + 1, Nat.le_refl _, rfl⟩
    · exact ⟨w', by omega, h2⟩
theorem sub_lt {a b : Nat} (ha : a < 2 ^ 30) (hb : b < 2 ^ 30) : nI a - nI b < 0 ↔ nI a < nI b := by
  rw [nI_ltI (by omega) (by omega)]
  rcases Nat.lt_or_ge a b with q | q
  · exact ⟨fun _ => q, fun _ => pk_sneg hb q⟩
  · rw [pk_sub q]
    exact ⟨fun z => absurd z (nI_pos (by omega)), fun z => by omega⟩
theorem MOK.p62 {v : Nat} {T : TX} {F : LF} {r : RW} {U : UX} {H : HX} {N : NX} {B : BX} {P : Int32} {S : Mem} (h : MOK v T F r U H N B P S) {k : Nat} (hk : k = 62 ∨ k = 63 ∨ k = 64 ∨ k = 65) (x : Int32) : MOK v T F r U H N B P (pI S 0 k x) := by
  obtain ⟨h1, h2, h3, h4, h5, h6, h7, h8⟩ := h
  have e : ∀ j, j < 62 ∨ 65 < j → (pI S 0 k x).1 0 j = S.1 0 j := fun j hj => by rw [pI_1, if_neg (by omega)]
  refine ⟨h1.of (e 18 (by omega)) (fun f _ _ => rfl), h2, ?_, h4, ?_, ?_, ?_, h8⟩
  · rw [e 60 (by omega)]; exact h3
  · rw [e 68 (by omega)]; exact h5
  · rw [e 2 (by omega)]; exact h6
  · rw [e 17 (by omega)]; exact h7
/-- the reference has the best of the ways below w -/
def rwM (T : TX) (F : LF) (r : RW) (set : Int32) (n w : Nat) (S : Mem) : Prop := (w = 0 → S.1 0 62 = -1) ∧ ∀ w', w = w' + 1 → S.1 0 62 = nI (rbB T F r set n w').1 ∧ S.1 0 63 = (rbB T F r set n w').2.1 ∧ S.1 0 64 = (rbB T F r set n w').2.2.1 ∧ S.1 0 65 = (rbB T F r set n w').2.2.2
theorem Mo_rains42 {v : Nat} {T : TX} {F : LF} {r : RW} {U : UX} {H : HX} {N : NX} {B : BX} {P : Int32} {S : Mem} (hT : TG T F) (hG : GR T r) (h : MOK v T F r U H N B P S) {set : Int32} (hS : StK T set) {n : Nat} (hn : n ≤ 60) (h62 : S.1 0 62 = -1) : Ok (fun S' => MOK v T F r U H N B P S' ∧ rwM T F r set n (rbs T ^ popN set 12) S') (f_Mo_rains_l42 5000 set (nI n) (nI (rbs T ^ popN set 12)) 0 S) := by
  have hN := hT.1
  have hK := hS.2
  have p0 := pw hN (show popN set 12 < 5 by omega)
  refine lpN (P := fun m w => ∀ S', MOK v T F r U H N B P S' → rwM T F r set n w S' → Ok (fun S' => MOK v T F r U H N B P S' ∧ rwM T F r set n (rbs T ^ popN set 12) S') (f_Mo_rains_l42 m set (nI n) (nI (rbs T ^ popN set 12)) (nI w) S')) (rbs T ^ popN set 12) (fun m w hw ih S' hM hR => ?_) (fun m S' hM hR => ?_) 5000 0 (by omega) (by omega) S h ⟨fun _ => h62, fun w' hw' => by omega⟩
  · show Ok _ (f_Mo_rains_b42 (f_Mo_rains_l42 m) set (nI n) (nI (rbs T ^ popN set 12)) (nI w) S')
    obtain ⟨z, ez, z1, z2, z3, z4⟩ := Mo_rainsBy hT hG hM hS hw
    have hM1 := hM.fr z2
    have ok := rbX_ok (way := w) hT hG hS (popN set 12) (Nat.le_refl _)
    obtain ⟨y, ey, y1, y2⟩ := Mo_goes hN hM1.1.1 hM1.1.2 hT.2.2.2.2 z3 ok.1.1.2.2.2.2 hT.2.2.1 (n := n) (by omega)
    rw [z4] at y2
    have hM2 := hM1.fr y1.1
    have hF := z2.tr y1.1
    have e62 : y.1 0 62 = S'.1 0 62 := hF.1 62 (by unfold scI; decide)
    have e63 : y.1 0 63 = S'.1 0 63 := hF.1 63 (by unfold scI; decide)
    have e64 : y.1 0 64 = S'.1 0 64 := hF.1 64 (by unfold scI; decide)
    have e65 : y.1 0 65 = S'.1 0 65 := hF.1 65 (by unfold scI; decide)
    simp only [f_Mo_rains_b42, if_neg (le_nI (show ¬ rbs T ^ popN set 12 ≤ w by omega) (by omega) (by omega)), ez, bind_e, letS_e, z1, ey, g33, ic_33, hM2.2.1 33 (by decide), y2 33 (by decide), Mo_bits, Mo_thirstAll hN hM2.1.1 y2, e62, e63, e64, e65]
    have eO : rbO T F r set n w = (bits (r 33) - bits (days T F (T 0 6) n (rbA T r set w).2 33), thr T (days T F (T 0 6) n (rbA T r set w).2), nI (rbA T r set w).1) := rfl
    generalize bits (r 33) - bits (days T F (T 0 6) n (rbA T r set w).2 33) = oD at eO ⊢
    generalize thr T (days T F (T 0 6) n (rbA T r set w).2) = oT at eO ⊢
    generalize nI (rbA T r set w).1 = oW at eO ⊢
    -- what is put down
    have put : (rbB T F r set n w = (w, rbO T F r set n w)) → Ok (fun S' => MOK v T F r U H N B P S' ∧ rwM T F r set n (rbs T ^ popN set 12) S') (f_Mo_rains_l42 m set (nI n) (nI (rbs T ^ popN set 12)) (nI (w + 1)) (pI (pI (pI (pI y 0 62 (nI w)) 0 63 oD) 0 64 oT) 0 65 oW)) := fun e => by
      refine ih _ ((((hM2.p62 (by omega) _).p62 (by omega) _).p62 (by omega) _).p62 (by omega) _) ⟨fun z => by omega, fun w' hw' => ?_⟩
      have : w' = w := by omega
      subst this
      rw [e, eO]
      exact ⟨rfl, rfl, rfl, rfl⟩
    have stay : (∀ w', w = w' + 1 → rbB T F r set n w = rbB T F r set n w') → ¬ w = 0 → Ok (fun S' => MOK v T F r U H N B P S' ∧ rwM T F r set n (rbs T ^ popN set 12) S') (f_Mo_rains_l42 m set (nI n) (nI (rbs T ^ popN set 12)) (nI (w + 1)) y) := fun e w0 => by
      refine ih _ hM2 ⟨fun z => by omega, fun w' hw' => ?_⟩
      have : w' = w := by omega
      subst this
      cases hw0 : w' with
      | zero => exact absurd hw0 w0
      | succ u =>
        rw [← hw0, e u hw0, e62, e63, e64, e65]
        exact hR.2 u hw0
    cases hw0 : w with
    | zero =>
      rw [hR.1 hw0, if_neg (by decide)]
      unfold f_Mo_rains_b148
      rw [if_pos (by decide), letS_e, letS_e, letS_e, letS_e, nI_1]
      have pp := put (by rw [hw0]; rfl)
      rw [hw0] at pp
      exact pp
    | succ u =>
      obtain ⟨k1, k2, k3, k4⟩ := hR.2 u hw0
      obtain ⟨w2, -, hb⟩ := rbB_O (T := T) (F := F) (r := r) (set := set) (n := n) u
      obtain ⟨d2, t2, c2, b1, b2, b3, eb⟩ := rbO_n hT hG hS n w2
      obtain ⟨d1, t1, c1, a1, a2, a3, ea⟩ := rbO_n hT hG hS n w
      rw [hb, eb] at k1 k2 k3 k4
      dsimp only at k1 k2 k3 k4
      rw [ea] at eO
      have eD : oD = nI d1 := (congrArg (fun z => z.1) eO).symm
      have eT : oT = nI t1 := (congrArg (fun z => z.2.1) eO).symm
      have eW : oW = nI c1 := (congrArg (fun z => z.2.2) eO).symm
      have hw2 : w2 ≤ u := by
        obtain ⟨w3, h3, e3⟩ := rbB_O (T := T) (F := F) (r := r) (set := set) (n := n) u
        have : w3 = w2 := by rw [e3] at hb; exact congrArg (fun z => z.1) hb
        omega
      have key : (rbLt (rbO T F r set n w) (rbB T F r set n u).2 → rbB T F r set n w = (w, rbO T F r set n w)) ∧ (¬ rbLt (rbO T F r set n w) (rbB T F r set n u).2 → rbB T F r set n w = rbB T F r set n u) := by
        rw [hw0, rbB]
        exact ⟨fun z => if_pos z, fun z => if_neg z⟩
      have elt : rbLt (rbO T F r set n w) (rbB T F r set n u).2 ↔ rbLt (nI d1, nI t1, nI c1) (nI d2, nI t2, nI c2) := by rw [hb, ea, eb]
      have fin : ∀ x : Int32, (x < 0 ↔ rbLt (nI d1, nI t1, nI c1) (nI d2, nI t2, nI c2)) → Ok (fun S' => MOK v T F r U H N B P S' ∧ rwM T F r set n (rbs T ^ popN set 12) S') (f_Mo_rains_b148 (f_Mo_rains_l42 m) set (nI n) (nI (rbs T ^ popN set 12)) (nI (u + 1)) oW oD oT x y) := fun x hx => by
        unfold f_Mo_rains_b148
        rw [← hw0]
        by_cases q : x < 0
        · rw [if_pos q, letS_e, letS_e, letS_e, letS_e, nI_1]
          exact put (key.1 (elt.mpr (hx.mp q)))
        · rw [if_neg q, nI_1]
          exact stay (fun w' hw' => by rw [key.2 (fun z => q (hx.mpr (elt.mp z))), show w' = u by omega]) (by omega)
      rw [k1, if_pos (show (0 : Int32) ≤ nI w2 from nI_le (a := 0) (by omega) (by omega)), k2, k3, k4]
      by_cases q1 : oD = nI d2
      · rw [if_pos q1]
        rw [eD] at q1
        by_cases q2 : oT = nI t2
        · rw [if_pos q2]
          rw [eT] at q2
          refine fin _ ?_
          rw [eW, sub_lt (by omega) (by omega)]
          unfold rbLt
          rw [if_pos q1, if_pos q2]
        · rw [if_neg q2]
          rw [eT] at q2
          refine fin _ ?_
          rw [eT, sub_lt (by omega) (by omega)]
          unfold rbLt
          rw [if_pos q1, if_neg q2]
      · rw [if_neg q1]
        rw [eD] at q1
        refine fin _ ?_
        rw [eD, sub_lt (by omega) (by omega)]
        unfold rbLt
        rw [if_neg q1]
  · show Ok _ (f_Mo_rains_b42 (f_Mo_rains_l42 m) set (nI n) (nI (rbs T ^ popN set 12)) (nI (rbs T ^ popN set 12)) S')
    simp only [f_Mo_rains_b42, if_pos (le_rf _)]
    exact Ok.i ⟨hM, hR⟩
theorem Mo_rains {v : Nat} {T : TX} {F : LF} {r : RW} {U : UX} {H : HX} {N : NX} {B : BX} {P : Int32} {S : Mem} (hT : TG T F) (hG : GR T r) (h : MOK v T F r U H N B P S) {set : Int32} (hS : StK T set) {n : Nat} (hn : n ≤ 60) : Ok (fun S' => MOK v T F r U H N B P S' ∧ rwM T F r set n (rbs T ^ popN set 12) S') (f_Mo_rains set (nI n) S) := by
  have hN := hT.1
  have hK := hS.2
  have hv := h.1.1.1
  refine lpN (P := fun m j => Ok (fun S' => MOK v T F r U H N B P S' ∧ rwM T F r set n (rbs T ^ popN set 12) S') (f_Mo_rains_l5 m set (nI n) (nI (rbs T ^ j)) (nI j) S)) (popN set 12) (fun m j hj ih => ?_) (fun m => ?_) 5000 0 (by omega) (by omega)
  · show Ok _ (f_Mo_rains_b5 (f_Mo_rains_l5 m) set (nI n) (nI (rbs T ^ j)) (nI j) S)
    simp only [f_Mo_rains_b5, Mo_bits, bind_e, bits_pop, if_neg (le_nI (show ¬ popN set 12 ≤ j by omega) (by omega) (by omega)), h.1.1.2.1, g2 hv, cl (show v < 4096 by omega), h.1.1.2.2.1.1, hN.1.1, nI_1, letS_e, iM]
    exact ih
  · show Ok _ (f_Mo_rains_b5 (f_Mo_rains_l5 m) set (nI n) (nI (rbs T ^ popN set 12)) (nI (popN set 12)) S)
    simp only [f_Mo_rains_b5, Mo_bits, bind_e, bits_pop, if_pos (le_rf _), letS_e]
    exact Mo_rains42 hT hG (h.p62 (by omega) _) hS hn rfl
