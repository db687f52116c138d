/-! RAIN: the class. -/
/-- only the cloud is changed -/
def O7 (S S' : Mem) : Prop := (∀ o, o ≠ 7 → S'.1 o = S.1 o) ∧ (∀ o f, o ≠ 7 → S'.2.1 o f = S.2.1 o f) ∧ S'.2.2 = S.2.2
theorem O7.rf (S : Mem) : O7 S S := ⟨fun _ _ => rfl, fun _ _ _ => rfl, rfl⟩
theorem O7.tr {A B C : Mem} (h1 : O7 A B) (h2 : O7 B C) : O7 A C := ⟨fun o h => (h2.1 o h).trans (h1.1 o h), fun o f h => (h2.2.1 o f h).trans (h1.2.1 o f h), h2.2.2.trans h1.2.2⟩
theorem O7.s {S S' : Mem} (h : O7 S S') (f : Nat) (i x : Int32) : O7 S (sA S' 7 f i x) := ⟨h.1, fun o f' a => by rw [sA_2, if_neg (fun z => a z.1)]; exact h.2.1 o f' a, h.2.2⟩
theorem O7.p {S S' : Mem} (h : O7 S S') (k : Nat) (x : Int32) : O7 S (pI S' 7 k x) := ⟨fun o ho => by rw [← h.1 o ho]; funext k'; rw [pI_1, if_neg (fun z => ho z.1)], h.2.1, h.2.2⟩
theorem O7.c {S S' : Mem} (h : O7 S S') (o f f2 : Nat) (a b n : Int32) : O7 S (sCp S' o f 7 f2 a b n) := ⟨h.1, fun o f' q => by rw [sCp_2, if_neg (fun z => q z.1)]; exact h.2.1 o f' q, h.2.2⟩
theorem CXt.o7 {T : TX} {F : LF} {tx : Nat} {S S' : Mem} (h : CXt T F tx S) (hf : O7 S S') : CXt T F tx S' := h.of (fun o ho => hf.1 o (by omega)) (fun o f ho _ => hf.2.1 o f (by omega)) (by rw [hf.1 0 (by omega)]) (by rw [hf.1 0 (by omega)])
theorem CR.o7 {tx : Nat} {T : TX} {F : LF} {U : UX} {H : HX} {N : NX} {B : BX} {P : Int32} {S S' : Mem} (h : CR tx T F U H N B P S) (hf : O7 S S') : CR tx T F U H N B P S' := by
  obtain ⟨h1, h2, h3, h4, h5, h6, h7⟩ := h
  unfold CR
  rw [hf.1 0 (by omega), hf.1 1 (by omega), hf.1 9 (by omega), hf.2.1 10 0 (by omega), hf.2.1 11 0 (by omega), hf.2.1 9 1 (by omega), hf.2.1 9 2 (by omega), hf.2.1 9 3 (by omega), hf.2.1 1 1 (by omega), hf.2.2]
  exact ⟨h1.o7 hf, h2, h3, h4, h5, h6, h7⟩
theorem CB.o7 {T : TX} {r : RW} {st : Nat} {S S' : Mem} (h : CB T r st S) (hst : st < 6) (hf : O7 S S') : CB T r st S' := by
  unfold CB
  rw [hf.1 st (by omega), hf.2.1 st 4 (by omega), hf.2.1 st 5 (by omega), hf.2.1 st 6 (by omega), hf.2.1 st 7 (by omega), hf.2.1 st 8 (by omega)]
  exact h
theorem CM.o7 {T : TX} {r : RW} {st : Nat} {S S' : Mem} (h : CM T r st S) (hst : st < 6) (hf : O7 S S') : CM T r st S' := h.o (fun f _ _ => hf.2.1 st f (by omega))
/-- all that the class holds but the cloud -/
def CQ (tx : Nat) (T : TX) (F : LF) (r : RW) (U : UX) (H : HX) (N : NX) (B : BX) (P : Int32) (S : Mem) : Prop := CR tx T F U H N B P S ∧ CB T r 4 S ∧ CM T r 4 S
theorem CQ.o7 {tx : Nat} {T : TX} {F : LF} {r : RW} {U : UX} {H : HX} {N : NX} {B : BX} {P : Int32} {S S' : Mem} (h : CQ tx T F r U H N B P S) (hf : O7 S S') : CQ tx T F r U H N B P S' := ⟨h.1.o7 hf, h.2.1.o7 (by decide) hf, h.2.2.o7 (by decide) hf⟩
theorem CQ.fq {tx : Nat} {T : TX} {F : LF} {r : RW} {U : UX} {H : HX} {N : NX} {B : BX} {P : Int32} {S S' : Mem} (h : CQ tx T F r U H N B P S) (hf : Fq 5 S S') : CQ tx T F r U H N B P S' := ⟨h.1.fq hf (Or.inr rfl), h.2.1.fq5 hf, h.2.2.o (fun f _ _ => hf.2.1 4 f (by omega) (by omega) (by omega))⟩
theorem Fq.e7 {S S' : Mem} (h : Fq 5 S S') : S'.1 7 = S.1 7 ∧ ∀ f, S'.2.1 7 f = S.2.1 7 f := ⟨h.1 7 (by omega), fun f => h.2.1 7 f (by omega) (by omega) (by omega)⟩
theorem Rn_choose {tx : Nat} {T : TX} {S : Mem} (hN : TN T) (hC : CT T tx S) (h20 : 20 ≤ tx) {set : Int32} (hS : StK T set) : Ok (fun S' => O7 S S' ∧ S'.1 7 7 = nI (popN set 12) ∧ (∀ k, k ≠ 7 → S'.1 7 k = S.1 7 k) ∧ ∀ i, i < popN set 12 → S'.2.1 7 5 i = nI (sel set i)) (f_Rn_choose tx set S) := by
  have h8 := hN.2.2.1.2
  have hK := hS.2
  have eK : popN set 12 = popN set (nS T) := popN_hi hS.1 12 (by omega) (by omega)
  unfold f_Rn_choose f_Rn_choose_b0
  rw [letS_e]
  refine lpN (P := fun n s => ∀ S', O7 S S' → S'.1 7 7 = nI (popN set s) → (∀ k, k ≠ 7 → S'.1 7 k = S.1 7 k) → (∀ i, i < popN set s → S'.2.1 7 5 i = nI (sel set i)) → Ok (fun S' => O7 S S' ∧ S'.1 7 7 = nI (popN set 12) ∧ (∀ k, k ≠ 7 → S'.1 7 k = S.1 7 k) ∧ ∀ i, i < popN set 12 → S'.2.1 7 5 i = nI (sel set i)) (f_Rn_choose_l7 tx n set (nI s) S')) (nS T) (fun n s hs ih S' f1 f2 f3 f4 => ?_) (fun n S' f1 f2 f3 f4 => ?_) 5000 0 (by omega) (by omega) _ ((O7.rf S).p 7 0) rfl (fun k hk => by rw [pI_1, if_neg (by omega)]) (fun i hi => absurd hi (Nat.not_lt_zero _))
  · show Ok _ (f_Rn_choose_b7 tx (f_Rn_choose_l7 tx n) set (nI s) S')
    have e2 : S'.1 tx 2 = T 0 2 := by rw [f1.1 tx (by omega)]; exact hC.1.2.2.1
    have hps : popN set s ≤ popN set 12 := popN_up set 12 (by omega)
    simp only [f_Rn_choose_b7, e2, hN.2.2.1.1, if_neg (le_nI (show ¬ nS T ≤ s by omega) (by omega) (by omega)), f2, show ((set >>> (nI s &&& 31)) &&& 1) = bitOf set s from rfl, nI_1]
    by_cases qb : bitOf set s = 0
    · have b0 := (bitOf_0 _ (by omega)).mp qb
      have ep : popN set (s + 1) = popN set s := by simp only [popN]; rw [if_neg (by rw [b0]; decide), Nat.add_zero]
      by_cases q4 : (4 : Int32) ≤ nI (popN set s)
      · have h4 := (nI_leI (a := 4) (by decide) (by omega)).mp q4
        have e4 : popN set s = popN set 12 := by omega
        rw [if_pos q4]
        rw [e4] at f2 f4
        exact Ok.i ⟨f1, f2, f3, f4⟩
      · rw [if_neg q4, if_pos qb]
        rw [ep] at ih
        exact ih S' f1 f2 f3 f4
    · have b1 := (bitOf_1 _ (by omega)).mp (bit_n0 qb)
      have ep : popN set (s + 1) = popN set s + 1 := by simp only [popN]; rw [if_pos b1]
      have es := sel_at (set := set) (s := s) (by omega) b1
      have hi : popN set s < popN set 12 := by have := popN_st b1 12 (by omega); omega
      rw [if_neg (show ¬ (4 : Int32) ≤ nI (popN set s) from le_nI (a := 4) (by omega) (by decide) (by omega)), if_neg qb, g4 (by omega), letS_e, letS_e]
      rw [ep] at ih
      refine ih _ ((f1.s 5 _ _).p 7 _) ?_ (fun k hk => ?_) (fun i hi' => ?_)
      · rw [pI_1, if_pos ⟨rfl, rfl⟩, sA_1, f2, nI_1]
      · rw [pI_1, if_neg (by omega), sA_1]; exact f3 k hk
      · rw [pI_2, sA_2, if_pos ⟨rfl, rfl⟩, cl (by omega), upd_at]
        by_cases z : i = popN set s
        · rw [if_pos z, z, es]
        · rw [if_neg z]; exact f4 i (by omega)
  · show Ok _ (f_Rn_choose_b7 tx (f_Rn_choose_l7 tx n) set (nI (nS T)) S')
    have e2 : S'.1 tx 2 = T 0 2 := by rw [f1.1 tx (by omega)]; exact hC.1.2.2.1
    rw [← eK] at f2 f4
    simp only [f_Rn_choose_b7, e2, hN.2.2.1.1, if_pos (le_rf _)]
    exact Ok.i ⟨f1, f2, f3, f4⟩
theorem Rn_isOfUse {tx : Nat} {T : TX} {r : RW} {S : Mem} (hN : TN T) (hI : RI T r) (hTH : TH T) (hC : CT T tx S) (hB : CB T r 4 S) {s d : Nat} (hs : s < nS T) (hd : d < 4) : f_Rn_isOfUse tx 4 (nI s) (nI d) S = some (if useP T r s d then 1 else 0) := by
  have h8 := hN.2.2.1.2
  unfold f_Rn_isOfUse f_Rn_isOfUse_b0 f_Rn_isOfUse_b19
  rw [St_knowers hN hC hB, bind_e, hB.1.2.1, Tx_isLie hC hs, bind_e, g8 (by omega), cl (by omega), hB.2.2.2 s hs]
  have hb2 : knB T r s = 0 ↔ kn T r s &&& r 33 = 0 := bits_z (and_12 hN hI (kn T r s))
  by_cases q1 : knB T r s = 0
  · rw [if_pos (hb2.mp q1), i00, if_neg (fun z => z.1 q1)]
  · rw [if_neg (fun z => q1 (hb2.mpr z)), i10]
    by_cases q2 : T 6 s = 0
    · rw [if_pos q2]
      by_cases q3 : r (4 + s) = nI d
      · rw [if_pos q3, if_neg (fun z => z.2.2 q3)]
      · rw [if_neg q3, if_pos ⟨q1, q2, q3⟩]
    · rw [if_neg q2, if_neg (fun z => q2 z.2.1)]
theorem dn_t : ∀ K, K < 5 → ∀ j, j < K → nI K - 1 - nI (j + 1) = nI (K - 1 - j) + (-1) := by decide +kernel
theorem Rn_isLaid {tx : Nat} {T : TX} {F : LF} {r : RW} {U : UX} {H : HX} {N : NX} {B : BX} {P : Int32} {S : Mem} (hT : TG T F) (hG : GR T r) (h : CQ tx T F r U H N B P S) {set : Int32} (hS : StK T set) (h7 : S.1 7 7 = nI (popN set 12)) (h5 : ∀ i, i < popN set 12 → S.2.1 7 5 i = nI (sel set i)) {way : Nat} (hw : way < rbs T ^ popN set 12) : Ok (fun z : Int32 × Mem => O7 S z.2 ∧ z.2.1 = S.1 ∧ (∀ f, f ≠ 6 → z.2.2.1 7 f = S.2.1 7 f) ∧ ((ladP T r set way ∧ z.1 = 1 ∧ ∀ i, i < popN set 12 → z.2.2.1 7 6 i = dig T (popN set 12) way i) ∨ (¬ ladP T r set way ∧ z.1 = 0))) (f_Rn_isLaid tx 4 (nI way) S) := by
  have hN := hT.1
  have h4 := hN.1.2
  have h8 := hN.2.2.1.2
  have hK := hS.2
  have p0 := pw hN (show popN set 12 < 5 by omega)
  have hb1 : 1 ≤ rbs T := by unfold rbs; omega
  have hb5 : rbs T ≤ 5 := by unfold rbs; omega
  have hX := h.1.1
  have h20 := hX.1.1
  unfold f_Rn_isLaid f_Rn_isLaid_b0
  rw [letS_e, letS_e, hX.1.2.1.1.1, hN.1.1, nI_1, show nW T + 1 = rbs T from rfl, h7]
  generalize hk : popN set 12 = K at *
  have gz : ∀ {α : Type} (k : Option α), gNz (nI (rbs T)) k = k := fun k => if_neg (nI_ne0 (by omega) (by omega))
  have key := lpN (P := fun n j => ∀ S', O7 S S' → S'.1 = S.1 → (∀ f, f ≠ 6 → S'.2.1 7 f = S.2.1 7 f) → (∀ i, i < K → K ≤ i + j → S'.2.1 7 6 i = dig T K way i ∧ (dgt T K way i = 0 ∨ useP T r (sel set i) (dgt T K way i - 1))) → Ok (fun z : Int32 × Mem => O7 S z.2 ∧ z.2.1 = S.1 ∧ (∀ f, f ≠ 6 → z.2.2.1 7 f = S.2.1 7 f) ∧ ((ladP T r set way ∧ z.1 = 1 ∧ ∀ i, i < K → z.2.2.1 7 6 i = dig T K way i) ∨ (¬ ladP T r set way ∧ z.1 = 0))) (f_Rn_isLaid_l19 tx 4 n (nI (rbs T)) (nI (way / rbs T ^ j)) (nI K - 1 - nI j) S')) K (fun n j hj ih S' f1 f2 f3 f4 => ?_) (fun n S' f1 f2 f3 f4 => ?_) 5000 0 (by omega) (by omega) S (O7.rf S) rfl (fun _ _ => rfl) (fun i h1 h2 => by omega)
  · rw [Nat.pow_zero, Nat.div_one, show nI K - 1 - nI 0 = nI K - 1 from Int32.sub_zero _] at key
    exact key
  · show Ok _ (f_Rn_isLaid_b19 tx 4 (f_Rn_isLaid_l19 tx 4 n) (nI (rbs T)) (nI (way / rbs T ^ j)) (nI K - 1 - nI j) S')
    have ex : nI K - 1 - nI j = nI (K - 1 - j) := by
      rw [show nI K - 1 = nI (K - 1) by have := nI_pred (K - 1); rwa [Nat.sub_add_cancel (by omega)] at this, pk_sub (by omega)]
    have exn : nI K - 1 - nI (j + 1) = nI (K - 1 - j) + (-1) := dn_t K (by omega) j hj
    have hwl : way / rbs T ^ j < 2 ^ 31 := Nat.lt_of_le_of_lt (Nat.div_le_self _ _) (by omega)
    have ed : way / rbs T ^ j % rbs T = dgt T K way (K - 1 - j) := by unfold dgt; rw [show K - 1 - (K - 1 - j) = j by omega]
    have edv : way / rbs T ^ j / rbs T = way / rbs T ^ (j + 1) := by rw [Nat.pow_succ, Nat.div_div_eq_div_mul]
    rw [exn] at ih
    rw [ex]
    simp only [f_Rn_isLaid_b19, if_neg (nI_pos (show K - 1 - j < 2 ^ 31 by omega)), if_neg (nI_nle (show 0 < rbs T by omega) (by omega)), gz, letS_e]
    rw [pk_rem hwl (by omega) (by omega), pk_div hwl (by omega) (by omega), edv, ed]
    have dlt := dgt_lt (T := T) K way (K - 1 - j)
    generalize hi : K - 1 - j = i at *
    have hiK : i < K := by omega
    have e2 : (if nI (dgt T K way i) = 0 then f_Rn_isLaid_b63 tx 4 (f_Rn_isLaid_l19 tx 4 n) (nI (rbs T)) (nI (way / rbs T ^ (j + 1))) (nI i) (nI (dgt T K way i)) (-3) (nI i) S' else f_Rn_isLaid_b63 tx 4 (f_Rn_isLaid_l19 tx 4 n) (nI (rbs T)) (nI (way / rbs T ^ (j + 1))) (nI i) (nI (dgt T K way i)) (nI (dgt T K way i) - 1) (nI i) S') = f_Rn_isLaid_b63 tx 4 (f_Rn_isLaid_l19 tx 4 n) (nI (rbs T)) (nI (way / rbs T ^ (j + 1))) (nI i) (nI (dgt T K way i)) (dig T K way i) (nI i) S' := by
      unfold dig
      by_cases q : dgt T K way i = 0
      · rw [if_pos (by rw [q]; rfl), if_pos q]
      · rw [if_neg (nI_ne0 (by omega) (by omega)), if_neg q]
        have := nI_pred (dgt T K way i - 1)
        rw [Nat.sub_add_cancel (by omega)] at this
        rw [this]
    rw [e2]
    unfold f_Rn_isLaid_b63
    rw [g4 (by omega), letS_e]
    have g1 := f1.s 6 (nI i) (dig T K way i)
    have g2' : (sA S' 7 6 (nI i) (dig T K way i)).1 = S.1 := f2
    have g3' : ∀ f, f ≠ 6 → (sA S' 7 6 (nI i) (dig T K way i)).2.1 7 f = S.2.1 7 f := fun f hf => by rw [sA_2, if_neg (by omega)]; exact f3 f hf
    have g4' : ∀ i', (sA S' 7 6 (nI i) (dig T K way i)).2.1 7 6 i' = if i' = i then dig T K way i else S'.2.1 7 6 i' := fun i' => by rw [sA_2, if_pos ⟨rfl, rfl⟩, cl (by omega), upd_at]
    generalize sA S' 7 6 (nI i) (dig T K way i) = Q at g1 g2' g3' g4' ⊢
    have next : (dgt T K way i = 0 ∨ useP T r (sel set i) (dgt T K way i - 1)) → Ok (fun z : Int32 × Mem => O7 S z.2 ∧ z.2.1 = S.1 ∧ (∀ f, f ≠ 6 → z.2.2.1 7 f = S.2.1 7 f) ∧ ((ladP T r set way ∧ z.1 = 1 ∧ ∀ i, i < K → z.2.2.1 7 6 i = dig T K way i) ∨ (¬ ladP T r set way ∧ z.1 = 0))) (f_Rn_isLaid_l19 tx 4 n (nI (rbs T)) (nI (way / rbs T ^ (j + 1))) (nI i + (-1)) Q) := fun hu => by
      refine ih Q g1 g2' g3' (fun i' h1 h2 => ?_)
      rw [g4']
      by_cases z : i' = i
      · rw [if_pos z, z]; exact ⟨rfl, hu⟩
      · rw [if_neg z]; exact f4 i' h1 (by omega)
    by_cases q : dgt T K way i = 0
    · rw [q, if_pos (by decide)]
      exact next (Or.inl q)
    · rw [if_neg (nI_nle (by omega) (by omega)), g4 (by omega), cl (by omega), g3' 5 (by omega), h5 i hiK]
      have es : nI (dgt T K way i) - 1 = nI (dgt T K way i - 1) := by
        have := nI_pred (dgt T K way i - 1)
        rwa [Nat.sub_add_cancel (by omega)] at this
      have hq := h.o7 g1
      rw [es, Rn_isOfUse hN hG.1 hT.2.1 hq.1.1.1.2.1 hq.2.1 (hS.se (by omega)) (by unfold rbs at dlt; omega), bind_e]
      by_cases qu : useP T r (sel set i) (dgt T K way i - 1)
      · rw [if_pos qu, i10]
        exact next (Or.inr qu)
      · rw [if_neg qu, i00]
        refine Ok.i ⟨g1, g2', g3', Or.inr ⟨fun z => ?_, rfl⟩⟩
        rcases z i (by omega) with y | y
        · rw [hk] at y; exact q y
        · rw [hk] at y; exact qu y
  · show Ok _ (f_Rn_isLaid_b19 tx 4 (f_Rn_isLaid_l19 tx 4 n) (nI (rbs T)) (nI (way / rbs T ^ K)) (nI K - 1 - nI K) S')
    have em : nI K - 1 - nI K = -1 := by
      rw [Int32.sub_eq_add_neg, Int32.sub_eq_add_neg, Int32.add_comm (nI K), Int32.add_assoc, Int32.add_right_neg, Int32.add_zero]
    rw [em]
    simp only [f_Rn_isLaid_b19, if_pos (show (-1 : Int32) < 0 by decide)]
    refine Ok.i ⟨f1, f2, f3, Or.inl ⟨fun i hi => ?_, rfl, fun i hi => (f4 i hi (by omega)).1⟩⟩
    rw [hk] at hi ⊢
    exact (f4 i hi (by omega)).2
theorem Rn_whispers {T : TX} {S : Mem} {K way : Nat} (hK : K ≤ 4) (hN : TN T) (h7 : S.1 7 7 = nI K) (h6 : ∀ i, i < K → S.2.1 7 6 i = dig T K way i) : f_Rn_whispers S = some (nI (cntF (fun i => ¬ dgt T K way i = 0) K)) := by
  have h4 := hN.1.2
  refine lpN (P := fun n i => f_Rn_whispers_l4 S n (nI (cntF (fun i => ¬ dgt T K way i = 0) i)) (nI i) = some (nI (cntF (fun i => ¬ dgt T K way i = 0) K))) K (fun n i hi ih => ?_) (fun n => ?_) 5000 0 (by omega) (by omega)
  · show f_Rn_whispers_b4 S (f_Rn_whispers_l4 S n) _ (nI i) = _
    rw [← ih]
    simp only [f_Rn_whispers_b4, f_Rn_whispers_b29, h7, if_neg (le_nI (show ¬ K ≤ i by omega) (by omega) (by omega)), g4 (show i < 4 by omega), cl (show i < 4096 by omega), h6 i hi, letS_e, nI_1]
    have dlt := dgt_lt (T := T) K way i
    unfold rbs at dlt
    unfold dig
    by_cases q : dgt T K way i = 0
    · rw [if_pos q, if_pos rfl, Int32.add_zero, cntF_n (p := fun i => ¬ dgt T K way i = 0) (fun z => z q)]
    · rw [if_neg q, if_neg (show ¬ nI (dgt T K way i - 1) = -3 from fun z => nI_pos (n := dgt T K way i - 1) (by omega) (by rw [z]; decide)), cntF_y (p := fun i => ¬ dgt T K way i = 0) q]
  · show f_Rn_whispers_b4 S (f_Rn_whispers_l4 S n) _ (nI K) = _
    simp only [f_Rn_whispers_b4, h7, if_pos (le_rf _)]
theorem rbX_cnt {T : TX} {F : LF} {r : RW} {set : Int32} {way : Nat} (hT : TG T F) (hG : GR T r) (hS : StK T set) (hl : ladP T r set way) : ∀ i, i ≤ popN set 12 → (rbX T r set way i).1 = cntF (fun i => ¬ dgt T (popN set 12) way i = 0) i
  | 0, _ => rfl
  | i + 1, hi => by
    have ih := rbX_cnt hT hG hS hl i (by omega)
    have kk := rbX_kn (way := way) hT hG hS (i := i) (by omega) (sel set i)
    rw [rbX]
    rcases hl i (by omega) with q | q
    · rw [if_pos (Or.inl q), ih, cntF_n (p := fun i => ¬ dgt T (popN set 12) way i = 0) (fun z => z q)]
    · by_cases q0 : dgt T (popN set 12) way i = 0
      · rw [if_pos (Or.inl q0), ih, cntF_n (p := fun i => ¬ dgt T (popN set 12) way i = 0) (fun z => z q0)]
      · rw [if_neg (by rintro (z | z); exact q0 z; exact q.1 (kk.symm.trans z)), cntF_y (p := fun i => ¬ dgt T (popN set 12) way i = 0) q0]
        show (rbX T r set way i).1 + 1 = _
        rw [ih]
