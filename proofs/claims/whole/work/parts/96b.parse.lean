/-! READ: the reference goes through the tokens. A state: z (fault, token), w (what is wrong first, token). -/
/-- the tokens, of the reference -/
def TK (kd : Nat → Int32) (pl vl : Nat → Nat) (Q : Nat) (S : Mem) : Prop := ∀ i, i ≤ Q → S.2.1 0 5 i = mkK (kd i) ∧ S.2.1 0 6 i = nI (pl i) ∧ (kd i = 97 → S.2.2 0 8 i = lN (vl i)) ∧ (kd i = 48 → S.2.1 0 7 i = nI (vl i))
/-- what kinds there are -/
def kinds : List Int32 := [0, 1, 97, 48, 59, 61, 40, 41, 43, 45, 42, 60, 47, 128, 129, 130, 131, 132, 133, 134, 135, 136, 137, 138, 139, 140, 141, 142, 143, 144, 145, 146, 147, 148, 149]
def KV (kd : Nat → Int32) (Q : Nat) : Prop := ∀ i, i ≤ Q → kd i ∈ kinds
theorem mk_inj : ∀ a, a ∈ kinds → ∀ b, b ∈ kinds → (mkK a = mkK b ↔ a = b) := by decide +kernel
/-- places go up -/
def PL (pl : Nat → Nat) (Q : Nat) : Prop := ∀ i j, i < j → j ≤ Q → pl i < pl j
def PB (pl : Nat → Nat) (Q : Nat) : Prop := ∀ i, i ≤ Q → pl i ≤ 2000
abbrev PS : Type := (Nat × Nat) × (Nat × Nat)
def MP (pl : Nat → Nat) (Q : Nat) (p : PS) (S : Mem) : Prop := p.1.2 ≤ Q ∧ p.1.1 ≤ 2 ∧ (p.1.1 = 0 → S.1 0 13 = 0 ∧ S.1 0 11 = nI p.1.2) ∧ (¬ p.1.1 = 0 → S.1 0 13 = nI p.1.1 ∧ S.1 0 14 = nI (pl p.1.2)) ∧ S.1 0 15 = nI p.2.1 ∧ p.2.1 ≤ 5 ∧ (¬ p.2.1 = 0 → S.1 0 16 = nI (pl p.2.2) ∧ p.2.2 ≤ Q)
def reg (k : Nat) : Prop := k = 11 ∨ k = 13 ∨ k = 14 ∨ k = 15 ∨ k = 16
def PF (S S' : Mem) : Prop := (∀ k, ¬ reg k → S'.1 0 k = S.1 0 k) ∧ S'.2 = S.2
theorem PF.rf (S : Mem) : PF S S := ⟨fun _ _ => rfl, rfl⟩
theorem PF.tr {A B C : Mem} (h1 : PF A B) (h2 : PF B C) : PF A C := ⟨fun k h => (h2.1 k h).trans (h1.1 k h), h2.2.trans h1.2⟩
theorem PF.p {S S' : Mem} (h : PF S S') {k : Nat} (hk : reg k) (x : Int32) : PF S (pI S' 0 k x) := ⟨fun k' h' => by rw [pI_1, if_neg (fun z : 0 = 0 ∧ k' = k => h' (by rw [z.2]; exact hk))]; exact h.1 k' h', h.2⟩
theorem TK.pf {kd : Nat → Int32} {pl vl : Nat → Nat} {Q : Nat} {S S' : Mem} (h : TK kd pl vl Q S) (hf : PF S S') : TK kd pl vl Q S' := fun i hi => by rw [hf.2]; exact h i hi
theorem Mo_is {kd : Nat → Int32} {pl vl : Nat → Nat} {Q : Nat} {S : Mem} {p : PS} (hQ : Q ≤ 400) (hV : KV kd Q) (hT : TK kd pl vl Q S) (h : MP pl Q p S) {k : Int32} (hk : k ∈ kinds) : f_Mo_is (mkK k) S = some (if p.1.1 = 0 ∧ kd p.1.2 = k then 1 else 0) := by
  obtain ⟨h1, h2, h3, h4, -⟩ := h
  unfold f_Mo_is f_Mo_is_b0
  by_cases q : p.1.1 = 0
  · obtain ⟨a1, a2⟩ := h3 q
    rw [a1, if_pos rfl, a2, gIn_n (by omega) (by decide), cl (by omega), (hT _ h1).1]
    by_cases y : kd p.1.2 = k
    · rw [if_pos (by rw [y]), if_pos ⟨q, y⟩]
    · rw [if_neg (fun z => y ((mk_inj _ (hV _ h1) _ hk).mp z)), if_neg (fun z => y z.2)]
  · rw [(h4 q).1, if_neg (nI_ne0 (by omega) (by omega)), if_neg (fun z => q z.1)]
theorem Mo_fail {kd : Nat → Int32} {pl vl : Nat → Nat} {Q : Nat} {S : Mem} {p : PS} (hQ : Q ≤ 400) (hT : TK kd pl vl Q S) (h : MP pl Q p S) {c : Nat} (hc : c = 1 ∨ c = 2) : Ok (fun S' => PF S S' ∧ MP pl Q (if p.1.1 = 0 then ((c, p.1.2), p.2) else p) S') (f_Mo_fail (nI c) S) := by
  obtain ⟨h1, h2, h3, h4, h5, h6, h7⟩ := id h
  unfold f_Mo_fail f_Mo_fail_b0
  by_cases q : p.1.1 = 0
  · obtain ⟨a1, a2⟩ := h3 q
    rw [a1, if_pos (show (0 : Int32) ≤ 0 by decide), letS_e, if_pos q]
    have e11 : (pI S 0 13 (nI c)).1 0 11 = nI p.1.2 := a2
    rw [e11, gIn_n (by omega) (by decide), letS_e, cl (by omega)]
    refine Ok.i ⟨((PF.rf S).p (by unfold reg; omega) _).p (by unfold reg; omega) _, h1, by show c ≤ 2; omega, fun z => ?_, fun _ => ⟨rfl, ?_⟩, h5, h6, h7⟩
    · have : c = 0 := z
      omega
    · show S.2.1 0 6 p.1.2 = _
      exact (hT _ h1).2.1
  · rw [(h4 q).1, if_neg (nI_nle (by omega) (by omega)), if_neg q]
    exact Ok.i ⟨PF.rf S, h⟩
/-- on by one token -/
def gOn (z : Nat × Nat) : Nat × Nat := if z.1 = 0 then (if z.2 < 400 then (0, z.2 + 1) else (2, z.2)) else z
theorem Mo_goesOn {kd : Nat → Int32} {pl vl : Nat → Nat} {Q : Nat} {S : Mem} {p : PS} (hQ : KQ kd Q) (hT : TK kd pl vl Q S) (h : MP pl Q p S) (h0 : p.1.1 = 0) (hk : ¬ (kd p.1.2 = 0 ∨ kd p.1.2 = 1)) : Ok (fun S' => PF S S' ∧ MP pl Q (gOn p.1, p.2) S') (f_Mo_goesOn S) := by
  obtain ⟨h1, h2, h3, h4, h5, h6, h7⟩ := id h
  obtain ⟨a1, a2⟩ := h3 h0
  have hq := hQ.1
  unfold f_Mo_goesOn f_Mo_goesOn_b0 gOn
  rw [a2, if_pos h0]
  by_cases q : p.1.2 = 400
  · rw [if_pos (show nI p.1.2 = (400 : Int32) by rw [q]; rfl), if_neg (by omega)]
    obtain ⟨c, ec, c1, c2⟩ := Mo_fail hQ.1 hT h (Or.inr rfl)
    rw [if_pos h0] at c2
    exact ⟨c, by rw [show (2 : Int32) = nI 2 from rfl, ec, bind_e], c1, c2⟩
  · have lt : p.1.2 < 400 := by omega
    have ltQ : p.1.2 < Q := by
      rcases Nat.lt_or_ge p.1.2 Q with z | z
      · exact z
      · have e : p.1.2 = Q := by omega
        rw [e] at hk lt
        exact absurd (hQ.2.2 lt) hk
    rw [if_neg (show ¬ nI p.1.2 = (400 : Int32) from fun z => q ((nI_eq (by omega) (by decide)).mp z)), letS_e, if_pos lt, nI_1]
    exact Ok.i ⟨(PF.rf S).p (by unfold reg; omega) _, ltQ, by show 0 ≤ 2; omega, fun _ => ⟨a1, rfl⟩, fun z => absurd rfl z, h5, h6, h7⟩
theorem tk_gOn {kd : Nat → Int32} {k : Int32} {z : Nat × Nat} (h0 : z.1 = 0) (h : kd z.2 = k) : tk kd k z = gOn z := by unfold tk gOn; rw [if_pos h0, if_pos h0, if_pos h]
theorem tk_bad {kd : Nat → Int32} {k : Int32} {z : Nat × Nat} (h0 : z.1 = 0) (h : ¬ kd z.2 = k) : tk kd k z = (1, z.2) := by unfold tk; rw [if_pos h0, if_neg h]
theorem Mo_must {kd : Nat → Int32} {pl vl : Nat → Nat} {Q : Nat} {S : Mem} {p : PS} (hQ : KQ kd Q) (hV : KV kd Q) (hT : TK kd pl vl Q S) (h : MP pl Q p S) {k : Int32} (hk : k ∈ kinds) (hk0 : ¬ (k = 0 ∨ k = 1)) : Ok (fun S' => PF S S' ∧ MP pl Q (tk kd k p.1, p.2) S') (f_Mo_must (mkK k) S) := by
  unfold f_Mo_must f_Mo_must_b0
  rw [Mo_is hQ.1 hV hT h hk, bind_e]
  by_cases q : p.1.1 = 0
  · by_cases y : kd p.1.2 = k
    · rw [show (if p.1.1 = 0 ∧ kd p.1.2 = k then (1 : Int32) else 0) = 1 from if_pos ⟨q, y⟩, i10, tk_gOn q y]
      obtain ⟨c, ec, c1⟩ := Mo_goesOn hQ hT h q (by rw [y]; exact hk0)
      exact ⟨c, by rw [ec, bind_e], c1⟩
    · rw [show (if p.1.1 = 0 ∧ kd p.1.2 = k then (1 : Int32) else 0) = 0 from if_neg (fun z => y z.2), i00, tk_bad q y]
      obtain ⟨c, ec, c1, c2⟩ := Mo_fail hQ.1 hT h (Or.inl rfl)
      rw [if_pos q] at c2
      exact ⟨c, by rw [show (1 : Int32) = nI 1 from rfl, ec, bind_e], c1, c2⟩
  · rw [show (if p.1.1 = 0 ∧ kd p.1.2 = k then (1 : Int32) else 0) = 0 from if_neg (fun z => q z.1), i00, tk_f q]
    obtain ⟨c, ec, c1, c2⟩ := Mo_fail hQ.1 hT h (Or.inl rfl)
    rw [if_neg q] at c2
    exact ⟨c, by rw [show (1 : Int32) = nI 1 from rfl, ec, bind_e], c1, c2⟩
/-- what is wrong first -/
def wrS (k tok : Nat) (p : PS) : PS := if p.1.1 = 0 ∧ p.2.1 = 0 then (p.1, k, tok) else p
theorem Mo_wrong {kd : Nat → Int32} {pl vl : Nat → Nat} {Q : Nat} {S : Mem} {p : PS} (hQ : Q ≤ 400) (hP : PL pl Q) (hB : PB pl Q) (hT : TK kd pl vl Q S) (h : MP pl Q p S) {k tok : Nat} (hk : 1 ≤ k ∧ k ≤ 5) (ht : tok ≤ Q) (ho : p.1.1 = 0 → ¬ p.2.1 = 0 → p.2.2 < tok ∨ (p.2.2 = tok ∧ p.2.1 ≤ k)) : Ok (fun S' => PF S S' ∧ MP pl Q (wrS k tok p) S') (f_Mo_wrong (nI k) (nI tok) S) := by
  obtain ⟨h1, h2, h3, h4, h5, h6, h7⟩ := id h
  have pb := hB tok ht
  unfold f_Mo_wrong f_Mo_wrong_b0 f_Mo_wrong_b46 wrS
  rw [gIn_n (by omega) (by decide), letS_e, cl (by omega), (hT tok ht).2.1]
  by_cases q : p.1.1 = 0
  · rw [(h3 q).1, if_neg (show ¬ (0 : Int32) < 0 by decide), h5]
    by_cases y : p.2.1 = 0
    · rw [if_pos (show nI p.2.1 = 0 by rw [y]; rfl), letS_e, letS_e, if_pos (show p.1.1 = 0 ∧ p.2.1 = 0 from ⟨q, y⟩)]
      refine Ok.i ⟨((PF.rf S).p (by unfold reg; omega) _).p (by unfold reg; omega) _, h1, h2, h3, h4, rfl, by show k ≤ 5; omega, fun _ => ⟨rfl, ht⟩⟩
    · rw [if_neg (nI_ne0 (by omega) (by omega)), if_neg (show ¬ (p.1.1 = 0 ∧ p.2.1 = 0) from fun z => y z.2)]
      obtain ⟨a1, a2⟩ := h7 y
      have pb2 := hB _ a2
      rw [a1]
      rcases ho q y with z | ⟨z, z2⟩
      · have := hP _ _ z ht
        rw [if_pos (nI_lt this (by omega))]
        exact Ok.i ⟨PF.rf S, h⟩
      · rw [z, if_neg (nI_nlt (Nat.le_refl _) (by omega)), if_pos rfl, if_neg (nI_nlt z2 (by omega))]
        exact Ok.i ⟨PF.rf S, h⟩
  · rw [(h4 q).1, if_pos (show (0 : Int32) < nI p.1.1 from nI_lt (a := 0) (by omega) (by omega)), if_neg (show ¬ (p.1.1 = 0 ∧ p.2.1 = 0) from fun z => q z.1)]
    exact Ok.i ⟨PF.rf S, h⟩
/-- what is wrong is behind -/
def wOk (p : PS) : Prop := p.1.1 = 0 → ¬ p.2.1 = 0 → p.2.2 < p.1.2
theorem wOk.t {kd : Nat → Int32} {k : Int32} {p : PS} (h : wOk p) : wOk (tk kd k p.1, p.2) := fun z0 z => by
  by_cases q : p.1.1 = 0
  · exact Nat.lt_of_lt_of_le (h q z) (tk_le _)
  · have : tk kd k p.1 = p.1 := tk_f q
    rw [this] at z0; exact absurd z0 q
/-- a number between two -/
def bdS (kd : Nat → Int32) (vl : Nat → Nat) (lo hi : Nat) (p : PS) : PS :=
  (tk kd 48 p.1, (if p.1.1 = 0 ∧ kd p.1.2 = 48 ∧ (vl p.1.2 < lo ∨ hi < vl p.1.2) then (wrS 5 p.1.2 p).2 else p.2))
theorem wrS_1 (k tok : Nat) (p : PS) : (wrS k tok p).1 = p.1 := by unfold wrS; split <;> rfl
theorem wOk.w {kd : Nat → Int32} {k : Int32} {p : PS} (h : wOk p) (c : Nat) (hk : kd p.1.2 = k) : wOk (tk kd k p.1, (wrS c p.1.2 p).2) := fun z0 z => by
  by_cases q : p.1.1 = 0
  · have e1 : tk kd k p.1 = (0, p.1.2 + 1) := by
      rw [tk_gOn q hk] at z0 ⊢
      unfold gOn at z0 ⊢
      rw [if_pos q] at z0 ⊢
      split at z0
      · rename_i y; rw [if_pos y]
      · exact absurd z0 (show ¬ (2 : Nat) = 0 by decide)
    rw [e1]
    show (wrS c p.1.2 p).2.2 < p.1.2 + 1
    by_cases y2 : p.2.1 = 0
    · have : (wrS c p.1.2 p).2 = (c, p.1.2) := by unfold wrS; rw [if_pos ⟨q, y2⟩]
      rw [this]; exact Nat.lt_succ_self _
    · have : (wrS c p.1.2 p).2 = p.2 := by unfold wrS; rw [if_neg (fun z => y2 z.2)]
      rw [this]; have := h q y2; omega
  · have : tk kd k p.1 = p.1 := tk_f q
    rw [this] at z0; exact absurd z0 q
theorem Mo_bounded {kd : Nat → Int32} {pl vl : Nat → Nat} {Q : Nat} {S : Mem} {p : PS} (hQ : KQ kd Q) (hV : KV kd Q) (hP : PL pl Q) (hB : PB pl Q) (hT : TK kd pl vl Q S) (hN : ∀ i, i ≤ Q → kd i = 48 → vl i ≤ 9999) (h : MP pl Q p S) (hw : wOk p) {lo hi : Nat} (hlo : lo ≤ 9999) (hhi : hi ≤ 9999) : Ok (fun z : Int32 × Mem => PF S z.2 ∧ MP pl Q (bdS kd vl lo hi p) z.2 ∧ (p.1.1 = 0 → kd p.1.2 = 48 → z.1 = nI (vl p.1.2))) (f_Mo_bounded (nI lo) (nI hi) S) ∧ wOk (bdS kd vl lo hi p) := by
  obtain ⟨h1, h2, h3, h4, h5, h6, h7⟩ := id h
  have hq := hQ.1
  refine ⟨?_, ?_⟩
  · unfold f_Mo_bounded f_Mo_bounded_b0 f_Mo_bounded_b15 f_Mo_bounded_b42 f_Mo_bounded_b51
    have bad : tk kd 48 p.1 = (if p.1.1 = 0 then (1, p.1.2) else p.1) → (p.1.1 = 0 → ¬ kd p.1.2 = 48) → Ok (fun z : Int32 × Mem => PF S z.2 ∧ MP pl Q (bdS kd vl lo hi p) z.2 ∧ (p.1.1 = 0 → kd p.1.2 = 48 → z.1 = nI (vl p.1.2))) (Option.bind (f_Mo_fail 1 S) (fun q17 => some (nI lo, q17))) := fun e ne => by
      obtain ⟨c, ec, c1, c2⟩ := Mo_fail hQ.1 hT h (Or.inl rfl)
      refine ⟨(nI lo, c), by rw [show (1 : Int32) = nI 1 from rfl, ec, bind_e], c1, ?_, fun a b => absurd b (ne a)⟩
      have eb : bdS kd vl lo hi p = (if p.1.1 = 0 then ((1, p.1.2), p.2) else p) := by
        unfold bdS
        rw [if_neg (fun z => ne z.1 z.2.1), e]
        split <;> rfl
      rw [eb]; exact c2
    by_cases q : p.1.1 = 0
    · obtain ⟨a1, a2⟩ := h3 q
      rw [a1, if_neg (show ¬ (0 : Int32) < 0 by decide), show (2 : Int32) = mkK 48 from by decide, Mo_is hQ.1 hV hT h (by decide), bind_e]
      by_cases y : kd p.1.2 = 48
      · have vb := hN _ h1 y
        have ntk : ∀ p' : PS, p'.1 = p.1 → bdS kd vl lo hi p = (tk kd 48 p.1, p'.2) → ∀ S', PF S S' → MP pl Q p' S' → Ok (fun z : Int32 × Mem => PF S z.2 ∧ MP pl Q (bdS kd vl lo hi p) z.2 ∧ (p.1.1 = 0 → kd p.1.2 = 48 → z.1 = nI (vl p.1.2))) (Option.bind (f_Mo_goesOn S') (fun q52 => some (nI (vl p.1.2), q52))) := fun p' ep eb S' f1 m1 => by
          have := Mo_goesOn hQ (hT.pf f1) m1 (by rw [ep]; exact q) (by rw [ep, y]; decide)
          refine this.b (fun c hc => ?_)
          rw [ep] at hc
          exact Ok.i ⟨f1.tr hc.1, by rw [eb, tk_gOn q y]; exact hc.2, fun _ _ => rfl⟩
        rw [show (if p.1.1 = 0 ∧ kd p.1.2 = 48 then (1 : Int32) else 0) = 1 from if_pos ⟨q, y⟩, i10, a2, gIn_n (by omega) (by decide), letS_e, cl (by omega), (hT _ h1).2.2.2 y]
        have wr : (vl p.1.2 < lo ∨ hi < vl p.1.2) → Ok (fun z : Int32 × Mem => PF S z.2 ∧ MP pl Q (bdS kd vl lo hi p) z.2 ∧ (p.1.1 = 0 → kd p.1.2 = 48 → z.1 = nI (vl p.1.2))) (Option.bind (f_Mo_wrong 5 (nI p.1.2) S) (fun q48 => Option.bind (f_Mo_goesOn q48) (fun q52 => some (nI (vl p.1.2), q52)))) := fun b => by
          refine (Mo_wrong (k := 5) hQ.1 hP hB hT h (by omega) h1 (fun _ z => Or.inl (hw q z))).b (fun c hc => ?_)
          exact ntk (wrS 5 p.1.2 p) (wrS_1 _ _ _) (by unfold bdS; rw [if_pos ⟨q, y, b⟩]) c hc.1 hc.2
        by_cases b1 : vl p.1.2 < lo
        · rw [if_pos (nI_lt b1 (by omega))]; exact wr (Or.inl b1)
        rw [if_neg (nI_nlt (by omega) (by omega))]
        by_cases b2 : vl p.1.2 ≤ hi
        · rw [if_pos (nI_le b2 (by omega))]
          exact ntk p rfl (by unfold bdS; rw [if_neg (fun z => by omega)]) S (PF.rf S) h
        · rw [if_neg (le_nI b2 (by omega) (by omega))]; exact wr (Or.inr (by omega))
      · rw [show (if p.1.1 = 0 ∧ kd p.1.2 = 48 then (1 : Int32) else 0) = 0 from if_neg (fun z => y z.2), i00]
        exact bad (by rw [tk_bad q y, if_pos q]) (fun _ => y)
    · rw [(h4 q).1, if_pos (show (0 : Int32) < nI p.1.1 from nI_lt (a := 0) (by omega) (by omega))]
      exact bad (by rw [tk_f q, if_neg q]) (fun z => absurd z q)
  · unfold bdS
    by_cases c : p.1.1 = 0 ∧ kd p.1.2 = 48 ∧ (vl p.1.2 < lo ∨ hi < vl p.1.2)
    · rw [if_pos c]; exact hw.w 5 c.2.1
    · rw [if_neg c]; exact hw.t
