/-! BOTH: which ties to cut. -/
theorem bt_tb {n i : Nat} (hn : n < 2 ^ 31) (hi : i < 31) : bt (nI n) i = n.testBit i := by
  rw [bt_nat hn hi, Nat.testBit_eq_decide_div_mod_eq]
theorem and_nI {a b : Nat} (ha : a < 4096) (hb : b < 4096) : nI a &&& nI b = nI (a &&& b) := by
  have hc : a &&& b ≤ a := Nat.and_le_left
  refine b_ext (fun i hi => ?_)
  rcases Nat.lt_or_ge i 31 with q | q
  · rw [b_and, bt_tb (by omega) q, bt_tb (by omega) q, bt_tb (by omega) q, Nat.testBit_and]
  · rw [b_and, bt_nI (m := 12) (by omega) (by omega) (by omega) hi, bt_nI (n := a &&& b) (m := 12) (by omega) (by omega) (by omega) hi]; rfl
theorem iter_c {α : Type} {f g : Nat → α → α} : ∀ n (x : α), (∀ j y, j < n → f j y = g j y) → iter f n x = iter g n x
  | 0, _, _ => rfl
  | n + 1, x, h => by rw [iter_s, iter_s, iter_c n x (fun j y hj => h j y (by omega)), h n _ (by omega)]
theorem RR_c {T : TX} {u u' : Nat → Bool} (h : ∀ t, t < nT T → u t = u' t) (x : Int32) : RR T u x = RR T u' x := iter_c _ _ (fun j y hj => by unfold r1; rw [h j hj])
theorem rch_c {T : TX} {r : RW} {o o' : Int32} {s : Nat} (h : ∀ t, t < nT T → opn T r t → bt o t = bt o' t) : rch T r o s = rch T r o' s := by
  have hu : ∀ t, t < nT T → uB T r o t = uB T r o' t := fun t ht => by
    unfold uB
    by_cases q : opn T r t
    · rw [h t ht q]
    · rw [decide_eq_false q, Bool.and_false, Bool.and_false]
  exact iter_c _ _ (fun j y hj => RR_c hu y)
abbrev gdP (T : TX) (r : RW) (s a off : Nat) : Prop := bt (rch T r (nI off) s) a = false
theorem opB_n {T : TX} {r : RW} (hN : TN T) : ∃ p, p < 2 ^ nT T ∧ opB T r = nI p := small12 hN.2.2.2.2 (fun i h1 h2 => orM_hi h1 h2)
/-- a set of ties that lies in what is open, or the part of it that does -/
theorem sub_o {T : TX} {r : RW} (hN : TN T) {p off s a : Nat} (hp : opB T r = nI p) (hp2 : p < 2 ^ nT T) (ho : off < 2 ^ nT T) (hg : gdP T r s a off) (hne : ¬ nI off &&& (opB T r ^^^ (-1)) = 0) : ∃ o2, o2 < off ∧ gdP T r s a o2 ∧ popN (nI o2) 12 < popN (nI off) 12 := by
  have h12 := hN.2.2.2.2
  have p2 := p2_12 (nT T) h12
  have e := and_nI (a := off) (b := p) (by omega) (by omega)
  have hle : off &&& p ≤ off := Nat.and_le_left
  have hd : ∃ i, i < 12 ∧ bt (nI off) i = true ∧ bt (nI (off &&& p)) i = false := by
    refine Classical.byContradiction (fun z => hne (b_ext (fun i hi => ?_)))
    rw [b_and, b_xor, b_m1 i hi, b_0, hp]
    rcases Nat.lt_or_ge i 12 with q | q
    · cases h1 : bt (nI off) i
      · rfl
      · cases h2 : bt (nI p) i
        · exact absurd ⟨i, q, h1, by rw [← e, b_and, h1, h2]; rfl⟩ z
        · rfl
    · rw [bt_nI (m := 12) (by omega) (by omega) q hi]; rfl
  have hs : ∀ i, bt (nI (off &&& p)) i = true → bt (nI off) i = true := fun i hb => by rw [← e, b_and] at hb; exact (Bool.and_eq_true_iff.mp hb).1
  refine ⟨off &&& p, ?_, ?_, popN_lt 12 (fun i _ => hs i) hd⟩
  · rcases Nat.lt_or_ge (off &&& p) off with q | q
    · exact q
    · have e2 : off &&& p = off := by omega
      obtain ⟨i, -, h1, h2⟩ := hd
      rw [e2, h1] at h2; exact absurd h2 (by decide)
  · show bt (rch T r (nI (off &&& p)) s) a = false
    rw [rch_c (o' := nI off) (fun t ht hop => ?_)]
    · exact hg
    · rw [← e, b_and, ← hp, opB_b hN ht, decide_eq_true hop, Bool.and_true]
theorem S_silence {SC SM : Mem} (h : Rel SC SM) (x1 x2 x3 : Int32) : SimM SC (f_Co_silence x1 x2 x3 SC) (f_Mo_silence x1 x2 x3 SM) := by
  obtain ⟨v, tx, T, F, r, U, H, N, B, P, w, hM, hC⟩ := h
  have hN := w.1.1
  have h7 := hN.2.1.2
  have h8 := hN.2.2.1.2
  have h12 := hN.2.2.2.2
  have p2 := p2_12 (nT T) h12
  have hX := hC.1.1
  have hE := w.1.2.2.1
  unfold f_Co_silence f_Co_silence_b0 f_Mo_silence f_Mo_silence_b0
  rcases rg x1 (n := nS T) (by omega) with ⟨s, hs, rfl⟩ | ⟨q, -⟩
  case inr => rw [Mo_isSecret_n hN hM.1 q, Co_isSecret_n hN hX q, bind_e, bind_e, i00, i00]; exact SimM.ok w hC rfl (Ok.e rfl ⟨rfl, hM⟩)
  rw [Mo_isSecret_y hN hM.1 hs, Co_isSecret_y hN hX hs, bind_e, bind_e, i10, i10]
  rcases rg x2 (n := nM T) (by omega) with ⟨a, ha, rfl⟩ | ⟨q, -⟩
  case inr => rw [Mo_isMan_n hN hM.1 q, Co_isMan_n hN hX q, bind_e, bind_e, i00, i00]; exact SimM.ok w hC rfl (Ok.e rfl ⟨rfl, hM⟩)
  rw [Mo_isMan_y hN hM.1 ha, Co_isMan_y hN hX ha, bind_e, bind_e, i10, i10]
  rcases rg x3 (n := 2) (by decide) with ⟨x, hx, e3⟩ | ⟨q, q2⟩
  case inr =>
    rw [in_c (n := 2) (by decide) (by decide) q, bind_e, i00]
    rcases q2 with q2 | ⟨q2, q3, q4⟩
    · rw [if_pos q2]; exact SimM.ok w hC rfl (Ok.e rfl ⟨rfl, hM⟩)
    · rw [if_neg q2, if_neg (gt_n (M := 1) (m := 1) rfl (by decide) q2 q3 (by decide) (by decide)).2]; exact SimM.ok w hC rfl (Ok.e rfl ⟨rfl, hM⟩)
  rw [e3, in_d (n := 2) (by decide) (by decide) hx, bind_e, i10, if_neg (nI_pos (by omega)), if_pos (show nI x ≤ (1 : Int32) from nI_le (b := 1) (by omega) (by decide)), St_isAlive hC.2.1, bind_e, St_isKnownTo hN hC.2.1 ha, bind_e]
  obtain ⟨q, eq, hq, hr, -⟩ := hM.cp
  rw [eq, bind_e, Mo_isAlive hr, bind_e, Mo_knows hr (by omega), bind_e]
  by_cases q1 : bitOf (r 33) a = 0
  · rw [if_pos q1, if_pos q1]; exact SimM.ok w hC rfl (Ok.e rfl ⟨rfl, hq⟩)
  rw [if_neg q1, if_neg q1]
  by_cases q2 : bitOf (r (26 + a)) s = 0
  case neg => rw [if_neg q2, if_neg q2]; exact SimM.ok w hC rfl (Ok.e rfl ⟨rfl, hq⟩)
  rw [if_pos q2, if_pos q2, hX.2.2.2.1, gTx_t hX.2.1, cl hX.tx]
  have hv := hq.1.1.1
  obtain ⟨p, hp2, hp⟩ := opB_n (r := r) hN
  have sh12 : ∀ i, i < 2 ^ nT T → ∀ j, 12 ≤ j → j < 32 → bt (nI i) j = false := fun i hi j h1 h2 => bt_nI (m := 12) (by omega) (by omega) h1 h2
  have bp : ∀ i, i < 2 ^ nT T → f_JInt_bitCount (nI i) = some (bits (nI i)) := fun i hi => bc12 (sh12 i hi)
  have lt_iff : ∀ i j, (bits (nI i) < bits (nI j) ↔ popN (nI i) 12 < popN (nI j) 12) := fun i j => by rw [bits_pop, bits_pop, nI_ltI (by have := popN_le (nI i) 12; omega) (by have := popN_le (nI j) 12; omega)]
  have key : ∃ b, b < 2 ^ nT T ∧ f_Pe_fewestCuts tx 4 (nI s) (nI a) SC = some (nI b) ∧ f_Mo_silence_l57 5000 (nI s) (nI a) (nI x) (-1) 0 q = some (if nI x = 0 then bits (nI b) else nI b, q) := by
    unfold f_Pe_fewestCuts f_Pe_fewestCuts_b0
    rw [St_knowers hN hX.1.2.1 hC.2.1, bind_e, letS_e, hC.2.1.1.2.1, Pe_openTies hN hX.1.2.1 hC.2.1 hE, bind_e]
    refine lpN (P := fun n j => ∀ mb cb cf, ((mb = -1 ∧ cf = 13 ∧ ∀ i, i < j → ¬ gdP T r s a i) ∨ (∃ b, b < 2 ^ nT T ∧ mb = nI b ∧ cb = nI b ∧ cf = bits (nI b) ∧ ∀ i, i < j → gdP T r s a i → popN (nI b) 12 ≤ popN (nI i) 12)) → ∃ b, b < 2 ^ nT T ∧ f_Pe_fewestCuts_l32 tx 4 SC n (nI a) (kn T r s &&& r 33) (opB T r) cb cf (nI j) = some (nI b) ∧ f_Mo_silence_l57 n (nI s) (nI a) (nI x) mb (nI j) q = some (if nI x = 0 then bits (nI b) else nI b, q)) (2 ^ nT T) (fun n j hj ih mb cb cf hinv => ?_) (fun n mb cb cf hinv => ?_) 5000 0 (by omega) (by omega) (-1) (opB T r) 13 (Or.inl ⟨rfl, rfl, fun i hi => by omega⟩)
    · show ∃ b, b < 2 ^ nT T ∧ f_Pe_fewestCuts_b32 tx 4 SC (f_Pe_fewestCuts_l32 tx 4 SC n) (nI a) (kn T r s &&& r 33) (opB T r) cb cf (nI j) = some (nI b) ∧ f_Mo_silence_b57 (f_Mo_silence_l57 n) (nI s) (nI a) (nI x) mb (nI j) q = some (if nI x = 0 then bits (nI b) else nI b, q)
      have hsp : ∀ i, f_Pe_spread tx (kn T r s &&& r 33) (opB T r &&& (nI i ^^^ (-1))) SC = some (rch T r (nI i) s) := fun i => Pe_spread (u := uB T r (nI i)) hN hX.1.2.1 hE (fun t ht => by
        rw [b_and, b_xor, b_m1 t (by omega), opB_b hN ht]
        unfold uB
        cases bt (nI i) t <;> cases decide (opn T r t) <;> rfl) (ka_hi w.2.1.1 s)
      simp only [f_Pe_fewestCuts_b32, f_Mo_silence_b57, f_Mo_silence_b91, hX.1.2.1.1.2.2.2, hq.1.1.2.1, g2 hv, cl (show v < 4096 by omega), hq.1.1.2.2.1.2.2.2, hN.2.2.2.1, shl_p _ h12, if_neg (le_nI (show ¬ 2 ^ nT T ≤ j by omega) (by omega) (by omega)), bp j hj, hsp, Mo_reachOf hN w.2.1.1 hq.1.1 hr hE, bind_e, Mo_bits, nI_1, show ((rch T r (nI j) s >>> (nI a &&& 31)) &&& 1) = bitOf (rch T r (nI j) s) a from rfl]
      have hgd : bitOf (rch T r (nI j) s) a = 0 ↔ gdP T r s a j := bitOf_0 _ (by omega)
      have new : gdP T r s a j → ((∀ i, i < j → ¬ gdP T r s a i) ∨ (∃ b, popN (nI j) 12 < popN (nI b) 12 ∧ ∀ i, i < j → gdP T r s a i → popN (nI b) 12 ≤ popN (nI i) 12)) → ∀ i, i < j + 1 → gdP T r s a i → popN (nI j) 12 ≤ popN (nI i) 12 := by
        intro hg hh i hi hgi
        rcases Nat.lt_or_ge i j with y | y
        · rcases hh with hh | ⟨b, hb, hh⟩
          · exact absurd hgi (hh i y)
          · have := hh i y hgi; omega
        · have : i = j := by omega
          subst this; exact Nat.le_refl _
      by_cases qs : nI j &&& (opB T r ^^^ (-1)) = 0
      · rw [if_pos qs]
        rcases hinv with ⟨i1, i2, i3⟩ | ⟨b, hb, i1, i2, i3, i4⟩
        · subst i1 i2
          have l13 : bits (nI j) < (13 : Int32) := by rw [bits_pop]; exact nI_lt (b := 13) (by have := popN_le (nI j) 12; omega) (by decide)
          rw [if_pos l13, if_pos (show (-1 : Int32) < 0 by decide)]
          by_cases qg : bitOf (rch T r (nI j) s) a = 0
          · rw [if_pos qg, if_pos qg]
            exact ih _ _ _ (Or.inr ⟨j, hj, rfl, rfl, rfl, new (hgd.mp qg) (Or.inl i3)⟩)
          · rw [if_neg qg, if_neg qg]
            refine ih _ _ _ (Or.inl ⟨rfl, rfl, fun i hi hgi => ?_⟩)
            rcases Nat.lt_or_ge i j with y | y
            · exact i3 i y hgi
            · have : i = j := by omega
              subst this; exact qg (hgd.mpr hgi)
        · subst i1 i2 i3
          rw [if_neg (nI_pos (by omega))]
          by_cases ql : bits (nI j) < bits (nI b)
          · rw [if_pos ql, if_neg (Int32.not_le.mpr ql)]
            by_cases qg : bitOf (rch T r (nI j) s) a = 0
            · rw [if_pos qg, if_pos qg]
              exact ih _ _ _ (Or.inr ⟨j, hj, rfl, rfl, rfl, new (hgd.mp qg) (Or.inr ⟨b, (lt_iff j b).mp ql, i4⟩)⟩)
            · rw [if_neg qg, if_neg qg]
              refine ih _ _ _ (Or.inr ⟨b, hb, rfl, rfl, rfl, fun i hi hgi => ?_⟩)
              rcases Nat.lt_or_ge i j with y | y
              · exact i4 i y hgi
              · have : i = j := by omega
                subst this; exact absurd (hgd.mpr hgi) qg
          · rw [if_neg ql, if_pos (Int32.not_lt.mp ql)]
            refine ih _ _ _ (Or.inr ⟨b, hb, rfl, rfl, rfl, fun i hi hgi => ?_⟩)
            rcases Nat.lt_or_ge i j with y | y
            · exact i4 i y hgi
            · have : i = j := by omega
              subst this
              exact Nat.le_of_not_lt (fun z => ql ((lt_iff i b).mpr z))
      · rw [if_neg qs]
        rcases hinv with ⟨i1, i2, i3⟩ | ⟨b, hb, i1, i2, i3, i4⟩
        · subst i1 i2
          rw [if_pos (show (-1 : Int32) < 0 by decide)]
          have qg : ¬ bitOf (rch T r (nI j) s) a = 0 := fun z => by
            obtain ⟨o2, k1, k2, -⟩ := sub_o hN hp hp2 hj (hgd.mp z) qs
            exact i3 o2 k1 k2
          rw [if_neg qg]
          refine ih _ _ _ (Or.inl ⟨rfl, rfl, fun i hi hgi => ?_⟩)
          rcases Nat.lt_or_ge i j with y | y
          · exact i3 i y hgi
          · have : i = j := by omega
            subst this; exact qg (hgd.mpr hgi)
        · subst i1 i2 i3
          have inv' : ∀ i, i < j + 1 → gdP T r s a i → popN (nI b) 12 ≤ popN (nI i) 12 := by
            intro i hi hgi
            rcases Nat.lt_or_ge i j with y | y
            · exact i4 i y hgi
            · have : i = j := by omega
              subst this
              obtain ⟨o2, k1, k2, k3⟩ := sub_o hN hp hp2 hj hgi qs
              have := i4 o2 k1 k2
              omega
          rw [if_neg (nI_pos (by omega))]
          by_cases ql : bits (nI b) ≤ bits (nI j)
          · rw [if_pos ql]
            exact ih _ _ _ (Or.inr ⟨b, hb, rfl, rfl, rfl, inv'⟩)
          · have qg : ¬ bitOf (rch T r (nI j) s) a = 0 := fun z => by
              have := inv' j (by omega) (hgd.mp z)
              have := (lt_iff j b).mp (Int32.not_le.mp ql)
              omega
            rw [if_neg ql, if_neg qg]
            exact ih _ _ _ (Or.inr ⟨b, hb, rfl, rfl, rfl, inv'⟩)
    · show ∃ b, b < 2 ^ nT T ∧ f_Pe_fewestCuts_b32 tx 4 SC (f_Pe_fewestCuts_l32 tx 4 SC n) (nI a) (kn T r s &&& r 33) (opB T r) cb cf (nI (2 ^ nT T)) = some (nI b) ∧ f_Mo_silence_b57 (f_Mo_silence_l57 n) (nI s) (nI a) (nI x) mb (nI (2 ^ nT T)) q = some (if nI x = 0 then bits (nI b) else nI b, q)
      simp only [f_Pe_fewestCuts_b32, f_Mo_silence_b57, hX.1.2.1.1.2.2.2, hq.1.1.2.1, g2 hv, cl (show v < 4096 by omega), hq.1.1.2.2.1.2.2.2, hN.2.2.2.1, shl_p _ h12, if_pos (le_rf _), bind_e, Mo_bits]
      rcases hinv with ⟨i1, i2, i3⟩ | ⟨b, hb, i1, i2, i3, i4⟩
      · exfalso
        refine i3 p hp2 ?_
        show bt (rch T r (nI p) s) a = false
        have e : rch T r (nI p) s = kn T r s &&& r 33 := by
          unfold rch itR
          refine iter_id _ (fun j hj => ?_)
          unfold RR
          refine iter_id _ (fun t ht => ?_)
          unfold r1 uB
          rw [← hp, opB_b hN ht]
          cases decide (opn T r t) <;> rfl
        rw [e, b_and]
        cases hb : bt (kn T r s) a
        · rfl
        · have := ((bt_kn hN (by omega) (by omega)).mp hb).2
          rw [(bitOf_0 _ (by omega)).mp q2] at this; exact absurd this (by decide)
      · subst i1 i2 i3
        refine ⟨b, hb, rfl, ?_⟩
        by_cases z : nI x = 0
        · rw [if_pos z, if_pos z]
        · rw [if_neg z, if_neg z]
  obtain ⟨b, hb, k1, k2⟩ := key
  rw [k1, bind_e, bp b hb, bind_e]
  refine SimM.ok w hC (a := if nI x = 0 then bits (nI b) else nI b) ?_ (Ok.e k2 ⟨rfl, hq⟩)
  by_cases z : nI x = 0
  · rw [if_pos z, if_pos z]
  · rw [if_neg z, if_neg z]
