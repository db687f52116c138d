/-! THE LAW'S LOOP: call by call both answer alike. -/
theorem S_place {SC SM : Mem} (h : Rel SC SM) : SimP (f_Co_place SC) (f_Mo_place SM) := by
  obtain ⟨v, tx, T, F, r, U, H, N, B, P, w, hM, hC⟩ := h
  exact ⟨P, Co_place hC, Mo_place hM⟩
theorem S_count {SC SM : Mem} (h : Rel SC SM) (x : Int32) : SimP (f_Co_count x SC) (f_Mo_count x SM) := by
  obtain ⟨v, tx, T, F, r, U, H, N, B, P, w, hM, hC⟩ := h
  exact ⟨_, Co_count w.1.1 hC x, Mo_count w.1.1 hM x⟩
theorem law_18 (hread : ∀ SC SM, Rel SC SM → Sim (f_Co_read SC) (f_Mo_read SM)) {L : Nat} {xs : Nat → Int32} (hL : L ≤ 3072) : ∀ SC SM, Rel SC SM → f_Law_law_l18 L xs 600 0 SC SM = some 1 := by
  refine lpN (P := fun n j => ∀ SC SM, Rel SC SM → f_Law_law_l18 L xs n (nI (6 * j)) SC SM = some 1) (L / 6) (fun n j hj ih SC SM h => ?_) (fun n SC SM h => ?_) 600 0 (by omega) (by omega)
  · show f_Law_law_b18 L xs (f_Law_law_l18 L xs n) (nI (6 * j)) SC SM = some 1
    have e6 : nI (6 * j) + 6 = nI (6 * (j + 1)) := by rw [show (6 : Int32) = nI 6 from rfl, iA, Nat.mul_succ]
    have G0 : ∀ {α : Type} (k : Option α), gIn (nI (6 * j)) L k = k := fun k => gIn_n (by omega) (by omega)
    have G1 : ∀ {α : Type} (k : Option α), gIn (nI (6 * j) + 1) L k = k := fun k => by rw [nI_1]; exact gIn_n (by omega) (by omega)
    have G2 : ∀ {α : Type} (k : Option α), gIn (nI (6 * j) + 2) L k = k := fun k => by rw [show (2 : Int32) = nI 2 from rfl, iA]; exact gIn_n (by omega) (by omega)
    have G3 : ∀ {α : Type} (k : Option α), gIn (nI (6 * j) + 3) L k = k := fun k => by rw [show (3 : Int32) = nI 3 from rfl, iA]; exact gIn_n (by omega) (by omega)
    have G4 : ∀ {α : Type} (k : Option α), gIn (nI (6 * j) + 4) L k = k := fun k => by rw [show (4 : Int32) = nI 4 from rfl, iA]; exact gIn_n (by omega) (by omega)
    have G5 : ∀ {α : Type} (k : Option α), gIn (nI (6 * j) + 5) L k = k := fun k => by rw [show (5 : Int32) = nI 5 from rfl, iA]; exact gIn_n (by omega) (by omega)
    have hc : ¬ (Int32.ofNat L) - 6 < nI (6 * j) := by
      rw [show (Int32.ofNat L) - 6 = nI (L - 6) from pk_sub (a := L) (b := 6) (by omega)]
      exact nI_nlt (by omega) (by omega)
    unfold f_Law_law_b18
    rw [if_neg hc, G0, e6]
    generalize (xs (nI (6 * j)).toNatClampNeg) &&& 63 = K
    generalize hx1 : xs (nI (6 * j) + 1).toNatClampNeg = a1
    generalize hx2 : xs (nI (6 * j) + 2).toNatClampNeg = a2
    generalize xs (nI (6 * j) + 3).toNatClampNeg = a3
    generalize xs (nI (6 * j) + 4).toNatClampNeg = a4
    generalize xs (nI (6 * j) + 5).toNatClampNeg = a5
    by_cases h0 : K = 0
    · rw [if_pos h0]
      simp only [G1, G2, G3, G4, G5]
      obtain ⟨a, S1, S2, e1, e2, hr⟩ := S_feed h a1 a2 a3 a4 a5
      rw [e1, bind_e, e2, bind_e, if_pos rfl]
      exact ih S1 S2 hr
    rw [if_neg h0]
    by_cases h1 : K = 1
    · rw [if_pos h1]
      simp only [G1]
      obtain ⟨a, S1, S2, e1, e2, hr⟩ := S_back h a1
      rw [e1, bind_e, e2, bind_e, if_pos rfl]
      exact ih S1 S2 hr
    rw [if_neg h1]
    by_cases h2 : K = 2
    · rw [if_pos h2]
      obtain ⟨a, S1, S2, e1, e2, hr⟩ := hread SC SM h
      rw [e1, bind_e, e2, bind_e, if_pos rfl]
      exact ih S1 S2 hr
    rw [if_neg h2]
    by_cases h3 : K = 3
    · rw [if_pos h3]
      obtain ⟨a, e1, e2⟩ := S_place h
      rw [e1, bind_e, e2, bind_e, if_pos rfl]
      exact ih SC SM h
    rw [if_neg h3]
    by_cases h4 : K = 4
    · rw [if_pos h4]
      simp only [G1, G2]
      obtain ⟨a, S1, S2, e1, e2, hr⟩ := S_well h a1 a2
      rw [e1, bind_e, e2, bind_e, if_pos rfl]
      exact ih S1 S2 hr
    rw [if_neg h4]
    by_cases h5 : K = 5
    · rw [if_pos h5]
      simp only [G1, G2]
      obtain ⟨a, S1, S2, e1, e2, hr⟩ := S_man h a1 a2
      rw [e1, bind_e, e2, bind_e, if_pos rfl]
      exact ih S1 S2 hr
    rw [if_neg h5]
    by_cases h6 : K = 6
    · rw [if_pos h6]
      simp only [G1, G2]
      obtain ⟨a, S2, e1, e2, hr⟩ := S_secret h a1 a2
      rw [e1, bind_e, e2, bind_e, if_pos rfl]
      exact ih SC S2 hr
    rw [if_neg h6]
    by_cases h7 : K = 7
    · rw [if_pos h7]
      simp only [G1, G2]
      obtain ⟨a, S1, S2, e1, e2, hr⟩ := S_tells h a1 a2
      rw [e1, bind_e, e2, bind_e, if_pos rfl]
      exact ih S1 S2 hr
    rw [if_neg h7]
    by_cases h8 : K = 8
    · rw [if_pos h8]
      simp only [G1]
      obtain ⟨a, S1, S2, e1, e2, hr⟩ := S_days h a1
      rw [e1, bind_e, e2, bind_e, if_pos rfl]
      exact ih S1 S2 hr
    rw [if_neg h8]
    by_cases h9 : K = 9
    · rw [if_pos h9]
      simp only [G1, G2, G3]
      obtain ⟨a, S1, S2, e1, e2, hr⟩ := S_whisper h a1 a2 a3
      rw [e1, bind_e, e2, bind_e, if_pos rfl]
      exact ih S1 S2 hr
    rw [if_neg h9]
    by_cases h10 : K = 10
    · rw [if_pos h10]
      simp only [G1, G2, G3]
      obtain ⟨a, S1, S2, e1, e2, hr⟩ := S_tell h a1 a2 a3
      rw [e1, bind_e, e2, bind_e, if_pos rfl]
      exact ih S1 S2 hr
    rw [if_neg h10]
    by_cases h11 : K = 11
    · rw [if_pos h11]
      simp only [G1, G2, G3]
      obtain ⟨a, S1, S2, e1, e2, hr⟩ := S_drill h a1 a2 a3
      rw [e1, bind_e, e2, bind_e, if_pos rfl]
      exact ih S1 S2 hr
    rw [if_neg h11]
    by_cases h12 : K = 12
    · rw [if_pos h12]
      simp only [G1, G2]
      obtain ⟨a, S1, S2, e1, e2, hr⟩ := S_go h a1 a2
      rw [e1, bind_e, e2, bind_e, if_pos rfl]
      exact ih S1 S2 hr
    rw [if_neg h12]
    by_cases h13 : K = 13
    · rw [if_pos h13]
      rw [G1, G2]
      by_cases z : a2 = 0
      · rw [if_pos z]
        unfold f_Law_law_b644 f_Law_law_b666
        obtain ⟨a, S1, S2, e1, e2, hr⟩ := S_cut h a1 0
        rw [e1, bind_e, G1, G2, hx2, if_pos z, e6]
        rw [hx1, e2, bind_e, if_pos rfl]
        exact ih S1 S2 hr
      · rw [if_neg z]
        unfold f_Law_law_b644 f_Law_law_b666
        obtain ⟨a, S1, S2, e1, e2, hr⟩ := S_cut h a1 1
        rw [e1, bind_e, G1, G2, hx2, if_neg z, e6]
        rw [hx1, e2, bind_e, if_pos rfl]
        exact ih S1 S2 hr
    rw [if_neg h13]
    by_cases h14 : K = 14
    · rw [if_pos h14]
      obtain ⟨a, S1, S2, e1, e2, hr⟩ := S_undo h
      rw [e1, bind_e, e2, bind_e, if_pos rfl]
      exact ih S1 S2 hr
    rw [if_neg h14]
    by_cases h15 : K = 15
    · rw [if_pos h15]
      simp only [G1, G2, G3]
      obtain ⟨a, S1, S2, e1, e2, hr⟩ := S_wellIn h a1 a2 a3
      rw [e1, bind_e, e2, bind_e, if_pos rfl]
      exact ih S1 S2 hr
    rw [if_neg h15]
    by_cases h16 : K = 16
    · rw [if_pos h16]
      simp only [G1, G2, G3]
      obtain ⟨a, S1, S2, e1, e2, hr⟩ := S_manIn h a1 a2 a3
      rw [e1, bind_e, e2, bind_e, if_pos rfl]
      exact ih S1 S2 hr
    rw [if_neg h16]
    by_cases h17 : K = 17
    · rw [if_pos h17]
      simp only [G1]
      obtain ⟨a, S1, S2, e1, e2, hr⟩ := S_dryBy h a1
      rw [e1, bind_e, e2, bind_e, if_pos rfl]
      exact ih S1 S2 hr
    rw [if_neg h17]
    by_cases h18 : K = 18
    · rw [if_pos h18]
      simp only [G1]
      obtain ⟨a, S1, S2, e1, e2, hr⟩ := S_first h a1
      rw [e1, bind_e, e2, bind_e, if_pos rfl]
      exact ih S1 S2 hr
    rw [if_neg h18]
    by_cases h19 : K = 19
    · rw [if_pos h19]
      simp only [G1, G2, G3]
      obtain ⟨a, S1, S2, e1, e2, hr⟩ := S_rain h a1 a2 a3
      rw [e1, bind_e, e2, bind_e, if_pos rfl]
      exact ih S1 S2 hr
    rw [if_neg h19]
    by_cases h20 : K = 20
    · rw [if_pos h20]
      simp only [G1, G2, G3]
      obtain ⟨a, S1, S2, e1, e2, hr⟩ := S_rainAt h a1 a2 a3
      rw [e1, bind_e, e2, bind_e, if_pos rfl]
      exact ih S1 S2 hr
    rw [if_neg h20]
    by_cases h21 : K = 21
    · rw [if_pos h21]
      simp only [G1, G2, G3]
      obtain ⟨a, S2, e1, e2, hr⟩ := S_silence h a1 a2 a3
      rw [e1, bind_e, e2, bind_e, if_pos rfl]
      exact ih SC S2 hr
    rw [if_neg h21]
    by_cases h22 : K = 22
    · rw [if_pos h22]
      simp only [G1]
      obtain ⟨a, S2, e1, e2, hr⟩ := S_reach h a1
      rw [e1, bind_e, e2, bind_e, if_pos rfl]
      exact ih SC S2 hr
    rw [if_neg h22]
    by_cases h23 : K = 23
    · rw [if_pos h23]
      simp only [G1, G2]
      obtain ⟨a, S2, e1, e2, hr⟩ := S_holds h a1 a2
      rw [e1, bind_e, e2, bind_e, if_pos rfl]
      exact ih SC S2 hr
    rw [if_neg h23]
    by_cases h24 : K = 24
    · rw [if_pos h24]
      obtain ⟨a, S2, e1, e2, hr⟩ := S_rings h
      rw [e1, bind_e, e2, bind_e, if_pos rfl]
      exact ih SC S2 hr
    rw [if_neg h24]
    by_cases h25 : K = 25
    · rw [if_pos h25]
      simp only [G1, G2]
      obtain ⟨a, S1, S2, e1, e2, hr⟩ := S_quiet h a1 a2
      rw [e1, bind_e, e2, bind_e, if_pos rfl]
      exact ih S1 S2 hr
    rw [if_neg h25]
    by_cases h26 : K = 26
    · rw [if_pos h26]
      simp only [G1, G2, G3, G4]
      obtain ⟨a, S1, S2, e1, e2, hr⟩ := S_odds h a1 a2 a3 a4
      rw [e1, bind_e, e2, bind_e, if_pos rfl]
      exact ih S1 S2 hr
    rw [if_neg h26]
    by_cases h27 : K = 27
    · rw [if_pos h27]
      simp only [G1, G2]
      obtain ⟨a, S1, S2, e1, e2, hr⟩ := S_deaths h a1 a2
      rw [e1, bind_e, e2, bind_e, if_pos rfl]
      exact ih S1 S2 hr
    rw [if_neg h27]
    by_cases h28 : K = 28
    · rw [if_pos h28]
      simp only [G1]
      obtain ⟨a, S2, e1, e2, hr⟩ := S_worth h a1
      rw [e1, bind_e, e2, bind_e, if_pos rfl]
      exact ih SC S2 hr
    rw [if_neg h28]
    by_cases h29 : K = 29
    · rw [if_pos h29]
      simp only [G1, G2, G3]
      obtain ⟨a, S1, S2, e1, e2, hr⟩ := S_note h a1 a2 a3
      rw [e1, bind_e, e2, bind_e, if_pos rfl]
      exact ih S1 S2 hr
    rw [if_neg h29]
    by_cases h30 : K = 30
    · rw [if_pos h30]
      obtain ⟨a, S1, S2, e1, e2, hr⟩ := S_forget h
      rw [e1, bind_e, e2, bind_e, if_pos rfl]
      exact ih S1 S2 hr
    rw [if_neg h30]
    by_cases h31 : K = 31
    · rw [if_pos h31]
      simp only [G1, G2]
      obtain ⟨a, e1, e2⟩ := S_truth h a1 a2
      rw [e1, bind_e, e2, bind_e, if_pos rfl]
      exact ih SC SM h
    rw [if_neg h31]
    by_cases h32 : K = 32
    · rw [if_pos h32]
      rw [G1, G2]
      by_cases z : a2 = 0
      · rw [if_pos z]
        unfold f_Law_law_b1267 f_Law_law_b1289
        obtain ⟨a, e1, e2⟩ := S_sure h a1 0
        rw [e1, bind_e, G1, G2, hx2, if_pos z, e6]
        rw [hx1, e2, bind_e, if_pos rfl]
        exact ih SC SM h
      · rw [if_neg z]
        unfold f_Law_law_b1267 f_Law_law_b1289
        obtain ⟨a, e1, e2⟩ := S_sure h a1 1
        rw [e1, bind_e, G1, G2, hx2, if_neg z, e6]
        rw [hx1, e2, bind_e, if_pos rfl]
        exact ih SC SM h
    rw [if_neg h32]
    by_cases h33 : K = 33
    · rw [if_pos h33]
      simp only [G1, G2]
      obtain ⟨a, S1, e1, e2, hr⟩ := S_next h a1 a2
      rw [e1, bind_e, e2, bind_e, if_pos rfl]
      exact ih S1 SM hr
    rw [if_neg h33]
    by_cases h34 : K = 34
    · rw [if_pos h34]
      simp only [G1]
      obtain ⟨a, S1, S2, e1, e2, hr⟩ := S_hold h a1
      rw [e1, bind_e, e2, bind_e, if_pos rfl]
      exact ih S1 S2 hr
    rw [if_neg h34]
    by_cases h35 : K = 35
    · rw [if_pos h35]
      simp only [G1]
      obtain ⟨a, S1, S2, e1, e2, hr⟩ := S_restore h a1
      rw [e1, bind_e, e2, bind_e, if_pos rfl]
      exact ih S1 S2 hr
    rw [if_neg h35]
    by_cases h36 : K = 36
    · rw [if_pos h36]
      simp only [G1]
      obtain ⟨a, e1, e2⟩ := S_count h a1
      rw [e1, bind_e, e2, bind_e, if_pos rfl]
      exact ih SC SM h
    rw [if_neg h36]
    exact ih SC SM h
  · show f_Law_law_b18 L xs (f_Law_law_l18 L xs n) (nI (6 * (L / 6))) SC SM = some 1
    unfold f_Law_law_b18
    rw [if_pos]
    rcases Nat.lt_or_ge L 6 with q | q
    · rw [show L / 6 = 0 by omega]
      exact pk_sneg (a := L) (b := 6) (by decide) q
    · rw [show (Int32.ofNat L) - 6 = nI (L - 6) from pk_sub (a := L) (b := 6) q]
      exact nI_lt (by omega) (by omega)
