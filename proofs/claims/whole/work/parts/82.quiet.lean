/-! BOTH: who gains by keeping quiet. -/
abbrev cdP (T : TX) (r : RW) (a s : Nat) : Prop := bitOf (r (26 + a)) s = 1 ∧ r (4 + s) = -2 ∧ isH T r s
def hvR (T : TX) (r : RW) (a : Nat) : Nat → Int32
  | 0 => -1
  | s + 1 => if cdP T r a s ∧ (hvR T r a s = -1 ∨ ¬ T 5 s ≤ T 5 (hvR T r a s).toNatClampNeg) then nI s else hvR T r a s
def ow (T : TX) (r : RW) (a : Nat) : Int32 := if bitOf (r 33) a = 0 then -1 else hvR T r a (nS T)
def plB (T : TX) (r : RW) (m : Nat) : Int32 := orF (fun a => if ow T r a = -1 then 0 else bitM a) m
theorem hvR_c {T : TX} {r : RW} {a : Nat} : ∀ n, hvR T r a n = -1 ∨ ∃ s, s < n ∧ hvR T r a n = nI s
  | 0 => Or.inl rfl
  | n + 1 => by
    unfold hvR
    split
    · exact Or.inr ⟨n, by omega, rfl⟩
    · rcases hvR_c (T := T) (r := r) (a := a) n with e | ⟨s, hs, e⟩
      · exact Or.inl e
      · exact Or.inr ⟨s, by omega, e⟩
theorem ow_c (T : TX) (r : RW) (a : Nat) : ow T r a = -1 ∨ (bitOf (r 33) a = 1 ∧ ∃ s, s < nS T ∧ ow T r a = nI s) := by
  unfold ow
  by_cases q : bitOf (r 33) a = 0
  · rw [if_pos q]; exact Or.inl rfl
  · rw [if_neg q]
    rcases hvR_c (T := T) (r := r) (a := a) (nS T) with e | e
    · exact Or.inl e
    · exact Or.inr ⟨bit_n0 q, e⟩
theorem nI_m1 {n : Nat} (h : n < 2 ^ 31) : ¬ nI n = -1 := fun z => nI_pos h (by rw [z]; decide)
theorem Pe_heaviest {tx : Nat} {T : TX} {r : RW} {S : Mem} (hN : TN T) (hTH : TH T) (hI : RI T r) (hC : CT T tx S) (hB : CB T r 4 S) (hM : CM T r 4 S) {a : Nat} (ha : a < nM T) : f_Pe_heaviest tx 4 (nI a) S = some (hvR T r a (nS T)) := by
  have h8 := hN.2.2.1.2
  refine lpN (P := fun n s => f_Pe_heaviest_l5 tx 4 S n (nI a) (hvR T r a s) (nI s) = some (hvR T r a (nS T))) (nS T) (fun n s hs ih => ?_) (fun n => ?_) 5000 0 (by omega) (by omega)
  · show f_Pe_heaviest_b5 tx 4 S (f_Pe_heaviest_l5 tx 4 S n) (nI a) (hvR T r a s) (nI s) = _
    rw [← ih]
    have hw := hM.2 s hs
    simp only [f_Pe_heaviest_b5, f_Pe_heaviest_b51, hC.1.2.2.1, hN.2.2.1.1, if_neg (le_nI (show ¬ nS T ≤ s by omega) (by omega) (by omega)), St_isKnownTo hN hB ha, bind_e, g8 (show s < 8 by omega), cl (show s < 4096 by omega), hB.2.2.2 s hs, hw, (hC.2.2.2.2.2.1 s hs).1, nI_1]
    have no : ¬ cdP T r a s → hvR T r a (s + 1) = hvR T r a s := fun z => by rw [hvR, if_neg (fun y => z y.1)]
    by_cases q1 : bitOf (r (26 + a)) s = 0
    · rw [if_pos q1, if_pos trivial, no (fun z => absurd (q1.symm.trans z.1) (by decide))]
    rw [if_neg q1]
    by_cases q2 : r (4 + s) = -2
    case neg => rw [if_neg q2, if_pos trivial, no (fun z => q2 z.2.1)]
    rw [if_pos q2]
    rcases wgt_H hN hTH hI hs with ⟨q3, m, hm1, hm2, em⟩ | ⟨q3, em⟩
    · rw [em, if_neg (nI_nle (by omega) (by omega)), i10]
      have cd : cdP T r a s := ⟨bit_n0 q1, q2, q3⟩
      rcases hvR_c (T := T) (r := r) (a := a) s with e | ⟨b, hb, e⟩
      · rw [if_pos e, show hvR T r a (s + 1) = nI s by rw [hvR, if_pos ⟨cd, Or.inl e⟩]]
      · rw [e, if_neg (nI_m1 (by omega)), g8 (by omega), cl (show b < 4096 by omega), (hC.2.2.2.2.2.1 b (by omega)).1]
        by_cases q4 : T 5 s ≤ T 5 b
        · rw [if_pos q4, show hvR T r a (s + 1) = nI b by
            rw [hvR, if_neg (fun z => ?_), e]
            rcases z.2 with y | y
            · rw [e] at y; exact nI_m1 (by omega) y
            · rw [e, cl (by omega)] at y; exact y q4]
        · rw [if_neg q4, show hvR T r a (s + 1) = nI s by rw [hvR, if_pos ⟨cd, Or.inr (by rw [e, cl (by omega)]; exact q4)⟩]]
    · rw [em, if_pos (by decide), if_pos trivial, no (fun z => q3 z.2.2)]
  · show f_Pe_heaviest_b5 tx 4 S (f_Pe_heaviest_l5 tx 4 S n) (nI a) _ (nI (nS T)) = _
    simp only [f_Pe_heaviest_b5, hC.1.2.2.1, hN.2.2.1.1, if_pos (le_rf _)]
/-- what the class's people keep -/
def pM (T : TX) (r : RW) (S S' : Mem) : Prop := ∃ g, S' = pI (pA S 8 0 g) 8 1 (plB T r (nM T)) ∧ ∀ a, a < nM T → g a = ow T r a
theorem pI_pA (S : Mem) (o f k : Nat) (g : Nat → Int32) (c : Int32) (i x : Int32) : sA (pI (pA S o f g) o k c) o f i x = pI (pA S o f (upd g i.toNatClampNeg x)) o k c := sA_pp S o f g k c i x
theorem Pe_gather {tx : Nat} {T : TX} {F : LF} {r : RW} {S : Mem} (hT : TG T F) (hI : RI T r) (hC : CT T tx S) (h20 : 20 ≤ tx) (hB : CB T r 4 S) (hM : CM T r 4 S) : Ok (pM T r S) (f_Pe_gatherPlayers tx 4 S) := by
  have hN := hT.1
  have h7 := hN.2.1.2
  unfold f_Pe_gatherPlayers f_Pe_gatherPlayers_b0
  rw [letS_e]
  have e0 : pI S 8 1 0 = pI (pA S 8 0 (S.2.1 8 0)) 8 1 (plB T r 0) := by rw [pA_self]; rfl
  rw [e0]
  refine lpN (P := fun n a => ∀ g, (∀ b, b < a → g b = ow T r b) → Ok (pM T r S) (f_Pe_gatherPlayers_l7 tx 4 n (nI a) (pI (pA S 8 0 g) 8 1 (plB T r a)))) (nM T) (fun n a ha ih g hg => ?_) (fun n g hg => ?_) 5000 0 (by omega) (by omega) _ (fun b hb => by omega)
  · show Ok (pM T r S) (f_Pe_gatherPlayers_b7 tx 4 (f_Pe_gatherPlayers_l7 tx 4 n) (nI a) _)
    have c1 : CT T tx (pI (pA S 8 0 g) 8 1 (plB T r a)) := hC.of (by funext k; rw [pI_1, if_neg (by omega)]; rfl) (fun f _ => by rw [pI_2, pA_2, if_neg (by omega)])
    have c2 : CB T r 4 (pI (pA S 8 0 g) 8 1 (plB T r a)) := hB
    have c3 : CM T r 4 (pI (pA S 8 0 g) 8 1 (plB T r a)) := hM
    simp only [f_Pe_gatherPlayers_b7, c1.1.2.1, hN.2.1.1, if_neg (le_nI (show ¬ nM T ≤ a by omega) (by omega) (by omega)), St_isAlive c2, bind_e, Pe_heaviest hN hT.2.1 hI c1 c2 c3 ha]
    have e : (if bitOf (r 33) a = 0 then f_Pe_gatherPlayers_b38 tx 4 (f_Pe_gatherPlayers_l7 tx 4 n) (nI a) (-1) (nI a) (pI (pA S 8 0 g) 8 1 (plB T r a)) else f_Pe_gatherPlayers_b38 tx 4 (f_Pe_gatherPlayers_l7 tx 4 n) (nI a) (hvR T r a (nS T)) (nI a) (pI (pA S 8 0 g) 8 1 (plB T r a))) = f_Pe_gatherPlayers_b38 tx 4 (f_Pe_gatherPlayers_l7 tx 4 n) (nI a) (ow T r a) (nI a) (pI (pA S 8 0 g) 8 1 (plB T r a)) := by
      unfold ow
      split <;> rfl
    rw [e]
    unfold f_Pe_gatherPlayers_b38
    rw [g7 (by omega), letS_e, g7 (by omega), sA_pp, cl (by omega), nI_1]
    have e2 : (pI (pA S 8 0 (upd g a (ow T r a))) 8 1 (plB T r a)).2.1 8 0 a = ow T r a := by rw [pI_2, pA_2, if_pos ⟨rfl, rfl⟩, upd_at, if_pos rfl]
    have e3 : (pI (pA S 8 0 (upd g a (ow T r a))) 8 1 (plB T r a)).1 8 1 = plB T r a := rfl
    rw [e2, e3]
    have hg2 : ∀ b, b < a + 1 → upd g a (ow T r a) b = ow T r b := fun b hb => by
      rw [upd_at]
      by_cases y : b = a
      · rw [if_pos y, y]
      · rw [if_neg y]; exact hg b (by omega)
    by_cases q : ow T r a = -1
    · rw [if_pos q]
      have := ih _ hg2
      rw [show plB T r (a + 1) = plB T r a from orF_0 (f := fun a => if ow T r a = -1 then 0 else bitM a) (by simp only [if_pos q])] at this
      exact this
    · rw [if_neg q, letS_e, pI_pp]
      have := ih _ hg2
      rw [show plB T r (a + 1) = plB T r a ||| bitM a by unfold plB; simp only [orF, if_neg q]] at this
      exact this
  · show Ok (pM T r S) (f_Pe_gatherPlayers_b7 tx 4 (f_Pe_gatherPlayers_l7 tx 4 n) (nI (nM T)) _)
    have c1 : CT T tx (pI (pA S 8 0 g) 8 1 (plB T r (nM T))) := hC.of (by funext k; rw [pI_1, if_neg (by omega)]; rfl) (fun f _ => by rw [pI_2, pA_2, if_neg (by omega)])
    simp only [f_Pe_gatherPlayers_b7, c1.1.2.1, hN.2.1.1, if_pos (le_rf _)]
    exact Ok.i ⟨g, rfl, hg⟩
/-- what the reference keeps of them -/
def pR (T : TX) (r : RW) (S S' : Mem) : Prop := ∃ g, S' = pI (pA S 0 66 g) 0 67 (plB T r (nM T)) ∧ ∀ a, a < nM T → g a = ow T r a
theorem ow_lt {T : TX} {r : RW} {a : Nat} (h8 : nS T ≤ 8) : (ow T r a < 0 ↔ ow T r a = -1) := by
  rcases ow_c T r a with e | ⟨-, s, hs, e⟩
  · rw [e]; decide
  · rw [e]
    exact ⟨fun z => absurd z (nI_pos (by omega)), fun z => absurd z (nI_m1 (by omega))⟩
theorem Mo_fillsMay {v : Nat} {T : TX} {F : LF} {r : RW} {S : Mem} (hT : TG T F) (hV : TV v T S) (hr : MR r S) : Ok (pR T r S) (f_Mo_fillsMay S) := by
  have hN := hT.1
  have h7 := hN.2.1.2
  have h8 := hN.2.2.1.2
  unfold f_Mo_fillsMay f_Mo_fillsMay_b0
  rw [letS_e]
  have e0 : pI S 0 67 0 = pI (pA S 0 66 (S.2.1 0 66)) 0 67 (plB T r 0) := by rw [pA_self]; rfl
  rw [e0]
  have frm : ∀ g c, Fr S (pI (pA S 0 66 g) 0 67 c) := fun g c => (Fr.A (by unfold scA; decide)).tr (Fr.I (by unfold scI; decide))
  refine lpN (P := fun n a => ∀ g, (∀ b, b < a → g b = ow T r b) → Ok (pR T r S) (f_Mo_fillsMay_l7 n (nI a) (pI (pA S 0 66 g) 0 67 (plB T r a)))) (nM T) (fun n a ha ih g hg => ?_) (fun n g hg => ?_) 5000 0 (by omega) (by omega) _ (fun b hb => by omega)
  · show Ok (pR T r S) (f_Mo_fillsMay_b7 (f_Mo_fillsMay_l7 n) (nI a) _)
    obtain ⟨hv, e18, ⟨-, e27, -, -⟩, -⟩ := (frm g (plB T r a)).tv hV
    simp only [f_Mo_fillsMay_b7, e18, g2 hv, cl (show v < 4096 by omega), e27, hN.2.1.1, if_neg (le_nI (show ¬ nM T ≤ a by omega) (by omega) (by omega)), g7 (show a < 7 by omega), letS_e]
    rw [sA_pp, cl (by omega)]
    -- the end of the man's turn
    have fin : ∀ g' : Nat → Int32, (∀ b, b < a → g' b = ow T r b) → g' a = ow T r a → Ok (pR T r S) (f_Mo_fillsMay_b138 (f_Mo_fillsMay_l7 n) (nI a) (pI (pA S 0 66 g') 0 67 (plB T r a))) := by
      intro g' h1 h2
      unfold f_Mo_fillsMay_b138
      have e2 : (pI (pA S 0 66 g') 0 67 (plB T r a)).2.1 0 66 = g' := rfl
      have e3 : (pI (pA S 0 66 g') 0 67 (plB T r a)).1 0 67 = plB T r a := rfl
      rw [g7 (by omega), cl (by omega), e2, e3, h2, nI_1, letS_e, pI_pp]
      have hg2 : ∀ b, b < a + 1 → g' b = ow T r b := fun b hb => by
        rcases Nat.lt_or_ge b a with y | y
        · exact h1 b y
        · have : b = a := by omega
          subst this; exact h2
      by_cases q : ow T r a = -1
      · rw [if_pos ((ow_lt h8).mpr q)]
        have := ih _ hg2
        rw [show plB T r (a + 1) = plB T r a from orF_0 (f := fun a => if ow T r a = -1 then 0 else bitM a) (by simp only [if_pos q])] at this
        exact this
      · rw [if_neg (fun z => q ((ow_lt h8).mp z))]
        have := ih _ hg2
        rw [show plB T r (a + 1) = plB T r a ||| bitM a by unfold plB; simp only [orF, if_neg q]] at this
        exact this
    have hgu : ∀ b, b < a → upd g a (-1) b = ow T r b := fun b hb => by rw [upd_at, if_neg (by omega)]; exact hg b hb
    have hga : upd g a (-1) a = -1 := by rw [upd_at, if_pos rfl]
    by_cases q0 : bitOf (r 33) a = 0
    · have eo : ow T r a = -1 := by unfold ow; rw [if_pos q0]
      show Ok (pR T r S) (f_Mo_fillsMay_b29 (f_Mo_fillsMay_l7 n) (f_Mo_fillsMay_l29 (f_Mo_fillsMay_l7 n) 4999) (nI a) 0 _)
      have mr : MR r (pI (pA S 0 66 (upd g a (-1))) 0 67 (plB T r a)) := hr
      obtain ⟨hv, e18, ⟨-, -, e30, -⟩, -⟩ := (frm (upd g a (-1)) (plB T r a)).tv hV
      simp only [f_Mo_fillsMay_b29, e18, g2 hv, cl (show v < 4096 by omega), e30, Mo_isAlive mr, bind_e, if_pos q0]
      have := fin _ hgu (hga.trans eo.symm)
      split <;> exact this
    have key : ∀ g' : Nat → Int32, (∀ b, b < a → g' b = ow T r b) → g' a = hvR T r a 0 → Ok (pR T r S) (f_Mo_fillsMay_l29 (f_Mo_fillsMay_l7 n) 5000 (nI a) (nI 0) (pI (pA S 0 66 g') 0 67 (plB T r a))) := by
      refine lpN (P := fun m s => ∀ g' : Nat → Int32, (∀ b, b < a → g' b = ow T r b) → g' a = hvR T r a s → Ok (pR T r S) (f_Mo_fillsMay_l29 (f_Mo_fillsMay_l7 n) m (nI a) (nI s) (pI (pA S 0 66 g') 0 67 (plB T r a)))) (nS T) (fun m s hs ih2 g' h1 h2 => ?_) (fun m g' h1 h2 => ?_) 5000 0 (by omega) (by omega)
      · show Ok (pR T r S) (f_Mo_fillsMay_b29 (f_Mo_fillsMay_l7 n) (f_Mo_fillsMay_l29 (f_Mo_fillsMay_l7 n) m) (nI a) (nI s) _)
        have tv := (frm g' (plB T r a)).tv hV
        have mr : MR r (pI (pA S 0 66 g') 0 67 (plB T r a)) := hr
        obtain ⟨hv, e18, ⟨-, -, e30, -⟩, -, -, -, ht, -⟩ := id tv
        have e2 : (pI (pA S 0 66 g') 0 67 (plB T r a)).2.1 0 66 = g' := rfl
        have no : ¬ cdP T r a s → hvR T r a (s + 1) = hvR T r a s := fun z => by rw [hvR, if_neg (fun y => z y.1)]
        have put : hvR T r a (s + 1) = nI s → Ok (pR T r S) (f_Mo_fillsMay_b125 (f_Mo_fillsMay_l7 n) (f_Mo_fillsMay_l29 (f_Mo_fillsMay_l7 n) m) (nI a) (nI s) (pI (pA S 0 66 g') 0 67 (plB T r a))) := fun e => by
          unfold f_Mo_fillsMay_b125
          rw [g7 (by omega), letS_e, sA_pp, cl (by omega), nI_1]
          exact ih2 _ (fun b hb => by rw [upd_at, if_neg (by omega)]; exact h1 b hb) (by rw [upd_at, if_pos rfl, e])
        simp only [f_Mo_fillsMay_b29, e18, g2 hv, cl (show v < 4096 by omega), e30, hN.2.2.1.1, if_neg (le_nI (show ¬ nS T ≤ s by omega) (by omega) (by omega)), Mo_isAlive mr, Mo_knows mr (show a < 7 by omega), bind_e, a4, g40 (show 4 + s < 40 by omega), cl (show 4 + s < 4096 by omega), mr (4 + s) (by omega), Mo_isHolding hN tv mr (show s < 8 by omega), g7 (show a < 7 by omega), cl (show a < 4096 by omega), e2, h2, m8, g16 (show 8 * v + s < 16 by omega), cl (show 8 * v + s < 4096 by omega), (ht s (by omega)).1, nI_1, if_neg q0]
        by_cases q1 : bitOf (r (26 + a)) s = 0
        · rw [if_pos q1]
          exact ih2 g' h1 (by rw [no (fun z => absurd (q1.symm.trans z.1) (by decide))]; exact h2)
        rw [if_neg q1]
        by_cases q2 : r (4 + s) = -2
        case neg => rw [if_neg q2]; exact ih2 g' h1 (by rw [no (fun z => q2 z.2.1)]; exact h2)
        rw [if_pos q2]
        by_cases q3 : isH T r s
        case neg => rw [if_neg q3, i00]; exact ih2 g' h1 (by rw [no (fun z => q3 z.2.2)]; exact h2)
        rw [if_pos q3, i10]
        have cd : cdP T r a s := ⟨bit_n0 q1, q2, q3⟩
        rcases hvR_c (T := T) (r := r) (a := a) s with e | ⟨b, hb, e⟩
        · rw [e, if_pos (by decide)]
          exact put (by rw [hvR, if_pos ⟨cd, Or.inl e⟩])
        · rw [e, if_neg (nI_pos (by omega)), m8, g16 (by omega), cl (show 8 * v + b < 4096 by omega), (ht b (by omega)).1]
          by_cases q4 : T 5 s ≤ T 5 b
          · rw [if_pos q4]
            refine ih2 g' h1 ?_
            rw [h2, hvR, if_neg (fun z => ?_)]
            rcases z.2 with y | y
            · rw [e] at y; exact nI_m1 (by omega) y
            · rw [e, cl (by omega)] at y; exact y q4
          · rw [if_neg q4]
            exact put (by rw [hvR, if_pos ⟨cd, Or.inr (by rw [e, cl (by omega)]; exact q4)⟩])
      · show Ok (pR T r S) (f_Mo_fillsMay_b29 (f_Mo_fillsMay_l7 n) (f_Mo_fillsMay_l29 (f_Mo_fillsMay_l7 n) m) (nI a) (nI (nS T)) _)
        obtain ⟨hv, e18, ⟨-, -, e30, -⟩, -⟩ := (frm g' (plB T r a)).tv hV
        simp only [f_Mo_fillsMay_b29, e18, g2 hv, cl (show v < 4096 by omega), e30, hN.2.2.1.1, if_pos (le_rf _)]
        exact fin g' h1 (by rw [h2]; unfold ow; rw [if_neg q0])
    exact key _ hgu hga
  · show Ok (pR T r S) (f_Mo_fillsMay_b7 (f_Mo_fillsMay_l7 n) (nI (nM T)) _)
    obtain ⟨hv, e18, ⟨-, e27, -, -⟩, -⟩ := (frm g (plB T r (nM T))).tv hV
    simp only [f_Mo_fillsMay_b7, e18, g2 hv, cl (show v < 4096 by omega), e27, hN.2.1.1, if_pos (le_rf _)]
    exact Ok.i ⟨g, rfl, hg⟩
