/-! READ: the class's tokens. -/
theorem sL_1 (S : Mem) (o f : Nat) (i : Int32) (x : Int64) : (sL S o f i x).1 = S.1 := rfl
theorem sL_2 (S : Mem) (o f : Nat) (i : Int32) (x : Int64) : (sL S o f i x).2.1 = S.2.1 := rfl
theorem sL_3 (S : Mem) (o f : Nat) (i : Int32) (x : Int64) (o' f' : Nat) : (sL S o f i x).2.2 o' f' = if o' = o ∧ f' = f then vp_updL (S.2.2 o f) i.toNatClampNeg x else S.2.2 o' f' := rfl
theorem updL_at (f : Nat → Int64) (k : Nat) (x : Int64) (j : Nat) : vp_updL f k x j = if j = k then x else f j := rfl
def byG (b : Nat → Int32) (L : Nat) : Prop := ∀ i, i < L → ∃ y : Int8, b i = y.toInt32
theorem byG.n {b : Nat → Int32} {L : Nat} (h : byG b L) {i : Nat} (hi : i < L) : ∃ n, n < 256 ∧ b i = (Int8.ofNat n).toInt32 := by_ex (h i hi)
theorem byG.l {b : Nat → Int32} {L : Nat} (h : byG b L) {i : Nat} (hi : i < L) (hl : isLt (b i)) : ∃ m, 97 ≤ m ∧ m ≤ 122 ∧ b i = nI m := by
  obtain ⟨n, hn, e⟩ := h.n hi
  rw [e] at hl
  have t := by_t n hn
  have := t.1 hl
  exact ⟨n, this.1, this.2, by rw [e, t.2.2.1 (by omega)]⟩
theorem byG.d {b : Nat → Int32} {L : Nat} (h : byG b L) {i : Nat} (hi : i < L) (hl : isDg (b i)) : ∃ m, 48 ≤ m ∧ m ≤ 57 ∧ b i = nI m := by
  obtain ⟨n, hn, e⟩ := h.n hi
  rw [e] at hl
  have t := by_t n hn
  have := t.2.1 hl
  exact ⟨n, this.1, this.2, by rw [e, t.2.2.1 (by omega)]⟩
theorem lt_n {m : Nat} (h1 : 97 ≤ m) (h2 : m ≤ 122) : isLt (nI m) := ⟨nI_nlt (b := 97) h1 (by omega), nI_nlt (a := 122) h2 (by decide)⟩
theorem withL {x : Nat} {m : Nat} (h1 : 97 ≤ m) (h2 : m ≤ 122) : f_Tp_withLetter (lN x) (nI m) = some (lN (27 * x + ltN (nI m))) := by
  obtain ⟨-, -, e1, e2, -⟩ := lt_t m (by omega) (lt_n h1 h2)
  unfold f_Tp_withLetter f_Tp_withLetter_b0 ltN
  rw [e1]
  have e3 : (((lN x * 27) + (nI m).toInt64) - 97) + 1 = lN x * 27 + ((nI m).toInt64 - 97 + 1) := by
    rw [Int64.sub_eq_add_neg, Int64.sub_eq_add_neg, Int64.add_assoc, Int64.add_assoc, Int64.add_assoc]
  rw [e3, e2, show (27 : Int64) = lN 27 from rfl, lN_mul, lN_add, Nat.mul_comm]
theorem Tp_scanLetters {S : Mem} {b : Nat → Int32} {L : Nat} (hL : L ≤ 2000) (e : S.1 1 0 = nI L) (hb : byM b L (S.2.1 1 1)) (hg : byG b L) (hK : cK (S.2.2 1 2)) {p t : Nat} (hp : p < L) (ht : t ≤ 400) : f_Tp_scanLetters (nI t) (nI p) S = some (nI (leP b L p), sA (sL S 1 5 (nI t) (lN (nmN b p (leP b L p - p)))) 1 3 (nI t) (if leP b L p - p ≤ 8 then kwN (nmN b p (leP b L p - p)) else 1)) := by
  have gt : ∀ {α : Type} {k : Option α}, gIn (nI t) 401 k = k := gIn_n (by omega) (by decide)
  have fin : ∀ k, leP b L p = p + k → (∀ i, p ≤ i → i < p + k → isLt (b i)) → p + k ≤ L → f_Tp_scanLetters_b44 (nI t) (nI p) (nI (p + k)) (lN (nmN b p k)) S = some (nI (leP b L p), sA (sL S 1 5 (nI t) (lN (nmN b p (leP b L p - p)))) 1 3 (nI t) (if leP b L p - p ≤ 8 then kwN (nmN b p (leP b L p - p)) else 1)) := by
    intro k ek hk hkl
    have e2 : leP b L p - p = k := by omega
    unfold f_Tp_scanLetters_b44 f_Tp_scanLetters_b75
    rw [gt, letS_e, pk_sub (by omega), show p + k - p = k by omega, e2, ek]
    by_cases q : k ≤ 8
    · have hx : nmN b p k < 2 ^ 62 := Nat.lt_trans (nm_lt k (fun i hi => by
        obtain ⟨m, m1, m2, em⟩ := hg.l (show p + i < L by omega) (hk (p + i) (by omega) (by omega))
        rw [em]; unfold ltN; rw [cl (by omega)]; omega)) (pw27 k (by omega))
      rw [if_pos (show nI k ≤ (8 : Int32) from nI_le (b := 8) q (by decide)), if_pos q, Tp_kindOf (S := sL S 1 5 (nI t) (lN (nmN b p k))) hK hx, bind_e, gt, letS_e]
    · rw [if_neg (show ¬ nI k ≤ (8 : Int32) from le_nI (b := 8) q (by omega) (by decide)), if_neg q, gt, letS_e]
  have key := lpN (P := fun n j => (∀ i, p ≤ i → i < j → isLt (b i)) → p ≤ j → leP b L p = runF (fun i => isLt (b i)) (L - j) j → f_Tp_scanLetters_l5 n (nI t) (nI p) (nI j) (lN (nmN b p (j - p))) S = some (nI (leP b L p), sA (sL S 1 5 (nI t) (lN (nmN b p (leP b L p - p)))) 1 3 (nI t) (if leP b L p - p ≤ 8 then kwN (nmN b p (leP b L p - p)) else 1))) L (fun n j hj ih h1 h2 h3 => ?_) (fun n h1 h2 h3 => ?_) 5000 p (by omega) (by omega) (fun i a c => by omega) (Nat.le_refl _) rfl
  · rw [Nat.sub_self] at key; exact key
  · show f_Tp_scanLetters_b5 (f_Tp_scanLetters_l5 n) (nI t) (nI p) (nI j) _ S = _
    simp only [f_Tp_scanLetters_b5, e, if_neg (le_nI (show ¬ L ≤ j by omega) (by omega) (by omega)), gIn_n (show j < 2000 by omega) (by decide), cl (show j < 4096 by omega), hb j hj, Tp_isLetter, bind_e, nI_1]
    by_cases q : isLt (b j)
    · obtain ⟨m, m1, m2, em⟩ := hg.l hj q
      rw [if_pos q, i10, em, withL m1 m2, bind_e]
      rw [runF_y (Q := fun i => isLt (b i)) hj q] at h3
      have := ih (fun i a c => by
        rcases Nat.lt_or_ge i j with z | z
        · exact h1 i a z
        · have : i = j := by omega
          subst this; exact q) (by omega) h3
      rw [show j + 1 - p = (j - p) + 1 by omega] at this
      simp only [nmN] at this
      rw [show p + (j - p) = j by omega, em] at this
      exact this
    · rw [if_neg q, i00]
      rw [runF_n (Q := fun i => isLt (b i)) q] at h3
      have := fin (j - p) (by omega) (fun i a c => h1 i a (by omega)) (by omega)
      rw [show p + (j - p) = j by omega] at this
      exact this
  · show f_Tp_scanLetters_b5 (f_Tp_scanLetters_l5 n) (nI t) (nI p) (nI L) _ S = _
    simp only [f_Tp_scanLetters_b5, e, if_pos (le_rf _)]
    rw [runF_e (Nat.le_refl _)] at h3
    have := fin (L - p) (by omega) (fun i a c => h1 i a (by omega)) (by omega)
    rw [show p + (L - p) = L by omega] at this
    exact this
theorem Tp_scanDigits {S : Mem} {b : Nat → Int32} {L : Nat} (hL : L ≤ 2000) (e : S.1 1 0 = nI L) (hb : byM b L (S.2.1 1 1)) (hg : byG b L) {p t : Nat} (hp : p < L) (ht : t ≤ 400) : f_Tp_scanDigits (nI t) (nI p) S = some (nI (deP b L p), sA (sL S 1 5 (nI t) (nI (dgN b p (deP b L p - p))).toInt64) 1 3 (nI t) (if deP b L p - p ≤ 4 then 48 else 1)) := by
  have gt : ∀ {α : Type} {k : Option α}, gIn (nI t) 401 k = k := gIn_n (by omega) (by decide)
  have fin : ∀ k, deP b L p = p + k → p + k ≤ L → f_Tp_scanDigits_b48 (nI t) (nI p) (nI (p + k)) (nI (dgN b p k)) S = some (nI (deP b L p), sA (sL S 1 5 (nI t) (nI (dgN b p (deP b L p - p))).toInt64) 1 3 (nI t) (if deP b L p - p ≤ 4 then 48 else 1)) := by
    intro k ek hkl
    have e2 : deP b L p - p = k := by omega
    unfold f_Tp_scanDigits_b48 f_Tp_scanDigits_b75
    rw [gt, letS_e, pk_sub (by omega), show p + k - p = k by omega, e2, ek]
    by_cases q : k ≤ 4
    · rw [if_pos (show nI k ≤ (4 : Int32) from nI_le (b := 4) q (by decide)), if_pos q, gt, letS_e]
    · rw [if_neg (show ¬ nI k ≤ (4 : Int32) from le_nI (b := 4) q (by omega) (by decide)), if_neg q, gt, letS_e]
  have key := lpN (P := fun n j => p ≤ j → deP b L p = runF (fun i => isDg (b i)) (L - j) j → f_Tp_scanDigits_l5 n (nI t) (nI p) (nI j) (nI (dgN b p (j - p))) S = some (nI (deP b L p), sA (sL S 1 5 (nI t) (nI (dgN b p (deP b L p - p))).toInt64) 1 3 (nI t) (if deP b L p - p ≤ 4 then 48 else 1))) L (fun n j hj ih h2 h3 => ?_) (fun n h2 h3 => ?_) 5000 p (by omega) (by omega) (Nat.le_refl _) rfl
  · rw [Nat.sub_self] at key; exact key
  · show f_Tp_scanDigits_b5 (f_Tp_scanDigits_l5 n) (nI t) (nI p) (nI j) _ S = _
    simp only [f_Tp_scanDigits_b5, e, if_neg (le_nI (show ¬ L ≤ j by omega) (by omega) (by omega)), gIn_n (show j < 2000 by omega) (by decide), cl (show j < 4096 by omega), hb j hj, Tp_isDigit, bind_e, nI_1, letS_e]
    by_cases q : isDg (b j)
    · obtain ⟨m, m1, m2, em⟩ := hg.d hj q
      rw [if_pos q, i10, em]
      rw [runF_y (Q := fun i => isDg (b i)) hj q] at h3
      have := ih (by omega) h3
      rw [show j + 1 - p = (j - p) + 1 by omega] at this
      simp only [dgN] at this
      rw [show p + (j - p) = j by omega, em, cl (by omega)] at this
      rw [show (10 : Int32) = nI 10 from rfl, iM, iA, show (48 : Int32) = nI 48 from rfl, pk_sub (by omega), show dgN b p (j - p) * 10 + m - 48 = 10 * dgN b p (j - p) + (m - 48) by omega]
      exact this
    · rw [if_neg q, i00]
      rw [runF_n (Q := fun i => isDg (b i)) q] at h3
      have := fin (j - p) (by omega) (by omega)
      rw [show p + (j - p) = j by omega] at this
      exact this
  · show f_Tp_scanDigits_b5 (f_Tp_scanDigits_l5 n) (nI t) (nI p) (nI L) _ S = _
    simp only [f_Tp_scanDigits_b5, e, if_pos (le_rf _)]
    rw [runF_e (Nat.le_refl _)] at h3
    have := fin (L - p) (by omega) (by omega)
    rw [show p + (L - p) = L by omega] at this
    exact this
theorem dg_lt {b : Nat → Int32} {p : Nat} : ∀ n, (∀ i, i < n → (b (p + i)).toNatClampNeg - 48 ≤ 9) → dgN b p n < 10 ^ n
  | 0, _ => by simp [dgN]
  | n + 1, h => by
    have ih := dg_lt n (fun i hi => h i (by omega))
    have hn := h n (by omega)
    simp only [dgN, Nat.pow_succ]; omega
theorem pw10 : ∀ n, n ≤ 4 → 10 ^ n ≤ 10000 := by decide +kernel
/-- only the tokens are changed -/
def O1 (S S' : Mem) : Prop := S'.1 = S.1 ∧ (∀ o f, ¬ (o = 1 ∧ (f = 3 ∨ f = 4)) → S'.2.1 o f = S.2.1 o f) ∧ (∀ o f, ¬ (o = 1 ∧ f = 5) → S'.2.2 o f = S.2.2 o f)
theorem O1.rf (S : Mem) : O1 S S := ⟨rfl, fun _ _ _ => rfl, fun _ _ _ => rfl⟩
theorem O1.s {S S' : Mem} (h : O1 S S') {f : Nat} (hf : f = 3 ∨ f = 4) (i x : Int32) : O1 S (sA S' 1 f i x) := ⟨h.1, fun o f' hn => by rw [sA_2, if_neg (fun z => hn ⟨z.1, by rw [z.2]; exact hf⟩)]; exact h.2.1 o f' hn, h.2.2⟩
theorem O1.l {S S' : Mem} (h : O1 S S') (i : Int32) (x : Int64) : O1 S (sL S' 1 5 i x) := ⟨h.1, h.2.1, fun o f' hn => by rw [sL_3, if_neg hn]; exact h.2.2 o f' hn⟩
/-- the class's token t is that at place p -/
def tkC (b : Nat → Int32) (L : Nat) (t p : Nat) (S : Mem) : Prop := S.2.1 1 3 t = kdP b L p ∧ S.2.1 1 4 t = nI p ∧ (kdP b L p = 97 ∨ kdP b L p = 48 → S.2.2 1 5 t = lN (vlP b L p))
theorem Tp_scanOne {S : Mem} {b : Nat → Int32} {L : Nat} (hL : L ≤ 2000) (e : S.1 1 0 = nI L) (hb : byM b L (S.2.1 1 1)) (hg : byG b L) (hK : cK (S.2.2 1 2)) {p t : Nat} (hp : p ≤ L) (hnb : p < L → ¬ isBl (b p)) (ht : t ≤ 400) (h4 : S.2.1 1 4 t = nI p) : Ok (fun z : Int32 × Mem => z.1 = nI (nxP b L p) ∧ O1 S z.2 ∧ tkC b L t p z.2 ∧ (∀ j, j ≠ t → z.2.2.1 1 3 j = S.2.1 1 3 j ∧ z.2.2.1 1 4 j = S.2.1 1 4 j ∧ z.2.2.2 1 5 j = S.2.2 1 5 j)) (f_Tp_scanOne (nI t) (nI p) S) := by
  have gt : ∀ {α : Type} {k : Option α}, gIn (nI t) 401 k = k := gIn_n (by omega) (by decide)
  have ct : (nI t).toNatClampNeg = t := cl (by omega)
  -- a kind put, and a value
  have put1 : ∀ k : Int32, O1 S (sA S 1 3 (nI t) k) ∧ (sA S 1 3 (nI t) k).2.1 1 3 t = k ∧ (sA S 1 3 (nI t) k).2.1 1 4 t = nI p ∧ (∀ j, j ≠ t → (sA S 1 3 (nI t) k).2.1 1 3 j = S.2.1 1 3 j ∧ (sA S 1 3 (nI t) k).2.1 1 4 j = S.2.1 1 4 j ∧ (sA S 1 3 (nI t) k).2.2 1 5 j = S.2.2 1 5 j) := fun k => by
    refine ⟨(O1.rf S).s (Or.inl rfl) _ _, ?_, ?_, fun j hj => ⟨?_, ?_, rfl⟩⟩
    · rw [sA_2, if_pos ⟨rfl, rfl⟩, ct, upd_at, if_pos rfl]
    · rw [sA_2, if_neg (by omega)]; exact h4
    · rw [sA_2, if_pos ⟨rfl, rfl⟩, ct, upd_at, if_neg hj]
    · rw [sA_2, if_neg (by omega)]
  have put2 : ∀ (k : Int32) (x : Int64), O1 S (sA (sL S 1 5 (nI t) x) 1 3 (nI t) k) ∧ (sA (sL S 1 5 (nI t) x) 1 3 (nI t) k).2.1 1 3 t = k ∧ (sA (sL S 1 5 (nI t) x) 1 3 (nI t) k).2.1 1 4 t = nI p ∧ (sA (sL S 1 5 (nI t) x) 1 3 (nI t) k).2.2 1 5 t = x ∧ (∀ j, j ≠ t → (sA (sL S 1 5 (nI t) x) 1 3 (nI t) k).2.1 1 3 j = S.2.1 1 3 j ∧ (sA (sL S 1 5 (nI t) x) 1 3 (nI t) k).2.1 1 4 j = S.2.1 1 4 j ∧ (sA (sL S 1 5 (nI t) x) 1 3 (nI t) k).2.2 1 5 j = S.2.2 1 5 j) := fun k x => by
    refine ⟨((O1.rf S).l _ _).s (Or.inl rfl) _ _, ?_, ?_, ?_, fun j hj => ⟨?_, ?_, ?_⟩⟩
    · rw [sA_2, if_pos ⟨rfl, rfl⟩, ct, upd_at, if_pos rfl]
    · rw [sA_2, if_neg (by omega)]; exact h4
    · rw [sA_3, sL_3, if_pos ⟨rfl, rfl⟩, ct, updL_at, if_pos rfl]
    · rw [sA_2, if_pos ⟨rfl, rfl⟩, ct, upd_at, if_neg hj]; rfl
    · rw [sA_2, if_neg (by omega)]; rfl
    · rw [sA_3, sL_3, if_pos ⟨rfl, rfl⟩, ct, updL_at, if_neg hj]
  unfold f_Tp_scanOne f_Tp_scanOne_b0
  rw [e]
  rcases Nat.lt_or_ge p L with q | q
  · have gp : ∀ {α : Type} {k : Option α}, gIn (nI p) 2000 k = k := gIn_n (by omega) (by decide)
    rw [if_pos (nI_lt q (by omega)), gp, cl (show p < 4096 by omega), hb p q, Tp_isLetter, bind_e]
    have nl : ¬ L ≤ p := by omega
    by_cases q1 : isLt (b p)
    · rw [if_pos q1, i10, Tp_scanLetters hL e hb hg hK q ht, bind_e]
      have kd : kdP b L p = if leP b L p - p ≤ 8 then kwN (nmN b p (leP b L p - p)) else 1 := by unfold kdP; rw [if_neg nl, if_pos q1]
      obtain ⟨a1, a2, a3, a4, a5⟩ := put2 (kdP b L p) (lN (nmN b p (leP b L p - p)))
      rw [← kd]
      refine Ok.i ⟨?_, a1, ⟨a2, a3, fun _ => ?_⟩, a5⟩
      · unfold nxP; rw [if_neg nl, if_pos q1]
      · rw [a4]; unfold vlP; rw [if_neg nl, if_pos q1]
    rw [if_neg q1, i00, gp, Tp_isDigit, bind_e]
    by_cases q2 : isDg (b p)
    · rw [if_pos q2, i10, Tp_scanDigits hL e hb hg q ht, bind_e]
      have kd : kdP b L p = if deP b L p - p ≤ 4 then 48 else 1 := by unfold kdP; rw [if_neg nl, if_neg q1, if_pos q2]
      obtain ⟨a1, a2, a3, a4, a5⟩ := put2 (kdP b L p) (nI (dgN b p (deP b L p - p))).toInt64
      rw [← kd]
      refine Ok.i ⟨?_, a1, ⟨a2, a3, fun hk => ?_⟩, a5⟩
      · unfold nxP; rw [if_neg nl, if_neg q1, if_pos q2]
      · rw [a4]
        have ev : vlP b L p = dgN b p (deP b L p - p) := by unfold vlP; rw [if_neg nl, if_neg q1, if_pos q2]
        rw [ev]
        have h4d : deP b L p - p ≤ 4 := by
          rcases Nat.lt_or_ge 4 (deP b L p - p) with z | z
          · rw [kd, if_neg (by omega)] at hk
            rcases hk with hk | hk
            · exact absurd hk (by decide)
            · exact absurd hk (by decide)
          · exact z
        have bb := runF_b (Q := fun i => isDg (b i)) (L - p) p
        have lt := dg_lt (b := b) (p := p) (deP b L p - p) (fun i hi => by
          obtain ⟨m, m1, m2, em⟩ := hg.d (show p + i < L by unfold deP at hi; omega) (runF_in (Q := fun i => isDg (b i)) (L - p) p (p + i) (by omega) (by unfold deP at hi; omega))
          rw [em, cl (by omega)]; omega)
        have := pw10 _ h4d
        exact nI_l (by omega)
    · rw [if_neg q2, i00, gp]
      have kd : kdP b L p = if isSg (b p) then b p else 1 := by unfold kdP; rw [if_neg nl, if_neg q1, if_neg q2]
      have nx : nxP b L p = p + 1 := by unfold nxP; rw [if_neg nl, if_neg q1, if_neg q2]
      have k97 : ¬ (kdP b L p = 97 ∨ kdP b L p = 48) := by
        rw [kd]
        by_cases z : isSg (b p)
        · rw [if_pos z]
          rcases z with z | z | z | z | z | z | z | z | z <;> rw [z] <;> decide
        · rw [if_neg z]; decide
      have fin : ∀ k, k = kdP b L p → Ok (fun z : Int32 × Mem => z.1 = nI (nxP b L p) ∧ O1 S z.2 ∧ tkC b L t p z.2 ∧ (∀ j, j ≠ t → z.2.2.1 1 3 j = S.2.1 1 3 j ∧ z.2.2.1 1 4 j = S.2.1 1 4 j ∧ z.2.2.2 1 5 j = S.2.2 1 5 j)) (f_Tp_scanOne_b104 (nI p) k (nI t) S) := fun k ek => by
        unfold f_Tp_scanOne_b104
        rw [gt, letS_e, nI_1, ek]
        obtain ⟨a1, a2, a3, a4⟩ := put1 (kdP b L p)
        exact Ok.i ⟨by rw [nx], a1, ⟨a2, a3, fun z => absurd z k97⟩, a4⟩
      obtain ⟨n, hn, en⟩ := hg.n q
      have t0 := by_t n hn
      unfold f_Tp_scanOne_b84
      rcases Nat.lt_or_ge n 128 with y | y
      · have eb : b p = nI n := by rw [en, t0.2.2.1 y]
        rw [gp, gp, cl (show p < 4096 by omega), hb p q]
        by_cases y0 : n = 0
        · rw [eb, y0, if_pos (by decide), i00]
          refine fin 1 ?_
          rw [kd, eb, y0]; decide
        · rw [eb, if_neg (nI_nle (by omega) (by omega))]
          obtain ⟨s1, s2⟩ := sg_t n y
          rw [s1, bind_e]
          by_cases z : isSg (nI n)
          · rw [if_pos z, if_neg (s2 z), i10]
            exact fin _ (by rw [kd, eb, if_pos z])
          · rw [if_neg z, if_pos (by decide), i00]
            exact fin 1 (by rw [kd, eb, if_neg z])
      · have neg : b p < 0 := by rw [en]; exact t0.2.2.2.1 y
        rw [if_pos (Int32.le_of_lt neg), i00]
        refine fin 1 ?_
        rw [kd, if_neg]
        intro z
        rcases z with z | z | z | z | z | z | z | z | z <;> (rw [z] at neg; exact absurd neg (by decide))
  · have ep : p = L := by omega
    rw [if_neg (nI_nlt q (by omega)), gt, letS_e]
    obtain ⟨a1, a2, a3, a4⟩ := put1 0
    have kd : kdP b L p = 0 := by unfold kdP; rw [if_pos q]
    refine Ok.i ⟨?_, a1, ⟨by rw [kd]; exact a2, a3, fun z => ?_⟩, a4⟩
    · unfold nxP; rw [if_pos q]
    · rw [kd] at z; rcases z with z | z <;> exact absurd z (by decide)
