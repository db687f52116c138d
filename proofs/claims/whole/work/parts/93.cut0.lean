/-! READ: the reference's tokens. -/
def kfN (x : Nat) : Nat → Int32
  | 0 => 1
  | k + 1 => if keyN.getD k 0 = x then nI (20 + k) else kfN x k
theorem kf_in : ∀ i, i < 22 → kfN (wordN.getD i 0) 22 = mkK (kwN (wordN.getD i 0)) := by decide +kernel
theorem key_in : ∀ k, k < 22 → ∃ i, i < 22 ∧ keyN.getD k 0 = wordN.getD i 0 := by decide +kernel
theorem kf_all (x : Nat) : kfN x 22 = mkK (kwN x) := by
  by_cases h : ∃ i, i < 22 ∧ wordN.getD i 0 = x
  · obtain ⟨i, hi, rfl⟩ := h
    exact kf_in i hi
  · have e1 : ∀ k, k ≤ 22 → kfN x k = 1 := by
      intro k
      induction k with
      | zero => intro _; rfl
      | succ k ih =>
        intro hk
        rw [kfN, if_neg, ih (by omega)]
        intro z
        obtain ⟨i, hi, e⟩ := key_in k (by omega)
        exact h ⟨i, hi, by rw [← e]; exact z⟩
    have e2 : kwN x = 97 := by
      unfold kwN
      rw [if_neg]
      intro z
      unfold wIx at z
      have := runF_s (Q := fun i => ¬ wordN.getD i 0 = x) (L := 22) 22 0 rfl z
      exact h ⟨_, z, Classical.not_not.mp this⟩
    rw [e1 22 (by omega), e2]; decide
theorem wd_small : ∀ i, i < 22 → wordN.getD i 0 < 27 ^ 7 := by decide +kernel
theorem nm_ge {b : Nat → Int32} {p : Nat} : ∀ n, (∀ i, i < n + 1 → 1 ≤ ltN (b (p + i))) → 27 ^ n ≤ nmN b p (n + 1)
  | 0, h => by
    have := h 0 (by omega)
    simp only [nmN, Nat.pow_zero]; omega
  | n + 1, h => by
    have ih := nm_ge n (fun i hi => h i (by omega))
    have e : nmN b p (n + 1 + 1) = 27 * nmN b p (n + 1) + ltN (b (p + (n + 1))) := rfl
    rw [e, Nat.pow_succ]; omega
theorem kw_8 {x : Nat} (h : 27 ^ 7 ≤ x) : kwN x = 97 := by
  unfold kwN
  rw [if_neg]
  intro z
  unfold wIx at z
  have := Classical.not_not.mp (runF_s (Q := fun i => ¬ wordN.getD i 0 = x) (L := 22) 22 0 rfl z)
  have := wd_small _ z
  omega
theorem keyN_t : ∀ i, i < 22 → keyN.getD i 0 < 2 ^ 31 := by decide +kernel
theorem Mo_cut146 {S : Mem} (hK : mK (S.2.2 0 9)) {x : Nat} (hx : x < 2 ^ 62) (k7 : Int32 → Mem → Option Mem) (p n : Int32) : f_Mo_cut0_l146 k7 5000 p n (lN x) 1 0 S = f_Mo_cut0_b179 k7 p n (lN x) (mkK (kwN x)) S := by
  rw [← kf_all]
  refine lpN (P := fun m k => f_Mo_cut0_l146 k7 m p n (lN x) (kfN x k) (nI k) S = f_Mo_cut0_b179 k7 p n (lN x) (kfN x 22) S) 22 (fun m k hk ih => ?_) (fun m => ?_) 5000 0 (by omega) (by omega)
  · show f_Mo_cut0_b146 k7 (f_Mo_cut0_l146 k7 m) p n (lN x) (kfN x k) (nI k) S = _
    have w2 := keyN_t k hk
    rw [← ih]
    simp only [f_Mo_cut0_b146, if_neg (show ¬ (22 : Int32) ≤ nI k from le_nI (a := 22) (by omega) (by decide) (by omega)), gIn_n hk (by decide), cl (show k < 4096 by omega), hK k hk, lg_cmp_eq, pk_lEQ (show keyN.getD k 0 < 2 ^ 63 by omega) (show x < 2 ^ 63 by omega), nI_1, letS_e]
    by_cases q : keyN.getD k 0 = x
    · rw [if_pos q, kfN, if_pos q, show (20 : Int32) = nI 20 from rfl, iA]
    · rw [if_neg q, kfN, if_neg q]
  · show f_Mo_cut0_b146 k7 (f_Mo_cut0_l146 k7 m) p n (lN x) (kfN x 22) (nI 22) S = _
    simp only [f_Mo_cut0_b146, if_pos (show (22 : Int32) ≤ nI 22 from le_rf 22)]
theorem appL {x m : Nat} (h1 : 97 ≤ m) (h2 : m ≤ 122) : f_Mo_appends (lN x) (nI m) = some (lN (27 * x + ltN (nI m))) := by
  obtain ⟨-, -, e1, -, e2, e3⟩ := lt_t m (by omega) (lt_n h1 h2)
  unfold f_Mo_appends f_Mo_appends_b0 ltN
  rw [if_neg e3, e1, e2, show (27 : Int64) = lN 27 from rfl, lN_mul, lN_add]
theorem Mo_letters {S : Mem} {b : Nat → Int32} {L : Nat} (hL : L ≤ 2000) (e : S.1 0 4 = nI L) (hb : byM b L (S.2.1 0 3)) (hg : byG b L) (hK : mK (S.2.2 0 9)) (k7 : Int32 → Mem → Option Mem) {p : Nat} (hp : p < L) (hl : isLt (b p)) : f_Mo_cut0_l85 k7 5000 (nI p) 0 0 S = Option.bind (f_Mo_token (mkK (kdP b L p)) (nI p) 0 (lN (nmN b p (if leP b L p - p ≤ 8 then leP b L p - p else 8))) S) (fun q => k7 (nI (leP b L p)) q) := by
  have lb := le_gt hp hl
  have kd : kdP b L p = if leP b L p - p ≤ 8 then kwN (nmN b p (leP b L p - p)) else 1 := by unfold kdP; rw [if_neg (by omega), if_pos hl]
  have lin : ∀ i, p ≤ i → i < leP b L p → isLt (b i) := fun i h1 h2 => runF_in (Q := fun i => isLt (b i)) (L - p) p i h1 h2
  have lnum : ∀ i, i < leP b L p - p → 1 ≤ ltN (b (p + i)) ∧ ltN (b (p + i)) ≤ 26 := fun i hi => by
    obtain ⟨m, m1, m2, em⟩ := hg.l (show p + i < L by omega) (lin (p + i) (by omega) (by omega))
    rw [em]; unfold ltN; rw [cl (by omega)]; omega
  have key := lpN (P := fun n j => f_Mo_cut0_l85 k7 n (nI p) (nI j) (lN (nmN b p (if j ≤ 8 then j else 8))) S = Option.bind (f_Mo_token (mkK (kdP b L p)) (nI p) 0 (lN (nmN b p (if leP b L p - p ≤ 8 then leP b L p - p else 8))) S) (fun q => k7 (nI (leP b L p)) q)) (leP b L p - p) (fun n j hj ih => ?_) (fun n => ?_) 5000 0 (by omega) (by omega)
  · exact key
  · show f_Mo_cut0_b85 k7 (f_Mo_cut0_l85 k7 n) (nI p) (nI j) _ S = _
    obtain ⟨m, m1, m2, em⟩ := hg.l (show p + j < L by omega) (lin (p + j) (by omega) (by omega))
    have eu := um_v (L := L) (show p + j < L by omega) em (by omega)
    simp only [f_Mo_cut0_b85, iA, Mo_byteAt hL e hb (show p + j < 4000 by omega), bind_e, eu, Mo_isLetter, if_pos (lt_n m1 m2), nI_1]
    rw [i10]
    by_cases q8 : j < 8
    · rw [if_neg (show ¬ (8 : Int32) ≤ nI j from le_nI (a := 8) (by omega) (by decide) (by omega)), if_pos (by omega), appL m1 m2, bind_e]
      rw [if_pos (by omega)] at ih
      simp only [nmN] at ih
      rw [em] at ih
      exact ih
    · rw [if_pos (show (8 : Int32) ≤ nI j from nI_le (a := 8) (by omega) (by omega))]
      rw [if_neg (by omega)] at ih
      by_cases q9 : j = 8
      · rw [if_pos (by omega), q9]; rw [q9] at ih; exact ih
      · rw [if_neg (by omega)]; exact ih
  · show f_Mo_cut0_b85 k7 (f_Mo_cut0_l85 k7 n) (nI p) (nI (leP b L p - p)) _ S = _
    have en : p + (leP b L p - p) = leP b L p := by omega
    have nl : ¬ isLt (um b L (leP b L p)) := by
      rw [um_l hg]
      rintro ⟨z1, z2⟩
      exact runF_s (Q := fun i => isLt (b i)) (L - p) p rfl z1 z2
    simp only [f_Mo_cut0_b85, iA, en, Mo_byteAt hL e hb (show leP b L p < 4000 by omega), bind_e, Mo_isLetter, if_neg nl]
    rw [if_pos trivial]
    have tok : ∀ k : Int32, f_Mo_cut0_b179 k7 (nI p) (nI (leP b L p - p)) (lN (nmN b p (if leP b L p - p ≤ 8 then leP b L p - p else 8))) k S = Option.bind (f_Mo_token k (nI p) 0 (lN (nmN b p (if leP b L p - p ≤ 8 then leP b L p - p else 8))) S) (fun q => k7 (nI (leP b L p)) q) := fun k => by
      unfold f_Mo_cut0_b179
      simp only [letS_e, iA, en]
    unfold f_Mo_cut0_b135
    by_cases q8 : leP b L p - p ≤ 8
    · rw [if_pos (show nI (leP b L p - p) ≤ (8 : Int32) from nI_le (b := 8) q8 (by decide)), show kdP b L p = kwN (nmN b p (leP b L p - p)) by rw [kd, if_pos q8]]
      by_cases q7 : leP b L p - p ≤ 7
      · rw [if_neg (show ¬ (7 : Int32) < nI (leP b L p - p) from nI_nlt (a := 7) q7 (by decide))]
        have hx : nmN b p (leP b L p - p) < 2 ^ 62 := Nat.lt_trans (nm_lt _ (fun i hi => (lnum i hi).2)) (pw27 _ (by omega))
        have := tok (mkK (kwN (nmN b p (leP b L p - p))))
        rw [if_pos q8] at this
        rw [if_pos q8, Mo_cut146 hK hx]
        exact this
      · have e8 : leP b L p - p = 8 := by omega
        have k8 : kwN (nmN b p (leP b L p - p)) = 97 := by
          rw [e8]
          exact kw_8 (nm_ge 7 (fun i hi => (lnum i (by omega)).1))
        rw [if_pos (show (7 : Int32) < nI (leP b L p - p) from nI_lt (a := 7) (by omega) (by omega)), k8]
        exact tok 1
    · rw [if_neg (show ¬ nI (leP b L p - p) ≤ (8 : Int32) from le_nI (b := 8) q8 (by omega) (by decide)), if_pos (show (7 : Int32) < nI (leP b L p - p) from nI_lt (a := 7) (by omega) (by omega)), show kdP b L p = 1 by rw [kd, if_neg q8]]
      exact tok 3
theorem Mo_digits {S : Mem} {b : Nat → Int32} {L : Nat} (hL : L ≤ 2000) (e : S.1 0 4 = nI L) (hb : byM b L (S.2.1 0 3)) (hg : byG b L) (k7 : Int32 → Mem → Option Mem) {p : Nat} (hp : p < L) (hl : ¬ isLt (b p)) (hd : isDg (b p)) : f_Mo_cut0_l208 k7 5000 (nI p) 0 0 S = Option.bind (f_Mo_token (mkK (kdP b L p)) (nI p) (nI (dgN b p (if deP b L p - p ≤ 4 then deP b L p - p else 4))) 0 S) (fun q => k7 (nI (deP b L p)) q) := by
  have lb := de_gt hp hd
  have kd : kdP b L p = if deP b L p - p ≤ 4 then 48 else 1 := by unfold kdP; rw [if_neg (by omega), if_neg hl, if_pos hd]
  have lin : ∀ i, p ≤ i → i < deP b L p → isDg (b i) := fun i h1 h2 => runF_in (Q := fun i => isDg (b i)) (L - p) p i h1 h2
  have key := lpN (P := fun n j => f_Mo_cut0_l208 k7 n (nI p) (nI j) (nI (dgN b p (if j ≤ 4 then j else 4))) S = Option.bind (f_Mo_token (mkK (kdP b L p)) (nI p) (nI (dgN b p (if deP b L p - p ≤ 4 then deP b L p - p else 4))) 0 S) (fun q => k7 (nI (deP b L p)) q)) (deP b L p - p) (fun n j hj ih => ?_) (fun n => ?_) 5000 0 (by omega) (by omega)
  · exact key
  · show f_Mo_cut0_b208 k7 (f_Mo_cut0_l208 k7 n) (nI p) (nI j) _ S = _
    obtain ⟨m, m1, m2, em⟩ := hg.d (show p + j < L by omega) (lin (p + j) (by omega) (by omega))
    have eu := um_v (L := L) (show p + j < L by omega) em (by omega)
    have isd : isDg (nI m) := ⟨nI_nlt (b := 48) m1 (by omega), nI_nlt (a := 57) m2 (by decide)⟩
    simp only [f_Mo_cut0_b208, iA, Mo_byteAt hL e hb (show p + j < 4000 by omega), bind_e, eu, Mo_isDigit, if_pos isd, nI_1, letS_e]
    rw [i10]
    by_cases q8 : j < 4
    · rw [if_neg (show ¬ (4 : Int32) ≤ nI j from le_nI (a := 4) (by omega) (by decide) (by omega)), if_pos (by omega), show (10 : Int32) = nI 10 from rfl, iM, iA, show (48 : Int32) = nI 48 from rfl, pk_sub (by omega)]
      rw [if_pos (by omega)] at ih
      simp only [dgN] at ih
      rw [em, cl (by omega)] at ih
      rw [show 10 * dgN b p j + m - 48 = 10 * dgN b p j + (m - 48) by omega]
      exact ih
    · rw [if_pos (show (4 : Int32) ≤ nI j from nI_le (a := 4) (by omega) (by omega))]
      rw [if_neg (by omega)] at ih
      by_cases q9 : j = 4
      · rw [if_pos (by omega), q9]; rw [q9] at ih; exact ih
      · rw [if_neg (by omega)]; exact ih
  · show f_Mo_cut0_b208 k7 (f_Mo_cut0_l208 k7 n) (nI p) (nI (deP b L p - p)) _ S = _
    have en : p + (deP b L p - p) = deP b L p := by omega
    have nl : ¬ isDg (um b L (deP b L p)) := by
      rw [um_d hg]
      rintro ⟨z1, z2⟩
      exact runF_s (Q := fun i => isDg (b i)) (L - p) p rfl z1 z2
    simp only [f_Mo_cut0_b208, iA, en, Mo_byteAt hL e hb (show deP b L p < 4000 by omega), bind_e, Mo_isDigit, if_neg nl]
    rw [if_pos trivial]
    unfold f_Mo_cut0_b261
    simp only [letS_e, iA, en]
    by_cases q8 : deP b L p - p ≤ 4
    · rw [if_pos (show nI (deP b L p - p) ≤ (4 : Int32) from nI_le (b := 4) q8 (by decide)), show kdP b L p = 48 by rw [kd, if_pos q8]]; rfl
    · rw [if_neg (show ¬ nI (deP b L p - p) ≤ (4 : Int32) from le_nI (b := 4) q8 (by omega) (by decide)), show kdP b L p = 1 by rw [kd, if_neg q8]]; rfl
theorem Mo_sign (x p d : Int32) (S : Mem) : f_Mo_sign p x d S = Option.bind (f_Mo_token (sgM x) p 0 0 S) (fun q => some (1, q)) := by
  unfold f_Mo_sign f_Mo_sign_b0 f_Mo_sign_b43 f_Mo_sign_b55 f_Mo_sign_b65 f_Mo_sign_b75 f_Mo_sign_b85 f_Mo_sign_b95 sgM
  by_cases h1 : x = 60
  · subst h1; rfl
  by_cases h2 : x = 47
  · subst h2; rfl
  by_cases h3 : x = 42
  · subst h3; rfl
  by_cases h4 : x = 45
  · subst h4; rfl
  by_cases h5 : x = 43
  · subst h5; rfl
  by_cases h6 : x = 59
  · subst h6; rfl
  by_cases h7 : x = 61
  · subst h7; rfl
  by_cases h8 : x = 40
  · subst h8; rfl
  by_cases h9 : x = 41
  · subst h9; rfl
  simp only [if_neg h1, if_neg h2, if_neg h3, if_neg h4, if_neg h5, if_neg h6, if_neg h7, if_neg h8, if_neg h9]
theorem Mo_cut0 {S : Mem} {b : Nat → Int32} {L Q : Nat} (hL : L ≤ 2000) (e : S.1 0 4 = nI L) (hb : byM b L (S.2.1 0 3)) (hg : byG b L) (hK : mK (S.2.2 0 9)) (hQ : lastP b L Q) : Ok (fun S' => O2 S S' ∧ ∀ i, i ≤ Q → tkM b L i (psP b L i) S') (f_Mo_cut0 S) := by
  obtain ⟨q1, q2, q3⟩ := hQ
  unfold f_Mo_cut0 f_Mo_cut0_b0
  rw [letS_e]
  have main : ∀ n p i S', L - p + 1 < n → p ≤ L → i ≤ 401 → O2 S S' → S'.1 0 10 = nI i → nbP b L p = psP b L i → (∀ j, j < i → tkM b L j (psP b L j) S') → Ok (fun S' => O2 S S' ∧ ∀ i, i ≤ Q → tkM b L i (psP b L i) S') (f_Mo_cut0_l7 n (nI p) S') := by
    intro n
    induction n with
    | zero => intro p i S' h; omega
    | succ n ih =>
      intro p i S' hn hp hi f1 f2 hps hj
      show Ok _ (f_Mo_cut0_b7 (f_Mo_cut0_l7 n) (nI p) S')
      have e' : S'.1 0 4 = nI L := by rw [f1.1 4 (by omega)]; exact e
      have hb' : byM b L (S'.2.1 0 3) := by rw [f1.2.1 3 (by omega) (by omega) (by omega)]; exact hb
      have hK' : mK (S'.2.2 0 9) := by rw [f1.2.2 9 (by omega)]; exact hK
      unfold f_Mo_cut0_b7
      rw [f2, e']
      by_cases qi : i = 401
      · rw [if_pos (show (400 : Int32) < nI i by rw [qi]; decide)]
        exact Ok.i ⟨f1, fun j hjQ => hj j (by omega)⟩
      rw [if_neg (show ¬ (400 : Int32) < nI i from nI_nlt (a := 400) (by omega) (by decide)), Mo_byteAt hL e' hb' (by omega), bind_e]
      -- a token put at p
      have tokn : ∀ (k v : Int32) (x : Int64) (nx : Nat), psP b L i = p → k = mkK (kdP b L p) → (kdP b L p = 97 → x = lN (vlP b L p)) → (kdP b L p = 48 → v = nI (vlP b L p)) → nx = nxP b L p → p < nx → Ok (fun S' => O2 S S' ∧ ∀ i, i ≤ Q → tkM b L i (psP b L i) S') (Option.bind (f_Mo_token k (nI p) v x S') (fun q => f_Mo_cut0_l7 n (nI nx) q)) := by
        intro k v x nx ep ek ex ev enx hlt
        refine (Mo_token (show i ≤ 400 by omega) f2 k (nI p) v x).b (fun c hc => ?_)
        obtain ⟨c1, c2, c3, c4, c5, c6, c7⟩ := hc
        have nxl := (nx_ok (b := b) (L := L) hp).2.1
        refine ih nx (i + 1) c (by omega) (by omega) (by omega) (f1.tr c1) c2 (by rw [enx, ← ep]; rfl) (fun j hjl => ?_)
        by_cases y : j = i
        · rw [y, ep]
          exact ⟨c3.trans ek, c4, fun z => c6.trans (ex z), fun z => c5.trans (ev z)⟩
        · obtain ⟨w1, w2, w3, w4⟩ := c7 j y
          obtain ⟨u1, u2, u3, u4⟩ := hj j (by omega)
          exact ⟨w1.trans u1, w2.trans u2, fun z => w4.trans (u3 z), fun z => w3.trans (u4 z)⟩
      rcases Nat.lt_or_ge p L with q | q
      · rw [if_pos (nI_lt q (by omega))]
        obtain ⟨u1, u2, u3, u4⟩ := um_p hg q
        have nl : ¬ L ≤ p := by omega
        have blank : isBl (um b L p) → Ok (fun S' => O2 S S' ∧ ∀ i, i ≤ Q → tkM b L i (psP b L i) S') (f_Mo_cut0_l7 n (nI (p + 1)) S') := fun hbl => by
          refine ih (p + 1) i S' (by omega) (by omega) hi f1 f2 ?_ hj
          rw [← hps]; unfold nbP
          rw [runF_y (Q := fun i => isBl (b i)) q (u3.mp hbl)]
        by_cases b1 : um b L p = 9
        · rw [if_pos b1, nI_1]; exact blank (Or.inl b1)
        rw [if_neg b1]
        by_cases b2 : um b L p = 10
        · rw [if_pos b2, nI_1]; exact blank (Or.inr (Or.inl b2))
        rw [if_neg b2]
        by_cases b3 : um b L p = 13
        · rw [if_pos b3, nI_1]; exact blank (Or.inr (Or.inr (Or.inl b3)))
        rw [if_neg b3]
        by_cases b4 : um b L p = 32
        · rw [if_pos b4, nI_1]; exact blank (Or.inr (Or.inr (Or.inr b4)))
        rw [if_neg b4, Mo_isLetter, bind_e]
        have nbl : ¬ isBl (b p) := fun z => by
          rcases u3.mpr z with y | y | y | y
          · exact b1 y
          · exact b2 y
          · exact b3 y
          · exact b4 y
        have ep : psP b L i = p := by rw [← hps]; unfold nbP; exact runF_n (Q := fun i => isBl (b i)) nbl
        by_cases l1 : isLt (b p)
        · rw [if_pos (u1.mpr l1), i10, Mo_letters hL e' hb' hg hK' _ q l1]
          refine tokn _ 0 _ _ ep rfl (fun hk => ?_) (fun hk => ?_) (by unfold nxP; rw [if_neg nl, if_pos l1]) (le_gt q l1).1
          · have kd : kdP b L p = if leP b L p - p ≤ 8 then kwN (nmN b p (leP b L p - p)) else 1 := by unfold kdP; rw [if_neg nl, if_pos l1]
            by_cases z : leP b L p - p ≤ 8
            · rw [if_pos z]; unfold vlP; rw [if_neg nl, if_pos l1]
            · rw [kd, if_neg z] at hk; exact absurd hk (by decide)
          · exfalso
            have kd : kdP b L p = if leP b L p - p ≤ 8 then kwN (nmN b p (leP b L p - p)) else 1 := by unfold kdP; rw [if_neg nl, if_pos l1]
            rw [kd] at hk
            by_cases z : leP b L p - p ≤ 8
            · rw [if_pos z] at hk
              unfold kwN at hk
              by_cases y : wIx (nmN b p (leP b L p - p)) < 22
              · rw [if_pos y] at hk
                have := (nI_eq (a := 128 + wIx (nmN b p (leP b L p - p))) (b := 48) (by omega) (by decide)).mp hk
                omega
              · rw [if_neg y] at hk; exact absurd hk (by decide)
            · rw [if_neg z] at hk; exact absurd hk (by decide)
        rw [if_neg (fun z => l1 (u1.mp z)), i00, Mo_isDigit, bind_e]
        by_cases l2 : isDg (b p)
        · rw [if_pos (u2.mpr l2), i10, Mo_digits hL e' hb' hg _ q l1 l2]
          have kd : kdP b L p = if deP b L p - p ≤ 4 then 48 else 1 := by unfold kdP; rw [if_neg nl, if_neg l1, if_pos l2]
          refine tokn _ _ 0 _ ep rfl (fun hk => ?_) (fun hk => ?_) (by unfold nxP; rw [if_neg nl, if_neg l1, if_pos l2]) (de_gt q l2).1
          · rw [kd] at hk
            by_cases z : deP b L p - p ≤ 4
            · rw [if_pos z] at hk; exact absurd hk (by decide)
            · rw [if_neg z] at hk; exact absurd hk (by decide)
          · rw [kd] at hk
            by_cases z : deP b L p - p ≤ 4
            · rw [if_pos z]; unfold vlP; rw [if_neg nl, if_neg l1, if_pos l2]
            · rw [if_neg z] at hk; exact absurd hk (by decide)
        rw [if_neg (fun z => l2 (u2.mp z)), i00, nI_1, Mo_byteAt hL e' hb' (by omega), bind_e, Mo_sign]
        have kd : kdP b L p = if isSg (b p) then b p else 1 := by unfold kdP; rw [if_neg nl, if_neg l1, if_neg l2]
        have := tokn (sgM (um b L p)) 0 0 (p + 1) ep (by rw [kd]; exact u4) (fun hk => ?_) (fun hk => ?_) (by unfold nxP; rw [if_neg nl, if_neg l1, if_neg l2]) (by omega)
        · obtain ⟨z, ez, hz⟩ := this
          cases ht : f_Mo_token (sgM (um b L p)) (nI p) 0 0 S' with
          | none => rw [ht] at ez; exact absurd ez (by simp)
          | some c =>
            rw [ht, bind_e] at ez
            refine ⟨z, ?_, hz⟩
            rw [bind_e, bind_e, letS_e]
            show f_Mo_cut0_l7 n (nI p + 1) c = _
            rw [nI_1]; exact ez
        · rw [kd] at hk
          by_cases z : isSg (b p)
          · rw [if_pos z] at hk
            rcases z with z | z | z | z | z | z | z | z | z <;> (rw [z] at hk; exact absurd hk (by decide))
          · rw [if_neg z] at hk; exact absurd hk (by decide)
        · rw [kd] at hk
          by_cases z : isSg (b p)
          · rw [if_pos z] at hk
            rcases z with z | z | z | z | z | z | z | z | z <;> (rw [z] at hk; exact absurd hk (by decide))
          · rw [if_neg z] at hk; exact absurd hk (by decide)
      · have ep : p = L := by omega
        subst ep
        rw [if_neg (nI_nlt (Nat.le_refl _) (by omega))]
        have eps : psP b p i = p := by rw [← hps]; unfold nbP; rw [runF_e (Nat.le_refl _)]
        have k0 : kdP b p (psP b p i) = 0 := by unfold kdP; rw [eps, if_pos (Nat.le_refl _)]
        have hQi : Q ≤ i := by
          rcases Nat.lt_or_ge i Q with z | z
          · exact absurd (Or.inl k0) (q2 i z)
          · exact z
        refine (Mo_token (show i ≤ 400 by omega) f2 0 (nI p) 0 0).b (fun c hc => ?_)
        obtain ⟨c1, c2, c3, c4, c5, c6, c7⟩ := hc
        refine Ok.i ⟨f1.tr c1, fun j hjl => ?_⟩
        by_cases y : j = i
        · rw [y]
          refine ⟨by rw [k0]; exact c3, by rw [eps]; exact c4, fun z => ?_, fun z => ?_⟩
          · rw [k0] at z; exact absurd z (by decide)
          · rw [k0] at z; exact absurd z (by decide)
        · obtain ⟨w1, w2, w3, w4⟩ := c7 j y
          obtain ⟨u1, u2, u3, u4⟩ := hj j (by omega)
          exact ⟨w1.trans u1, w2.trans u2, fun z => w4.trans (u3 z), fun z => w3.trans (u4 z)⟩
  refine (main 5000 0 0 (pI S 0 10 0) (by omega) (Nat.zero_le _) (by omega) ⟨fun k hk => by rw [pI_1, if_neg (by omega)], fun f _ _ _ => rfl, fun f _ => rfl⟩ rfl rfl (fun j hj => by omega))
