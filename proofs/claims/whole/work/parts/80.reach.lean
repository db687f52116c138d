/-! BOTH: whom a secret can come to. -/
def r1 (T : TX) (u : Nat → Bool) (t : Nat) (x : Int32) : Int32 := if (u t && bt x (fm T t)) = true then x ||| bitM (to T t) else x
def RR (T : TX) (u : Nat → Bool) (x : Int32) : Int32 := iter (r1 T u) (nT T) x
def itR (T : TX) (u : Nat → Bool) (k : Nat) (x : Int32) : Int32 := iter (fun _ y => RR T u y) k x
theorem r1_sub {T : TX} {u : Nat → Bool} {t : Nat} {x : Int32} {i : Nat} (h : bt x i = true) : bt (r1 T u t x) i = true := by
  unfold r1
  split
  · rw [b_or, h]; rfl
  · exact h
theorem r1i_sub {T : TX} {u : Nat → Bool} {x : Int32} {i : Nat} (h : bt x i = true) : ∀ n, bt (iter (r1 T u) n x) i = true
  | 0 => h
  | n + 1 => by rw [iter_s]; exact r1_sub (r1i_sub h n)
theorem r1i_hi {T : TX} {u : Nat → Bool} {x : Int32} (hE : TE_ok T) (h : ∀ i, nM T ≤ i → i < 32 → bt x i = false) : ∀ n, n ≤ nT T → ∀ i, nM T ≤ i → i < 32 → bt (iter (r1 T u) n x) i = false
  | 0, _, i, h1, h2 => h i h1 h2
  | n + 1, hn, i, h1, h2 => by
    rw [iter_s]
    have ih := r1i_hi (u := u) hE h n (by omega) i h1 h2
    have ht := (hE n (by omega)).2.2.1
    have h7 : to T n < 32 := by omega
    generalize iter (r1 T u) n x = y at ih ⊢
    unfold r1
    split
    · rw [b_or, ih, bt_bitM (by omega) h2]; simp; omega
    · exact ih
theorem sub_eq {x y : Int32} {n : Nat} (hy : ∀ i, n ≤ i → i < 32 → bt y i = false) (h1 : ∀ i, bt x i = true → bt y i = true) (h2 : ∀ i, i < n → bt y i = true → bt x i = true) : x = y := by
  refine b_ext (fun i hi => ?_)
  rcases Nat.lt_or_ge i n with q | q
  · cases hx : bt x i
    · cases hz : bt y i
      · rfl
      · rw [h2 i q hz] at hx; exact absurd hx (by decide)
    · rw [h1 i hx]
  · rw [hy i q hi]
    cases hx : bt x i
    · rfl
    · have := h1 i hx; rw [hy i q hi] at this; exact absurd this (by decide)
theorem r1i_ne {T : TX} {u : Nat → Bool} {x : Int32} {n : Nat} (h : ¬ iter (r1 T u) n x = x) : ¬ iter (r1 T u) (n + 1) x = x := by
  intro e
  refine h (b_ext (fun i hi => ?_))
  cases hx : bt x i
  · cases hz : bt (iter (r1 T u) n x) i
    · rfl
    · have this : bt (iter (r1 T u) (n + 1) x) i = true := r1_sub (T := T) (u := u) (t := n) hz
      rw [e, hx] at this; exact absurd this (by decide)
  · exact r1i_sub hx n
theorem popN_mono {x y : Int32} : ∀ n, (∀ i, i < n → bt x i = true → bt y i = true) → popN x n ≤ popN y n
  | 0, _ => Nat.le_refl _
  | n + 1, h => by
    have ih := popN_mono n (fun i hi => h i (by omega))
    simp only [popN]
    by_cases q : bt x n = true
    · rw [if_pos q, if_pos (h n (by omega) q)]; omega
    · rw [if_neg q]; omega
theorem popN_lt {x y : Int32} : ∀ n, (∀ i, i < n → bt x i = true → bt y i = true) → (∃ i, i < n ∧ bt y i = true ∧ bt x i = false) → popN x n < popN y n
  | 0, _, ⟨i, hi, _⟩ => by omega
  | n + 1, h, ⟨i, hi, h1, h2⟩ => by
    simp only [popN]
    by_cases e : i = n
    · subst e
      rw [if_pos h1, if_neg (by rw [h2]; decide)]
      have := popN_mono (x := x) (y := y) i (fun j hj => h j (by omega))
      omega
    · have ih := popN_lt n (fun j hj => h j (by omega)) ⟨i, by omega, h1, h2⟩
      by_cases q : bt x n = true
      · rw [if_pos q, if_pos (h n (by omega) q)]; omega
      · rw [if_neg q]; omega
theorem ne_ex {x y : Int32} {n : Nat} (hx : ∀ i, n ≤ i → i < 32 → bt x i = false) (hy : ∀ i, n ≤ i → i < 32 → bt y i = false) (h1 : ∀ i, bt x i = true → bt y i = true) (hne : ¬ y = x) : ∃ i, i < n ∧ bt y i = true ∧ bt x i = false := by
  refine Classical.byContradiction (fun z => hne (sub_eq hy h1 (fun i hi hb => ?_)).symm)
  cases hq : bt x i
  · exact absurd ⟨i, hi, hb, hq⟩ z
  · rfl
theorem itR_hi {T : TX} {u : Nat → Bool} {x : Int32} (hE : TE_ok T) (h : ∀ i, nM T ≤ i → i < 32 → bt x i = false) : ∀ k, ∀ i, nM T ≤ i → i < 32 → bt (itR T u k x) i = false
  | 0 => h
  | k + 1 => r1i_hi hE (itR_hi hE h k) (nT T) (Nat.le_refl _)
theorem itR_s (T : TX) (u : Nat → Bool) (k : Nat) (x : Int32) : itR T u (k + 1) x = RR T u (itR T u k x) := rfl
theorem itR_fix {T : TX} {u : Nat → Bool} {x : Int32} (hN : TN T) (hE : TE_ok T) (h : ∀ i, nM T ≤ i → i < 32 → bt x i = false) : ∃ k, k ≤ 7 ∧ RR T u (itR T u k x) = itR T u k x ∧ (∀ j, j < k → ¬ RR T u (itR T u j x) = itR T u j x) ∧ itR T u 7 x = itR T u k x := by
  have h7 := hN.2.1.2
  obtain ⟨m, h1, h2, h3⟩ := fst_ex 8 (fun k => RR T u (itR T u k x) = itR T u k x)
  have grow : ∀ j, j ≤ m → j ≤ popN (itR T u j x) 7 := by
    intro j
    induction j with
    | zero => intro _; omega
    | succ j ih =>
      intro hj
      have i1 := ih (by omega)
      have hi := itR_hi (u := u) hE h j
      have hi2 := itR_hi (u := u) hE h (j + 1)
      have sub : ∀ i, bt (itR T u j x) i = true → bt (itR T u (j + 1) x) i = true := fun i hb => r1i_sub hb _
      have := popN_lt 7 (fun i _ => sub i) (ne_ex (fun i a b => hi i (by omega) b) (fun i a b => hi2 i (by omega) b) sub (h2 j (by omega)))
      omega
  have hm : m < 8 := by
    have g := grow m (Nat.le_refl _)
    have := popN_le (itR T u m x) 7
    omega
  have hf := h3 hm
  refine ⟨m, by omega, hf, h2, ?_⟩
  have st : ∀ d, itR T u (m + d) x = itR T u m x := by
    intro d
    induction d with
    | zero => rfl
    | succ d ih => show RR T u (itR T u (m + d) x) = _; rw [ih]; exact hf
  have := st (7 - m)
  rwa [show m + (7 - m) = 7 by omega] at this
def uB (T : TX) (r : RW) (off : Int32) (t : Nat) : Bool := !bt off t && decide (opn T r t)
def rch (T : TX) (r : RW) (off : Int32) (s : Nat) : Int32 := itR T (uB T r off) 7 (kn T r s &&& r 33)
theorem ka_hi {T : TX} {r : RW} (hI : RI T r) (s : Nat) : ∀ i, nM T ≤ i → i < 32 → bt (kn T r s &&& r 33) i = false := fun i h1 h2 => by rw [b_and, hI.1 i h1 h2, Bool.and_false]
theorem Mo_reach28 {v : Nat} {T : TX} {r : RW} {S : Mem} (hN : TN T) (hT : TV v T S) (hr : MR r S) (hE : TE_ok T) (k17 : Int32 → Int32 → Int32 → Option Int32) (off x : Int32) : f_Mo_reachOf_l28 S k17 5000 off x 0 0 = k17 off (RR T (uB T r off) x) (if RR T (uB T r off) x = x then 0 else 1) := by
  obtain ⟨hv, e18, ⟨-, -, -, e34⟩, -, -, -, -, ht⟩ := id hT
  have h7 := hN.2.1.2
  have h12 := hN.2.2.2.2
  suffices key : f_Mo_reachOf_l28 S k17 5000 off x (if iter (r1 T (uB T r off)) 0 x = x then 0 else 1) (nI 0) = k17 off (RR T (uB T r off) x) (if RR T (uB T r off) x = x then 0 else 1) by
    rw [if_pos (show iter (r1 T (uB T r off)) 0 x = x from rfl)] at key
    exact key
  refine lpN (P := fun n t => f_Mo_reachOf_l28 S k17 n off (iter (r1 T (uB T r off)) t x) (if iter (r1 T (uB T r off)) t x = x then 0 else 1) (nI t) = k17 off (RR T (uB T r off) x) (if RR T (uB T r off) x = x then 0 else 1)) (nT T) (fun n t htt ih => ?_) (fun n => ?_) 5000 0 (by omega) (by omega)
  · show f_Mo_reachOf_b28 S k17 (f_Mo_reachOf_l28 S k17 n) off _ _ (nI t) = _
    have k2 := ht t (by omega)
    have hE' := hE t htt
    simp only [f_Mo_reachOf_b28, e18, g2 hv, cl (show v < 4096 by omega), e34, hN.2.2.2.1, if_neg (le_nI (show ¬ nT T ≤ t by omega) (by omega) (by omega)), m12, g24 (show 12 * v + t < 24 by omega), cl (show 12 * v + t < 4096 by omega), k2.1, k2.2, hE'.2.1, hE'.2.2.2, letS_e, nI_1]
    generalize hx : iter (r1 T (uB T r off)) t x = y at ih ⊢
    have es : iter (r1 T (uB T r off)) (t + 1) x = r1 T (uB T r off) t y := by rw [iter_s, hx]
    rw [es] at ih
    have stay : r1 T (uB T r off) t y = y → f_Mo_reachOf_l28 S k17 n off y (if y = x then 0 else 1) (nI (t + 1)) = k17 off (RR T (uB T r off) x) (if RR T (uB T r off) x = x then 0 else 1) := fun e => by rw [e] at ih; exact ih
    rw [show ((off >>> (nI t &&& 31)) &&& 1) = bitOf off t from rfl, show ((y >>> (nI (fm T t) &&& 31)) &&& 1) = bitOf y (fm T t) from rfl, show ((y >>> (nI (to T t) &&& 31)) &&& 1) = bitOf y (to T t) from rfl]
    by_cases q1 : bitOf off t = 1
    · rw [if_pos q1]
      exact stay (by unfold r1 uB; rw [(bitOf_1 _ (by omega)).mp q1]; rfl)
    rw [if_neg q1]
    have b1 : bt off t = false := (bitOf_0 _ (by omega)).mp (nat_n1 q1)
    rcases Mo_isOpen hN hT hr hE htt with ⟨o1, o2⟩ | ⟨o1, o2⟩
    · rw [o2, bind_e, i10]
      have eu : uB T r off t = true := by unfold uB; rw [b1, decide_eq_true o1]; rfl
      by_cases q2 : bitOf y (fm T t) = 0
      · rw [if_pos q2]
        exact stay (by unfold r1; rw [(bitOf_0 _ (by omega)).mp q2, Bool.and_false]; rfl)
      rw [if_neg q2]
      have b2 : bt y (fm T t) = true := (bitOf_1 _ (by omega)).mp (bit_n0 q2)
      have er : r1 T (uB T r off) t y = y ||| bitM (to T t) := by unfold r1; rw [eu, b2]; rfl
      by_cases q3 : bitOf y (to T t) = 1
      · rw [if_pos q3]
        refine stay ?_
        rw [er]
        refine b_ext (fun i hi => ?_)
        rw [b_or, bt_bitM (by omega) hi]
        by_cases qi : i = to T t
        · rw [qi, (bitOf_1 _ (by omega)).mp q3]; rfl
        · simp [qi]
      · rw [if_neg q3]
        rw [er] at ih
        have hne : ¬ (y ||| bitM (to T t)) = x := by
          intro e
          have hs := r1i_sub (T := T) (u := uB T r off) (x := x) (i := to T t) (by rw [← e, b_or, bt_bitM (by omega) (by omega)]; simp) t
          rw [hx] at hs
          exact q3 ((bitOf_1 _ (by omega)).mpr hs)
        rw [if_neg hne] at ih
        exact ih
    · rw [o2, bind_e, i00]
      exact stay (by unfold r1 uB; rw [decide_eq_false o1, Bool.and_false]; rfl)
  · show f_Mo_reachOf_b28 S k17 (f_Mo_reachOf_l28 S k17 n) off _ _ (nI (nT T)) = _
    simp only [f_Mo_reachOf_b28, e18, g2 hv, cl (show v < 4096 by omega), e34, hN.2.2.2.1, if_pos (le_rf _)]
    rfl
theorem Mo_reachOf {v : Nat} {T : TX} {r : RW} {S : Mem} (hN : TN T) (hI : RI T r) (hT : TV v T S) (hr : MR r S) (hE : TE_ok T) (s : Nat) (off : Int32) : f_Mo_reachOf (nI s) off S = some (rch T r off s) := by
  unfold f_Mo_reachOf f_Mo_reachOf_b0
  rw [Mo_knowersOf hN hT hr, bind_e, g33, letS_e, ic_33, hr 33 (by decide)]
  obtain ⟨k, hk7, hf, hnf, he⟩ := itR_fix (u := uB T r off) hN hE (ka_hi hI s)
  unfold rch
  rw [he]
  refine lpN (P := fun n j => f_Mo_reachOf_l17 S (n + 1) off (itR T (uB T r off) j (kn T r s &&& r 33)) 1 = some (itR T (uB T r off) k (kn T r s &&& r 33))) k (fun n j hj ih => ?_) (fun n => ?_) 4999 0 (by omega) (by omega)
  · show f_Mo_reachOf_b17 S (f_Mo_reachOf_l17 S (n + 1)) off _ 1 = _
    unfold f_Mo_reachOf_b17
    rw [i10, Mo_reach28 hN hT hr hE, if_neg (hnf j hj)]
    exact ih
  · show f_Mo_reachOf_b17 S (f_Mo_reachOf_l17 S (n + 1)) off _ 1 = _
    unfold f_Mo_reachOf_b17
    rw [i10, Mo_reach28 hN hT hr hE, if_pos hf, hf]
    show f_Mo_reachOf_b17 S (f_Mo_reachOf_l17 S n) off _ 0 = _
    unfold f_Mo_reachOf_b17
    rw [i00]
def opB (T : TX) (r : RW) : Int32 := orF (fun t => if opn T r t then bitM t else 0) (nT T)
theorem Pe_openTies {tx : Nat} {T : TX} {r : RW} {S : Mem} (hN : TN T) (hC : CT T tx S) (hB : CB T r 4 S) (hE : TE_ok T) : f_Pe_openTies tx 4 S = some (opB T r) := by
  have h7 := hN.2.1.2
  have h12 := hN.2.2.2.2
  refine lpN (P := fun n t => f_Pe_openTies_l5 tx 4 S n (orF (fun t => if opn T r t then bitM t else 0) t) (nI t) = some (opB T r)) (nT T) (fun n t ht ih => ?_) (fun n => ?_) 5000 0 (by omega) (by omega)
  · show f_Pe_openTies_b5 tx 4 S (f_Pe_openTies_l5 tx 4 S n) _ (nI t) = _
    have k1 := hC.2.2.2.2.2.2 t ht
    have hE' := hE t ht
    rw [← ih]
    simp only [f_Pe_openTies_b5, f_Pe_openTies_b47, hC.1.2.2.2, hN.2.2.2.1, if_neg (le_nI (show ¬ nT T ≤ t by omega) (by omega) (by omega)), g12 (show t < 12 by omega), cl (show t < 4096 by omega), k1.1, k1.2, hE'.2.1, hE'.2.2.2, St_isAlive hB, St_isCut hB, bind_e, letS_e, nI_1]
    by_cases q1 : bitOf (r 33) (fm T t) = 0
    · rw [if_pos q1, if_pos trivial, orF_0 (f := fun t => if opn T r t then bitM t else 0) (by rw [if_neg (fun z => by rw [z.2.1] at q1; exact absurd q1 (by decide))])]
    rw [if_neg q1]
    by_cases q2 : bitOf (r 33) (to T t) = 0
    · rw [if_pos q2, if_pos trivial, orF_0 (f := fun t => if opn T r t then bitM t else 0) (by rw [if_neg (fun z => by rw [z.2.2] at q2; exact absurd q2 (by decide))])]
    rw [if_neg q2, i10]
    by_cases q3 : bitOf (r 34) t = 0
    · rw [if_pos q3]
      simp only [orF]
      rw [if_pos (show opn T r t from ⟨q3, bit_n0 q1, bit_n0 q2⟩)]
      rfl
    · rw [if_neg q3, orF_0 (f := fun t => if opn T r t then bitM t else 0) (by rw [if_neg (fun z => q3 z.1)])]
  · show f_Pe_openTies_b5 tx 4 S (f_Pe_openTies_l5 tx 4 S n) _ (nI (nT T)) = _
    simp only [f_Pe_openTies_b5, hC.1.2.2.2, hN.2.2.2.1, if_pos (le_rf _)]
    rfl
theorem Pe_spread30 {tx : Nat} {T : TX} {u : Nat → Bool} {S : Mem} (hN : TN T) (hC : CT T tx S) (hE : TE_ok T) (k9 : Int32 → Int32 → Int32 → Int32 → Option Int32) {ties : Int32} (hu : ∀ t, t < nT T → bt ties t = u t) (x ah rd : Int32) : f_Pe_spread_l30 tx S k9 5000 ties x ah rd 0 = k9 ties (RR T u x) ah (rd + 1) := by
  have h7 := hN.2.1.2
  have h12 := hN.2.2.2.2
  refine lpN (P := fun n t => f_Pe_spread_l30 tx S k9 n ties (iter (r1 T u) t x) ah rd (nI t) = k9 ties (RR T u x) ah (rd + 1)) (nT T) (fun n t ht ih => ?_) (fun n => ?_) 5000 0 (by omega) (by omega)
  · show f_Pe_spread_b30 tx S k9 (f_Pe_spread_l30 tx S k9 n) ties _ ah rd (nI t) = _
    have k1 := hC.2.2.2.2.2.2 t ht
    have hE' := hE t ht
    rw [← ih, iter_s]
    generalize iter (r1 T u) t x = y
    simp only [f_Pe_spread_b30, hC.1.2.2.2, hN.2.2.2.1, if_neg (le_nI (show ¬ nT T ≤ t by omega) (by omega) (by omega)), g12 (show t < 12 by omega), cl (show t < 4096 by omega), k1.1, k1.2, hE'.2.1, hE'.2.2.2, letS_e, nI_1]
    rw [show ((ties >>> (nI t &&& 31)) &&& 1) = bitOf ties t from rfl, show ((y >>> (nI (fm T t) &&& 31)) &&& 1) = bitOf y (fm T t) from rfl]
    have e1 := hu t ht
    by_cases q1 : bitOf ties t = 0
    · rw [if_pos q1]
      rw [(bitOf_0 _ (by omega)).mp q1] at e1
      unfold r1; rw [← e1]; rfl
    rw [if_neg q1]
    rw [(bitOf_1 _ (by omega)).mp (bit_n0 q1)] at e1
    by_cases q2 : bitOf y (fm T t) = 0
    · rw [if_pos q2]
      unfold r1; rw [(bitOf_0 _ (by omega)).mp q2, Bool.and_false]; rfl
    · rw [if_neg q2]
      unfold r1; rw [(bitOf_1 _ (by omega)).mp (bit_n0 q2), ← e1]; rfl
  · show f_Pe_spread_b30 tx S k9 (f_Pe_spread_l30 tx S k9 n) ties _ ah rd (nI (nT T)) = _
    simp only [f_Pe_spread_b30, hC.1.2.2.2, hN.2.2.2.1, if_pos (le_rf _)]
    rfl
theorem RR_0 {T : TX} {u : Nat → Bool} : RR T u 0 = 0 := by
  unfold RR
  refine iter_id _ (fun j hj => ?_)
  unfold r1; rw [b_0, Bool.and_false]; rfl
theorem Pe_spread {tx : Nat} {T : TX} {u : Nat → Bool} {S : Mem} (hN : TN T) (hC : CT T tx S) (hE : TE_ok T) {ties x : Int32} (hu : ∀ t, t < nT T → bt ties t = u t) (hx : ∀ i, nM T ≤ i → i < 32 → bt x i = false) : f_Pe_spread tx x ties S = some (itR T u 7 x) := by
  obtain ⟨k, hk7, hf, hnf, he⟩ := itR_fix (u := u) hN hE hx
  rw [he]
  show f_Pe_spread_l9 tx S 5000 ties x 0 0 = _
  by_cases x0 : x = 0
  · have e0 : itR T u k x = 0 := by
      rw [x0]
      clear he hf hnf
      induction k with
      | zero => rfl
      | succ k ih => rw [itR_s, ih (by omega), RR_0]
    rw [e0, x0]
    show f_Pe_spread_b9 tx S (f_Pe_spread_l9 tx S 4999) ties 0 0 0 = _
    unfold f_Pe_spread_b9
    rw [if_neg (by decide), if_pos rfl]
  · refine lpN (P := fun n i => ∀ ah, (i = 0 → ah = 0) → (∀ j, i = j + 1 → ah = itR T u j x) → f_Pe_spread_l9 tx S n ties (itR T u i x) ah (nI i) = some (itR T u k x)) (k + 1) (fun n i hi ih ah a1 a2 => ?_) (fun n ah a1 a2 => ?_) 5000 0 (by omega) (by omega) 0 (fun _ => rfl) (fun j hj => by omega)
    · show f_Pe_spread_b9 tx S (f_Pe_spread_l9 tx S n) ties _ ah (nI i) = _
      unfold f_Pe_spread_b9
      have hne : ¬ ah = itR T u i x := by
        intro e
        cases i with
        | zero => rw [a1 rfl] at e; exact x0 e.symm
        | succ i =>
          rw [a2 i rfl] at e
          exact hnf i (by omega) e.symm
      rw [if_neg (show ¬ (7 : Int32) < nI i from nI_nlt (a := 7) (by omega) (by decide)), if_neg hne, Pe_spread30 hN hC hE _ hu, nI_1]
      exact ih _ (fun z => by omega) (fun j hj => by have : j = i := by omega
                                                     rw [this])
    · show f_Pe_spread_b9 tx S (f_Pe_spread_l9 tx S n) ties _ ah (nI (k + 1)) = _
      have e := a2 k rfl
      have e2 : itR T u (k + 1) x = itR T u k x := hf
      unfold f_Pe_spread_b9
      rw [e2, e, if_pos rfl]
      split <;> rfl
theorem opB_b {T : TX} {r : RW} (hN : TN T) {t : Nat} (ht : t < nT T) : bt (opB T r) t = decide (opn T r t) := by
  have h12 := hN.2.2.2.2
  have := bt_orM (P := fun t => opn T r t) (n := nT T) (i := t) (by omega) (by omega)
  unfold opB
  rw [Bool.eq_iff_iff, this, decide_eq_true_iff]
  exact ⟨fun z => z.2, fun z => ⟨ht, z⟩⟩
theorem S_reach {SC SM : Mem} (h : Rel SC SM) (x1 : Int32) : SimM SC (f_Co_reach x1 SC) (f_Mo_reach x1 SM) := by
  obtain ⟨v, tx, T, F, r, U, H, N, B, P, w, hM, hC⟩ := h
  have hN := w.1.1
  have h8 := hN.2.2.1.2
  have hX := hC.1.1
  unfold f_Co_reach f_Co_reach_b0 f_Mo_reach f_Mo_reach_b0
  rcases rg x1 (n := nS T) (by omega) with ⟨s, hs, rfl⟩ | ⟨q, -⟩
  case inr => rw [Mo_isSecret_n hN hM.1 q, Co_isSecret_n hN hX q, bind_e, bind_e, i00, i00]; exact SimM.ok w hC rfl (Ok.e rfl ⟨rfl, hM⟩)
  rw [Mo_isSecret_y hN hM.1 hs, Co_isSecret_y hN hX hs, bind_e, bind_e, i10, i10]
  obtain ⟨q, eq, hq, hr, -⟩ := hM.cp
  rw [eq, bind_e, hX.2.2.2.1, gTx_t hX.2.1, cl hX.tx, St_knowers hN hX.1.2.1 hC.2.1, bind_e, hC.2.1.1.2.1, letS_e, gTx_t hX.2.1, gTx_t hX.2.1, Pe_openTies hN hX.1.2.1 hC.2.1 w.1.2.2.1, bind_e, Pe_spread (u := uB T r 0) hN hX.1.2.1 w.1.2.2.1 (fun t ht => by rw [opB_b hN ht]; unfold uB; rw [b_0]; rfl) (ka_hi w.2.1.1 s), bind_e, Mo_reachOf hN w.2.1.1 hq.1.1 hr w.1.2.2.1, bind_e]
  exact SimM.ok w hC rfl (Ok.e rfl ⟨rfl, hq⟩)
