/-! BOTH: who dies first, odds by seeds. -/
theorem drink_sub {T : TX} {F : LF} {r : RW} {a i : Nat} (hM : hm r a < 4) (ha : a < 7) (e : bt (drinkR T F a r 33) i = true) : bt (r 33) i = true := by
  unfold drinkR at e
  by_cases q : r (hm r a) < DR T F r a
  · rw [if_pos q] at e
    by_cases q2 : upd (upd r (hm r a) 0) (19 + a) (upd r (hm r a) 0 (19 + a) + 1) (19 + a) < T 0 4
    · rw [if_pos q2, upd_at, if_neg (by omega), upd_at, if_neg (by omega)] at e; exact e
    · rw [if_neg q2, upd_at, if_pos rfl, b_and] at e
      have e2 := (Bool.and_eq_true_iff.mp e).1
      rw [upd_at, if_neg (by omega), upd_at, if_neg (by omega)] at e2
      exact e2
  · rw [if_neg q, upd_at, if_neg (by omega), upd_at, if_neg (by omega)] at e; exact e
theorem day_sub {T : TX} {F : LF} {sd : Int32} {r : RW} (hN : TN T) (hE : TE_ok T) (hI : RI T r) {i : Nat} (e : bt (dayR T F sd r 33) i = true) : bt (r 33) i = true := by
  have h4 := hN.1.2
  have h7 := hN.2.1.2
  have k1 : iter (d1 T F) (nW T) r 33 = r 33 ∧ RI T (iter (d1 T F) (nW T) r) := iter_ind (P := fun z => z 33 = r 33 ∧ RI T z) _ _ ⟨rfl, hI⟩ (fun j a hj ha => ⟨(d1_o (by omega)).trans ha.1, ha.2.e1 hN hj⟩)
  have k2 : (bt (dB T F r 33) i = true → bt (r 33) i = true) ∧ RI T (dB T F r) := iter_ind (P := fun z => (bt (z 33) i = true → bt (r 33) i = true) ∧ RI T z) _ _ ⟨fun z => by rw [k1.1] at z; exact z, k1.2⟩ (fun j a hj ha => ⟨fun z => ha.1 (by
    unfold d2 at z
    by_cases q : bitOf (a 33) j = 0
    · rw [if_pos q] at z; exact z
    · rw [if_neg q] at z; exact drink_sub (by have := (ha.2.2.2.2.2 j hj).1; omega) (by omega) z), ha.2.e2 hN hj⟩)
  refine k2.1 ?_
  unfold dayR dZ at e
  rw [upd_at, if_neg (by omega)] at e
  unfold dE at e
  have k3 : ∀ kw, iter (d3 T F sd kw) (nT T) (dB T F r) 33 = dB T F r 33 := fun kw => iter_ind (α := RW) (f := d3 T F sd kw) (P := fun z : RW => z 33 = dB T F r 33) _ _ rfl (fun j a hj ha => (d3_o (by omega) (by have := (hE j hj).2.2.1; omega)).trans ha)
  have k4 : ∀ q : RW, iter (cutR T) (nW T) q 33 = q 33 := fun q => iter_ind (α := RW) (f := cutR T) (P := fun z : RW => z 33 = q 33) _ _ rfl (fun j a hj ha => (cutR_o (by omega)).trans ha)
  rw [k4, k3] at e
  exact e
theorem ntz_7 : ∀ a, a < 7 → ∀ n, n < 128 → n % 2 ^ a = 0 → n / 2 ^ a % 2 = 1 → f_JInt_numberOfTrailingZeros (nI n) = some (nI a) := by decide +kernel
theorem bt_nat {n i : Nat} (hn : n < 2 ^ 31) (hi : i < 31) : bt (nI n) i = decide (n / 2 ^ i % 2 = 1) := by
  unfold bt
  show (BitVec.ofNat 32 n).getLsbD i = _
  rw [BitVec.getLsbD_ofNat, Nat.testBit_eq_decide_div_mod_eq]
  simp; omega
theorem mod_low : ∀ a n : Nat, (∀ i, i < a → n / 2 ^ i % 2 = 0) → n % 2 ^ a = 0
  | 0, n, _ => by simp [Nat.mod_one]
  | a + 1, n, h => by
    have := mod_low a n (fun i hi => h i (by omega))
    have h2 := h a (by omega)
    rw [Nat.pow_succ, Nat.mod_mul, this, h2, Nat.mul_zero]
theorem ntz_b {x : Int32} {m a : Nat} (hm : m ≤ 7) (hx : ∀ i, m ≤ i → i < 32 → bt x i = false) (ha : a < m) (h1 : bt x a = true) (h0 : ∀ i, i < a → bt x i = false) : f_JInt_numberOfTrailingZeros x = some (nI a) := by
  obtain ⟨n, hn, rfl⟩ := small12 (by omega) hx
  have hn2 : n < 128 := Nat.lt_of_lt_of_le hn (Nat.pow_le_pow_right (by decide) hm)
  refine ntz_7 a (by omega) n hn2 (mod_low a n (fun i hi => ?_)) ?_
  · have := h0 i hi
    rw [bt_nat (by omega) (by omega)] at this
    have := of_decide_eq_false this
    omega
  · rw [bt_nat (by omega) (by omega)] at h1
    exact of_decide_eq_true h1
theorem lf_5 {ρ A B C D E5 : Type} (b : (A → B → C → D → E5 → Option ρ) → A → B → C → D → E5 → Option ρ) (l : Nat → A → B → C → D → E5 → Option ρ) (hl : ∀ n, l (n + 1) = b (l n)) (sa : Nat → A) (sb : Nat → B) (sc : Nat → C) (sd : Nat → D) (se : E5) (N : Nat) (St : Nat → Prop) (Pr : Nat → Option ρ → Prop)
    (hs : ∀ (k : A → B → C → D → E5 → Option ρ) (j : Nat), j < N → (St j → Pr j (b k (sa j) (sb j) (sc j) (sd j) se)) ∧ (¬ St j → b k (sa j) (sb j) (sc j) (sd j) se = k (sa (j + 1)) (sb (j + 1)) (sc (j + 1)) (sd (j + 1)) se)) (hx : ∀ (k : A → B → C → D → E5 → Option ρ), Pr N (b k (sa N) (sb N) (sc N) (sd N) se))
    (n : Nat) (h : N < n) {m : Nat} (hm : m ≤ N) (hb : ∀ i, i < m → ¬ St i) (hst : m < N → St m) : Pr m (l n (sa 0) (sb 0) (sc 0) (sd 0) se) :=
  lf_1 (fun k (a : A × B × C × D × E5) => b (fun x y z u t => k (x, y, z, u, t)) a.1 a.2.1 a.2.2.1 a.2.2.2.1 a.2.2.2.2) (fun n a => l n a.1 a.2.1 a.2.2.1 a.2.2.2.1 a.2.2.2.2) (fun n => by funext a; show l (n + 1) a.1 a.2.1 a.2.2.1 a.2.2.2.1 a.2.2.2.2 = _; rw [hl]) (fun j a => a = (sa j, sb j, sc j, sd j, se)) N St Pr
    (fun k j a hj ha => by
      subst ha
      obtain ⟨k1, k2⟩ := hs (fun x y z u t => k (x, y, z, u, t)) j hj
      exact ⟨k1, fun z => ⟨_, rfl, k2 z⟩⟩)
    (fun k a ha => by subst ha; exact hx _) n 0 m (sa 0, sb 0, sc 0, sd 0, se) (by omega) rfl (Nat.zero_le _) hm (fun i _ h2 => hb i h2) hst
/-- who dies from row r to row r' -/
theorem Mo_first39 {v : Nat} {T : TX} {F : LF} {U : UX} {H : HX} {N : NX} {B : BX} {P : Int32} {r r' : RW} {S : Mem} (hN : TN T) (h : MOK v T F r U H N B P S) (hr : MR r' S) (k17 : Int32 → Int32 → Mem → Option (Int32 × Mem)) (x1 x2 : Int32) (bf : Int32) {m : Nat} (hm : m ≤ nM T) (hb : ∀ i, i < m → ¬ (bitOf bf i = 1 ∧ bitOf (r' 33) i = 0)) (hst : m < nM T → bitOf bf m = 1 ∧ bitOf (r' 33) m = 0) :
    f_Mo_first_l39 k17 5000 x1 x2 bf 0 S = if m = nM T then k17 x1 (x2 + 1) S else some (if x1 = 0 then nI m else x2, S) := by
  obtain ⟨⟨⟨hv, e18, ⟨-, e27, -, -⟩, -⟩, -⟩, -⟩ := h
  have h7 := hN.2.1.2
  refine lf_5 (f_Mo_first_b39 k17) (f_Mo_first_l39 k17) (fun _ => rfl) (fun _ => x1) (fun _ => x2) (fun _ => bf) nI S (nM T) (fun i => bitOf bf i = 1 ∧ bitOf (r' 33) i = 0) (fun m z => z = if m = nM T then k17 x1 (x2 + 1) S else some (if x1 = 0 then nI m else x2, S)) (fun k j hj => ?_) (fun k => ?_) 5000 (by omega) hm hb hst
  · simp only [f_Mo_first_b39, e18, g2 hv, cl (show v < 4096 by omega), e27, hN.2.1.1, if_neg (le_nI (show ¬ nM T ≤ j by omega) (by omega) (by omega)), Mo_isAlive hr, bind_e, nI_1]
    rw [show ((bf >>> (nI j &&& 31)) &&& 1) = bitOf bf j from rfl]
    refine ⟨fun z => ?_, fun z => ?_⟩
    · rw [if_pos z.1, if_pos z.2, if_neg (show ¬ j = nM T by omega)]
      split <;> rfl
    · by_cases q : bitOf bf j = 1
      · rw [if_pos q, if_neg (fun y => z ⟨q, y⟩)]
      · rw [if_neg q]
  · simp only [f_Mo_first_b39, e18, g2 hv, cl (show v < 4096 by omega), e27, hN.2.1.1, if_pos (le_rf _), if_true]
theorem nat_n1 {x : Int32} {k : Nat} (h : ¬ bitOf x k = 1) : bitOf x k = 0 := (bit01 x k).resolve_right h
theorem S_first {SC SM : Mem} (h : Rel SC SM) (x1 : Int32) : Sim (f_Co_first x1 SC) (f_Mo_first x1 SM) := by
  obtain ⟨v, tx, T, F, r, U, H, N, B, P, w, hM, hC⟩ := h
  have hN := w.1.1
  have h7 := hN.2.1.2
  have hX := hC.1.1
  unfold f_Co_first f_Co_first_b0 f_Mo_first f_Mo_first_b0
  rcases rg x1 (n := 2) (by decide) with ⟨x, hx, e1⟩ | ⟨q, q2⟩
  case inr =>
    rw [in_c (n := 2) (by decide) (by decide) q, bind_e, i00]
    rcases q2 with q2 | ⟨q2, q3, q4⟩
    · rw [if_pos q2]; exact Sim.ok w (Ok.e rfl ⟨rfl, hC⟩) (Ok.e rfl ⟨rfl, hM⟩)
    · rw [if_neg q2, if_neg (gt_n (M := 1) (m := 1) rfl (by decide) q2 q3 (by decide) (by decide)).2]; exact Sim.ok w (Ok.e rfl ⟨rfl, hC⟩) (Ok.e rfl ⟨rfl, hM⟩)
  rw [e1, in_d (n := 2) (by decide) (by decide) hx, bind_e, i10, if_neg (nI_pos (by omega)), if_pos (show nI x ≤ (1 : Int32) from nI_le (b := 1) (by omega) (by decide))]
  have sub : ∀ j i, bt (days T F (T 0 6) (j + 1) r 33) i = true → bt (days T F (T 0 6) j r 33) i = true := fun j i e => day_sub hN w.1.2.2.1 (GR.days (sd := T 0 6) w.1 w.2.1 j).1 e
  -- the man who dies on the day
  have man : ∀ j, days T F (T 0 6) j r 33 = r 33 → ∃ m, m ≤ nM T ∧ (∀ i, i < m → ¬ (bitOf (r 33) i = 1 ∧ bitOf (days T F (T 0 6) (j + 1) r 33) i = 0)) ∧ (m < nM T → bitOf (r 33) m = 1 ∧ bitOf (days T F (T 0 6) (j + 1) r 33) m = 0) ∧ ((m < nM T) ↔ ¬ days T F (T 0 6) (j + 1) r 33 = r 33) := by
    intro j ej
    obtain ⟨m, h1, h2, h3⟩ := fst_ex (nM T) (fun i => bitOf (r 33) i = 1 ∧ bitOf (days T F (T 0 6) (j + 1) r 33) i = 0)
    refine ⟨m, h1, h2, h3, fun z e => ?_, fun z => ?_⟩
    · have := h3 z
      rw [e] at this
      rw [this.2] at this
      exact absurd this.1 (by decide)
    · rcases Nat.lt_or_ge m (nM T) with y | y
      · exact y
      · refine absurd (b_ext (fun i hi => ?_)) z
        rcases Nat.lt_or_ge i (nM T) with q | q
        · have a1 := h2 i (by omega)
          have a2 := sub j i
          rw [ej] at a2
          cases hb : bt (r 33) i
          · cases hb2 : bt (days T F (T 0 6) (j + 1) r 33) i
            · rfl
            · rw [a2 hb2] at hb; exact absurd hb (by decide)
          · cases hb2 : bt (days T F (T 0 6) (j + 1) r 33) i
            · exact absurd ⟨(bitOf_1 _ hi).mpr hb, (bitOf_0 _ hi).mpr hb2⟩ a1
            · rfl
        · rw [(GR.days (sd := T 0 6) w.1 w.2.1 (j + 1)).1.1 i q hi, w.2.1.1.1 i q hi]
  obtain ⟨m, hm, hb, hst⟩ := fst_ex 200 (fun j => ¬ days T F (T 0 6) (j + 1) r 33 = r 33)
  have alw : ∀ j, j ≤ m → days T F (T 0 6) j r 33 = r 33 := by
    intro j hj
    cases j with
    | zero => rfl
    | succ j => exact Classical.byContradiction (hb j (by omega))
  obtain ⟨p, hp1, hp2, hp3, hp4⟩ := man m (alw m (Nat.le_refl _))
  refine Sim.ok (a := if m = 200 then -2 else if nI x = 0 then nI p else nI (m + 1)) (v := v) (tx := tx) (P := P) w ((St_copyOf hN hC.2.1 hC.2.2.1).b (fun c hc => ?_)) (hM.cp.b (fun q hq => ?_))
  · have k0 := hC.fq hc.1
    refine lf_3 f_Co_first_b24 f_Co_first_l24 (fun _ => rfl) (fun _ => nI x) (fun j => nI (j + 1)) (fun j S' => COK tx T F r U H N B P S' ∧ CG T F (days T F (T 0 6) j r) tx 5 S') 200 (fun j => ¬ days T F (T 0 6) (j + 1) r 33 = r 33) (fun m' z => m' = m → Ok (fun z : Int32 × Mem => z.1 = (if m = 200 then -2 else if nI x = 0 then nI p else nI (m + 1)) ∧ COK tx T F r U H N B P z.2) z) (fun k j y hj hy => ?_) (fun k y hy => ?_) 5000 (by decide) c ⟨k0, k0.1.1.1.g (by decide) hc.2.1 hc.2.2⟩ hm hb hst rfl
    · obtain ⟨q, eq, hq⟩ := Dy_pass (sd := T 0 6) w.1 (GR.days (sd := T 0 6) w.1 w.2.1 j).1 hy.2
      have kq := hy.1.fq hq.1
      simp only [f_Co_first_b24, if_neg (show ¬ (200 : Int32) < nI (j + 1) from nI_nlt (a := 200) (by omega) (by decide)), hy.1.1.1.2.2.2.1, gTx_t hy.1.1.1.2.1, cl hy.1.1.1.tx, hy.2.2.1.2.1.2.2, eq, bind_e, letS_e, kq.2.1.1.2.1, hq.2.1.2.2.2.1.1.2.1, nI_1]
      rw [show dayR T F (T 0 6) (days T F (T 0 6) j r) = days T F (T 0 6) (j + 1) r from rfl]
      refine ⟨fun z e => ?_, fun z => ?_⟩
      · subst e
        have pl := hp4.mpr z
        have b1 : bt (r 33 &&& (days T F (T 0 6) (j + 1) r 33 ^^^ (-1))) p = true := by
          rw [b_and, b_xor, b_m1 p (by omega), (bitOf_1 _ (by omega)).mp (hp3 pl).1, (bitOf_0 _ (by omega)).mp (hp3 pl).2]; rfl
        have b0 : ∀ i, i < p → bt (r 33 &&& (days T F (T 0 6) (j + 1) r 33 ^^^ (-1))) i = false := fun i hi => by
          rw [b_and, b_xor, b_m1 i (by omega)]
          have := hp2 i hi
          cases hb : bt (r 33) i
          · rfl
          · cases hb2 : bt (days T F (T 0 6) (j + 1) r 33) i
            · exact absurd ⟨(bitOf_1 _ (by omega)).mpr hb, (bitOf_0 _ (by omega)).mpr hb2⟩ this
            · rfl
        have hi7 : ∀ i, nM T ≤ i → i < 32 → bt (r 33 &&& (days T F (T 0 6) (j + 1) r 33 ^^^ (-1))) i = false := fun i h1 h2 => by rw [b_and, w.2.1.1.1 i h1 h2, Bool.false_and]
        rw [if_neg (show ¬ r 33 &&& (days T F (T 0 6) (j + 1) r 33 ^^^ (-1)) = 0 from fun z => by rw [z, b_0] at b1; exact absurd b1 (by decide)), ntz_b h7 hi7 pl b1 b0, bind_e, if_neg (show ¬ j = 200 by omega)]
        by_cases q0 : nI x = 0
        · rw [if_pos q0, if_pos q0]; exact Ok.i ⟨rfl, kq⟩
        · rw [if_neg q0, if_neg q0]; exact Ok.i ⟨rfl, kq⟩
      · have z := Classical.not_not.mp z
        rw [if_pos]
        · exact ⟨q, ⟨kq, hq.2.1⟩, rfl⟩
        · rw [z]
          refine b_ext (fun i hi => ?_)
          rw [b_and, b_xor, b_m1 i hi, b_0]
          cases bt (r 33) i <;> rfl
    · intro e
      simp only [f_Co_first_b24, if_pos (show (200 : Int32) < nI (200 + 1) by decide)]
      exact Ok.i ⟨by rw [if_pos e.symm], hy.1⟩
  · refine lf_3 f_Mo_first_b17 f_Mo_first_l17 (fun _ => rfl) (fun _ => nI x) (fun j => nI (j + 1)) (fun j S' => MOK v T F r U H N B P S' ∧ MR (days T F (T 0 6) j r) S' ∧ S'.1 0 58 = T 0 6 ∧ days T F (T 0 6) j r 33 = r 33) 200 (fun j => ¬ days T F (T 0 6) (j + 1) r 33 = r 33) (fun m' z => m' = m → Ok (fun z : Int32 × Mem => z.1 = (if m = 200 then -2 else if nI x = 0 then nI p else nI (m + 1)) ∧ MOK v T F r U H N B P z.2) z) (fun k j y hj hy => ?_) (fun k y hy => ?_) 5000 (by decide) q ⟨hq.1, hq.2.1, hq.2.2, rfl⟩ hm hb hst rfl
    · obtain ⟨q, eq, hq⟩ := Mo_dayGoes hN hy.1.1.1 hy.1.1.2 w.1.2.2.2.2 hy.2.1 (GR.days (sd := T 0 6) w.1 w.2.1 j).1.2.2.2.2 w.1.2.2.1
      have kq := hy.1.fr hq.1.1
      have hr : MR (days T F (T 0 6) (j + 1) r) q := by rw [hy.2.2.1] at hq; exact hq.2
      obtain ⟨p', hp1', hp2', hp3', hp4'⟩ := man j hy.2.2.2
      simp only [f_Mo_first_b17, if_neg (show ¬ (200 : Int32) < nI (j + 1) from nI_nlt (a := 200) (by omega) (by decide)), g33, ic_33, letS_e, hy.2.1 33 (by decide), hy.2.2.2, eq, bind_e]
      rw [Mo_first39 hN kq hr k (nI x) (nI (j + 1)) (r 33) hp1' hp2' hp3']
      refine ⟨fun z e => ?_, fun z => ?_⟩
      · subst e
        have pl' := hp4'.mpr z
        have pl := hp4.mpr z
        have epp : p' = p := by
          rcases Nat.lt_trichotomy p' p with y | y | y
          · exact absurd (hp3' pl') (hp2 p' y)
          · exact y
          · exact absurd (hp3 pl) (hp2' p y)
        subst epp
        rw [if_neg (show ¬ p' = nM T by omega), if_neg (show ¬ j = 200 by omega)]
        exact Ok.i ⟨rfl, kq⟩
      · have pl' : ¬ p' < nM T := fun y => z (hp4'.mp y)
        rw [if_pos (by omega), nI_1]
        exact ⟨q, ⟨kq, hr, hq.1.2.trans hy.2.2.1, Classical.not_not.mp z⟩, rfl⟩
    · intro e
      simp only [f_Mo_first_b17, if_pos (show (200 : Int32) < nI (200 + 1) by decide)]
      exact Ok.i ⟨by rw [if_pos e.symm], hy.1⟩
