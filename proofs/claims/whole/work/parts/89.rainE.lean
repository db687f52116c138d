/-! BOTH: rain. -/
theorem in1g {x : Int32} {m : Nat} (hm : m < 2 ^ 30) : (∃ j, 1 ≤ j ∧ j ≤ m ∧ x = nI j ∧ f_Mo_in x 1 (nI m) = some 1) ∨ ((∀ j, 1 ≤ j → j ≤ m → x ≠ nI j) ∧ f_Mo_in x 1 (nI m) = some 0 ∧ (x < 1 ∨ (¬ x < 1 ∧ nI m < x))) := by
  unfold f_Mo_in f_Mo_in_b0
  by_cases q : x < 1
  · rw [if_pos q]
    exact Or.inr ⟨fun j h1 h2 e => absurd q (by rw [e]; exact nI_nlt (b := 1) h1 (by omega)), rfl, Or.inl q⟩
  · have q0 : ¬ x < 0 := fun z => q (Int32.lt_trans z (by decide))
    obtain ⟨j, hj, rfl⟩ := nI_of q0
    have h1 : 1 ≤ j := by
      rcases Nat.eq_zero_or_pos j with z | z
      · subst z; exact absurd (by decide) q
      · exact z
    rw [if_neg q]
    rcases Nat.lt_or_ge m j with z | z
    · rw [if_pos (nI_lt z hj)]
      exact Or.inr ⟨fun i h2 h3 e => by have := (nI_eq hj (by omega)).mp e; omega, rfl, Or.inr ⟨q, nI_lt z hj⟩⟩
    · rw [if_neg (nI_nlt z (by omega))]
      exact Or.inl ⟨j, h1, z, rfl, rfl⟩
theorem rn_c {v tx : Nat} {T : TX} {F : LF} {r : RW} {U : UX} {H : HX} {N : NX} {B : BX} {P : Int32} {SC SM : Mem} (hN : TN T) (hM : MOK v T F r U H N B P SM) (hC : COK tx T F r U H N B P SC) (x y : Int32) : (∃ n, 1 ≤ n ∧ n ≤ 60 ∧ y = nI n ∧ StK T x ∧ f_JInt_bitCount x = some (nI (popN x 12)) ∧ f_Mo_isRain x y SM = some 1 ∧ f_Co_isRain x y SC = some 1) ∨ (f_Mo_isRain x y SM = some 0 ∧ f_Co_isRain x y SC = some 0) := by
  have h8 := hN.2.2.1.2
  have p := p2_12 (nS T) (by omega)
  have hv := hM.1.1.1
  unfold f_Mo_isRain f_Mo_isRain_b0 f_Co_isRain f_Co_isRain_b0
  have ep : nI (2 ^ nS T) - 1 = nI (2 ^ nS T - 1) := by
    have := nI_pred (2 ^ nS T - 1)
    rwa [Nat.sub_add_cancel p.1] at this
  rw [hM.1.1.2.1, g2 hv, cl (by omega), hM.1.1.2.2.1.2.2.1, hN.2.2.1.1, shl_p _ (by omega), ep]
  rcases in1g (x := x) (m := 2 ^ nS T - 1) (by omega) with ⟨j, h1, h2, rfl, e1⟩ | ⟨q1, e1, -⟩
  case inr =>
    rw [e1, bind_e, i00]
    rcases rg x (n := 2 ^ nS T) (by omega) with ⟨j, hj, rfl⟩ | ⟨q, -⟩
    · rw [Co_isSet_y hN hC.1.1 hj, bind_e, i10]
      have j0 : j = 0 := by
        rcases Nat.eq_zero_or_pos j with z | z
        · exact z
        · exact absurd rfl (q1 j z (by omega))
      subst j0
      rw [if_pos (by decide)]
      exact Or.inr ⟨rfl, rfl⟩
    · rw [Co_isSet_n hN hC.1.1 q, bind_e, i00]
      exact Or.inr ⟨rfl, rfl⟩
  have hhi : ∀ i, nS T ≤ i → i < 32 → bt (nI j) i = false := fun i a b => bt_nI (m := nS T) (by omega) (by omega) a b
  have ebc : f_JInt_bitCount (nI j) = some (nI (popN (nI j) 12)) := by rw [bc12 (fun i a b => hhi i (by omega) b), bits_pop]
  have pl := popN_le (nI j) 12
  rw [e1, bind_e, i10, Mo_bits, bind_e, bits_pop, Co_isSet_y hN hC.1.1 (show j < 2 ^ nS T by omega), bind_e, i10, if_neg (nI_ne0 (by omega) (by omega)), ebc, bind_e]
  by_cases q5 : popN (nI j) 12 ≤ 4
  case neg =>
    rw [if_pos (show (5 : Int32) ≤ nI (popN (nI j) 12) from nI_le (a := 5) (by omega) (by omega)), if_pos (show (4 : Int32) < nI (popN (nI j) 12) from nI_lt (a := 4) (by omega) (by omega))]
    exact Or.inr ⟨rfl, rfl⟩
  rw [if_neg (show ¬ (5 : Int32) ≤ nI (popN (nI j) 12) from le_nI (a := 5) (by omega) (by decide) (by omega)), if_neg (show ¬ (4 : Int32) < nI (popN (nI j) 12) from nI_nlt (a := 4) (by omega) (by decide))]
  rcases in1g (x := y) (m := 60) (by decide) with ⟨n, h3, h4, rfl, e2⟩ | ⟨-, e2, q⟩
  · rw [show (60 : Int32) = nI 60 from rfl, e2, bind_e, i10, if_neg (show ¬ nI n < (1 : Int32) from nI_nlt (b := 1) h3 (by omega)), if_neg (nI_nlt h4 (by decide))]
    exact Or.inl ⟨n, h3, h4, rfl, ⟨hhi, q5⟩, rfl, rfl, rfl⟩
  · rw [show (60 : Int32) = nI 60 from rfl, e2, bind_e, i00]
    rcases q with q | ⟨q, q2⟩
    · rw [if_pos q]; exact Or.inr ⟨rfl, rfl⟩
    · rw [if_neg q, if_pos q2]; exact Or.inr ⟨rfl, rfl⟩
theorem S_rain {SC SM : Mem} (h : Rel SC SM) (x1 x2 x3 : Int32) : Sim (f_Co_rain x1 x2 x3 SC) (f_Mo_rain x1 x2 x3 SM) := by
  obtain ⟨v, tx, T, F, r, U, H, N, B, P, w, hM, hC⟩ := h
  have hN := w.1.1
  have hX := hC.1.1
  have hv := hM.1.1.1
  have no : ∀ x y, x = some ((-1 : Int32), SC) → y = some ((-1 : Int32), SM) → Sim x y := fun x y hx hy => Sim.ok w (Ok.e hx ⟨rfl, hC⟩) (Ok.e hy ⟨rfl, hM⟩)
  unfold f_Co_rain f_Co_rain_b0 f_Mo_rain f_Mo_rain_b0
  rcases rn_c hN hM hC x1 x2 with ⟨n, h1, h2, rfl, hS, -, e1, e2⟩ | ⟨e1, e2⟩
  case inr => rw [e1, e2, bind_e, bind_e, i00, i00]; exact no _ _ rfl rfl
  rw [e1, e2, bind_e, bind_e, i10, i10]
  rcases rg x3 (n := 3) (by decide) with ⟨m, hm, e3⟩ | ⟨q, q2⟩
  case inr =>
    rw [in_c (n := 3) (by decide) (by decide) q, bind_e, i00]
    rcases q2 with q2 | ⟨q2, q3, q4⟩
    · rw [if_pos q2]; exact no _ _ rfl rfl
    · rw [if_neg q2, if_neg (gt_n (M := 2) (m := 2) rfl (by decide) q2 q3 (by decide) (by decide)).2]; exact no _ _ rfl rfl
  rw [e3, in_d (n := 3) (by decide) (by decide) hm, bind_e, i10, if_neg (nI_pos (by omega)), if_pos (show nI m ≤ (2 : Int32) from nI_le (b := 2) (by omega) (by decide)), hX.2.2.2.1, gTx_t hX.2.1, gTx_t hX.2.1, cl hX.tx, hX.1.2.1.1.1, hM.1.1.2.1, g2 hv, cl (by omega), hM.1.1.2.2.1.1]
  by_cases qw : T 0 0 = 0
  · rw [if_pos qw, if_pos qw]; exact Sim.ok w (Ok.e rfl ⟨rfl, hC⟩) (Ok.e rfl ⟨rfl, hM⟩)
  rw [if_neg qw, if_neg qw]
  obtain ⟨c, ec, kc, c1, c2, c3, -⟩ := Rn_seek w.1 w.2.1 hC hS h2
  obtain ⟨d, ed, kd, -, d2⟩ := Mo_rains w.1 w.2.1 hM hS h2
  have p0 := pw hN (show popN x1 12 < 5 by have := hS.2; omega)
  obtain ⟨-, m1, m2, m3⟩ := d2 (rbs T ^ popN x1 12 - 1) (by omega)
  rw [ec, ed, bind_e, bind_e]
  by_cases q0 : nI m = 0
  · rw [if_pos q0, if_pos q0]
    exact Sim.ok w (Ok.e rfl ⟨c1, kc⟩) (Ok.e rfl ⟨m1, kd⟩)
  rw [if_neg q0, if_neg q0]
  by_cases q1 : nI m = 1
  · rw [if_pos q1, if_pos q1]
    exact Sim.ok w (Ok.e rfl ⟨c2, kc⟩) (Ok.e rfl ⟨m2, kd⟩)
  · rw [if_neg q1, if_neg q1]
    exact Sim.ok w (Ok.e rfl ⟨c3, kc⟩) (Ok.e rfl ⟨m3, kd⟩)
theorem S_rainAt {SC SM : Mem} (h : Rel SC SM) (x1 x2 x3 : Int32) : Sim (f_Co_rainAt x1 x2 x3 SC) (f_Mo_rainAt x1 x2 x3 SM) := by
  obtain ⟨v, tx, T, F, r, U, H, N, B, P, w, hM, hC⟩ := h
  have hN := w.1.1
  have h4 := hN.1.2
  have hX := hC.1.1
  have hv := hM.1.1.1
  have no : ∀ x y, x = some ((-1 : Int32), SC) → y = some ((-1 : Int32), SM) → Sim x y := fun x y hx hy => Sim.ok w (Ok.e hx ⟨rfl, hC⟩) (Ok.e hy ⟨rfl, hM⟩)
  unfold f_Co_rainAt f_Co_rainAt_b0 f_Mo_rainAt f_Mo_rainAt_b0
  rcases rn_c hN hM hC x1 x2 with ⟨n, h1, h2, rfl, hS, ebc, e1, e2⟩ | ⟨e1, e2⟩
  case inr => rw [e1, e2, bind_e, bind_e, i00, i00]; exact no _ _ rfl rfl
  have hK := hS.2
  rw [e1, e2, bind_e, bind_e, i10, i10, Mo_bits, bind_e, bits_pop, ebc, bind_e]
  rcases rg x3 (n := popN x1 12) (by omega) with ⟨i, hi, e3⟩ | ⟨q, q2⟩
  case inr =>
    rw [in_no q (by omega), bind_e, i00]
    rcases q2 with q2 | ⟨q2, q3, q4⟩
    · rw [if_pos q2]; exact no _ _ rfl rfl
    · rw [if_neg q2, if_neg q4]; exact no _ _ rfl rfl
  rw [e3, in_yes rfl hi (by omega), bind_e, i10, if_neg (nI_pos (by omega)), if_pos (nI_lt hi (by omega)), hX.2.2.2.1, gTx_t hX.2.1, gTx_t hX.2.1, cl hX.tx, hX.1.2.1.1.1, hM.1.1.2.1, g2 hv, cl (show v < 4096 by omega), hM.1.1.2.2.1.1]
  by_cases qw : T 0 0 = 0
  · rw [if_pos qw, if_pos qw]; exact Sim.ok w (Ok.e rfl ⟨rfl, hC⟩) (Ok.e rfl ⟨rfl, hM⟩)
  rw [if_neg qw, if_neg qw]
  obtain ⟨c, ec, kc, c1, c2, c3, c4⟩ := Rn_seek w.1 w.2.1 hC hS h2
  obtain ⟨d, ed, kd, -, d2⟩ := Mo_rains w.1 w.2.1 hM hS h2
  have p0 := pw hN (show popN x1 12 < 5 by omega)
  obtain ⟨m0, -⟩ := d2 (rbs T ^ popN x1 12 - 1) (by omega)
  rw [ec, ed, bind_e, bind_e, g4 (by omega), cl (show i < 4096 by omega), letS_e, m0, bind_e, letS_e, show nI (popN x1 12) - 1 = nI (popN x1 12 - 1) by have := nI_pred (popN x1 12 - 1); rwa [Nat.sub_add_cancel (by omega)] at this]
  have hW : (rbB T F r x1 n (rbs T ^ popN x1 12 - 1)).1 < 2 ^ 31 := by
    obtain ⟨w', h3, e⟩ := rbB_O (T := T) (F := F) (r := r) (set := x1) (n := n) (rbs T ^ popN x1 12 - 1)
    rw [e]; show w' < _; omega
  have c4' := c4 i hi
  unfold RN at c4'
  generalize (rbB T F r x1 n (rbs T ^ popN x1 12 - 1)).1 = W at c4' hW ⊢
  have hb1 : 1 ≤ rbs T := by unfold rbs; omega
  have hb5 : rbs T ≤ 5 := by unfold rbs; omega
  have hvd := kd.1.1.1
  have key : f_Mo_rainAt_l60 5000 (nI i) (nI W) (nI (popN x1 12 - 1)) d = some (dig T (popN x1 12) W i, d) := by
    generalize popN x1 12 = K at hi hK ⊢
    have gz : ∀ {α : Type} (k : Option α), gNz (nI (rbs T)) k = k := fun k => if_neg (nI_ne0 (by omega) (by omega))
    have := lpN (P := fun m j => f_Mo_rainAt_l60 m (nI i) (nI (W / rbs T ^ j)) (nI (K - 1 - j)) d = some (dig T K W i, d)) (K - 1 - i) (fun m j hj ih => ?_) (fun m => ?_) 5000 0 (by omega) (by omega)
    · rw [Nat.pow_zero, Nat.div_one] at this; exact this
    · show f_Mo_rainAt_b60 (f_Mo_rainAt_l60 m) (nI i) (nI (W / rbs T ^ j)) (nI (K - 1 - j)) d = _
      have hl : W / rbs T ^ j < 2 ^ 31 := Nat.lt_of_le_of_lt (Nat.div_le_self _ _) hW
      simp only [f_Mo_rainAt_b60, if_neg (le_nI (show ¬ K - 1 - j ≤ i by omega) (by omega) (by omega)), kd.1.1.2.1, g2 hvd, cl (show v < 4096 by omega), kd.1.1.2.2.1.1, hN.1.1, nI_1, show nW T + 1 = rbs T from rfl, gz, letS_e]
      rw [pk_div hl (by omega) (by omega), Nat.div_div_eq_div_mul, ← Nat.pow_succ, show K - 1 - j = (K - 1 - (j + 1)) + 1 by omega, pk_m1]
      exact ih
    · show f_Mo_rainAt_b60 (f_Mo_rainAt_l60 m) (nI i) (nI (W / rbs T ^ (K - 1 - i))) (nI (K - 1 - (K - 1 - i))) d = _
      have hl : W / rbs T ^ (K - 1 - i) < 2 ^ 31 := Nat.lt_of_le_of_lt (Nat.div_le_self _ _) hW
      rw [show K - 1 - (K - 1 - i) = i by omega]
      simp only [f_Mo_rainAt_b60, if_pos (le_rf i), kd.1.1.2.1, g2 hvd, cl (show v < 4096 by omega), kd.1.1.2.2.1.1, hN.1.1, nI_1, show nW T + 1 = rbs T from rfl, gz, letS_e]
      rw [pk_rem hl (by omega) (by omega)]
      have dlt := dgt_lt (T := T) K W i
      show (if 0 ≤ nI (dgt T K W i) - 1 then some (nI (dgt T K W i) - 1, d) else some (-3, d)) = _
      unfold dig
      by_cases q : dgt T K W i = 0
      · rw [q, if_neg (by decide), if_pos rfl]
      · have es : nI (dgt T K W i) - 1 = nI (dgt T K W i - 1) := by
          have := nI_pred (dgt T K W i - 1)
          rwa [Nat.sub_add_cancel (by omega)] at this
        rw [es, if_pos (show (0 : Int32) ≤ nI (dgt T K W i - 1) from nI_le (a := 0) (by omega) (by omega)), if_neg q]
  rw [key]
  exact Sim.ok w (Ok.e rfl ⟨c4', kc⟩) (Ok.e rfl ⟨rfl, kd⟩)
