/-! BOTH: what would be. -/
theorem lf_1 {ρ A : Type} (b : (A → Option ρ) → A → Option ρ) (l : Nat → A → Option ρ) (hl : ∀ n, l (n + 1) = b (l n)) (I : Nat → A → Prop) (N : Nat) (St : Nat → Prop) (Pr : Nat → Option ρ → Prop)
    (hs : ∀ (k : A → Option ρ) (j : Nat) (a : A), j < N → I j a → (St j → Pr j (b k a)) ∧ (¬ St j → ∃ a', I (j + 1) a' ∧ b k a = k a')) (hx : ∀ (k : A → Option ρ) (a : A), I N a → Pr N (b k a)) :
    ∀ (n j m : Nat) (a : A), N - j < n → I j a → j ≤ m → m ≤ N → (∀ i, j ≤ i → i < m → ¬ St i) → (m < N → St m) → Pr m (l n a) := by
  intro n
  induction n with
  | zero => intro j m a h; omega
  | succ n ih =>
    intro j m a hn hI hj hm hb hst
    rw [hl]
    rcases Nat.lt_or_ge j N with h | h
    · obtain ⟨k1, k2⟩ := hs (l n) j a h hI
      rcases Nat.lt_or_ge j m with q | q
      · obtain ⟨a', i1, i2⟩ := k2 (hb j (Nat.le_refl _) q)
        rw [i2]
        exact ih (j + 1) m a' (by omega) i1 q hm (fun i h1 h2 => hb i (by omega) h2) hst
      · have : j = m := by omega
        subst this
        exact k1 (hst h)
    · have e1 : j = N := by omega
      have e2 : m = N := by omega
      rw [e2]
      subst e1
      exact hx _ _ hI
theorem lf_3 {ρ A B C : Type} (b : (A → B → C → Option ρ) → A → B → C → Option ρ) (l : Nat → A → B → C → Option ρ) (hl : ∀ n, l (n + 1) = b (l n)) (sa : Nat → A) (sb : Nat → B) (I : Nat → C → Prop) (N : Nat) (St : Nat → Prop) (Pr : Nat → Option ρ → Prop)
    (hs : ∀ (k : A → B → C → Option ρ) (j : Nat) (y : C), j < N → I j y → (St j → Pr j (b k (sa j) (sb j) y)) ∧ (¬ St j → ∃ y', I (j + 1) y' ∧ b k (sa j) (sb j) y = k (sa (j + 1)) (sb (j + 1)) y')) (hx : ∀ (k : A → B → C → Option ρ) (y : C), I N y → Pr N (b k (sa N) (sb N) y))
    (n : Nat) (h : N < n) (y : C) (h0 : I 0 y) {m : Nat} (hm : m ≤ N) (hb : ∀ i, i < m → ¬ St i) (hst : m < N → St m) : Pr m (l n (sa 0) (sb 0) y) :=
  lf_1 (fun k a => b (fun x y z => k (x, y, z)) a.1 a.2.1 a.2.2) (fun n a => l n a.1 a.2.1 a.2.2) (fun n => by funext a; show l (n + 1) a.1 a.2.1 a.2.2 = _; rw [hl]) (fun j a => a.1 = sa j ∧ a.2.1 = sb j ∧ I j a.2.2) N St Pr
    (fun k j a hj ha => by
      obtain ⟨k1, k2⟩ := hs (fun x y z => k (x, y, z)) j a.2.2 hj ha.2.2
      refine ⟨fun z => ?_, fun z => ?_⟩
      · show Pr j (b _ a.1 a.2.1 a.2.2)
        rw [ha.1, ha.2.1]; exact k1 z
      · obtain ⟨y', q1, q2⟩ := k2 z
        refine ⟨(sa (j + 1), sb (j + 1), y'), ⟨rfl, rfl, q1⟩, ?_⟩
        show b _ a.1 a.2.1 a.2.2 = _
        rw [ha.1, ha.2.1, q2])
    (fun k a ha => by show Pr N (b _ a.1 a.2.1 a.2.2); rw [ha.1, ha.2.1]; exact hx _ _ ha.2.2) n 0 m (sa 0, sb 0, y) (by omega) ⟨rfl, rfl, h0⟩ (Nat.zero_le _) hm (fun i _ h2 => hb i h2) hst
theorem fst_ex (N : Nat) (St : Nat → Prop) : ∃ m, m ≤ N ∧ (∀ i, i < m → ¬ St i) ∧ (m < N → St m) := by
  induction N with
  | zero => exact ⟨0, Nat.le_refl _, fun i hi => by omega, fun h => by omega⟩
  | succ N ih =>
    obtain ⟨m, h1, h2, h3⟩ := ih
    by_cases q : m < N
    · exact ⟨m, by omega, h2, fun _ => h3 q⟩
    · have e : m = N := by omega
      subst e
      by_cases z : St m
      · exact ⟨m, by omega, h2, fun _ => z⟩
      · exact ⟨m + 1, Nat.le_refl _, fun i hi => by
          rcases Nat.lt_or_ge i m with y | y
          · exact h2 i y
          · have : i = m := by omega
            subst this; exact z, fun h => by omega⟩
theorem Mo_ahead {v : Nat} {T : TX} {F : LF} {r : RW} {U : UX} {H : HX} {N : NX} {B : BX} {P : Int32} {S : Mem} (hT : TG T F) (hG : GR T r) (h : MOK v T F r U H N B P S) (hr : MR r S) {n : Nat} (hn : n < 4096) : Ok (fun S' => MOK v T F r U H N B P S' ∧ MR (days T F (S.1 0 58) n r) S' ∧ S'.1 0 58 = S.1 0 58) (f_Mo_goes (nI n) S) :=
  (Mo_goes hT.1 h.1.1 h.1.2 hT.2.2.2.2 hr hG.1.2.2.2.2 hT.2.2.1 hn).m (fun S' q => ⟨h.fr q.1.1, q.2, q.1.2⟩)
theorem Co_lookAhead {tx : Nat} {T : TX} {F : LF} {r : RW} {U : UX} {H : HX} {N : NX} {B : BX} {P : Int32} {S : Mem} (hT : TG T F) (hG : GR T r) (h : COK tx T F r U H N B P S) {n : Nat} (hn : n < 4096) (sd : Int32) : Ok (fun S' => COK tx T F r U H N B P S' ∧ CG T F (days T F sd n r) tx 5 S') (f_Co_lookAhead (nI n) sd S) := by
  unfold f_Co_lookAhead f_Co_lookAhead_b0
  refine (St_copyOf hT.1 h.2.1 h.2.2.1).b (fun c hc => ?_)
  have k0 := h.fq hc.1
  refine li_4 f_Co_lookAhead_b13 f_Co_lookAhead_l13 (fun _ => rfl) (fun _ => nI n) (fun _ => sd) nI (fun j S' => COK tx T F r U H N B P S' ∧ CG T F (days T F sd j r) tx 5 S') n _ (fun k j y hj hy => ?_) (fun k y hy => ?_) 5000 (by omega) c ⟨k0, k0.1.1.1.g (by decide) hc.2.1 hc.2.2⟩
  · simp only [f_Co_lookAhead_b13, if_neg (le_nI (show ¬ n ≤ j by omega) (by omega) (by omega)), hy.1.1.1.2.2.2.1, gTx_t hy.1.1.1.2.1, cl hy.1.1.1.tx]
    obtain ⟨q, eq, hq⟩ := Dy_pass (sd := sd) hT (GR.days (sd := sd) hT hG j).1 hy.2
    rw [eq, bind_e, nI_1]
    exact ⟨q, ⟨hy.1.fq hq.1, hq.2.1⟩, rfl⟩
  · simp only [f_Co_lookAhead_b13, if_pos (le_rf n)]
    exact Ok.i hy
theorem isLong_y {n : Nat} (h : n < 201) : f_Mo_isLong (nI n) = some 1 := by
  unfold f_Mo_isLong f_Mo_isLong_b0
  rw [in_d (n := 201) (by decide) (by decide) h, bind_e, gZ_1]
theorem isLong_n {x : Int32} (h : ∀ j, j < 201 → x ≠ nI j) : f_Mo_isLong x = some 0 := by
  unfold f_Mo_isLong f_Mo_isLong_b0
  rw [in_c (n := 201) (by decide) (by decide) h, bind_e, gZ_0]
theorem gt_n {x : Int32} {n m : Nat} {M : Int32} (hM : M = nI m) (hm : m < 2 ^ 30) (h0 : ¬ x < 0) (h : nI n ≤ x) (hn : m < n) (hn2 : n < 2 ^ 30) : M < x ∧ ¬ x ≤ M := by
  subst hM
  obtain ⟨j, hj, rfl⟩ := nI_of h0
  have := (nI_leI (by omega) hj).mp h
  exact ⟨nI_lt (by omega) hj, le_nI (by omega) hj (by omega)⟩
theorem S_wellIn {SC SM : Mem} (h : Rel SC SM) (x1 x2 x3 : Int32) : Sim (f_Co_wellIn x1 x2 x3 SC) (f_Mo_wellIn x1 x2 x3 SM) := by
  obtain ⟨v, tx, T, F, r, U, H, N, B, P, w, hM, hC⟩ := h
  have hN := w.1.1
  have h4 := hN.1.2
  have hX := hC.1.1
  have no : ∀ x y, x = some ((-1 : Int32), SC) → y = some ((-1 : Int32), SM) → Sim x y := fun x y hx hy => Sim.ok w (Ok.e hx ⟨rfl, hC⟩) (Ok.e hy ⟨rfl, hM⟩)
  unfold f_Co_wellIn f_Co_wellIn_b0 f_Mo_wellIn f_Mo_wellIn_b0
  rcases rg x1 (n := nW T) (by omega) with ⟨a, ha, rfl⟩ | ⟨q, -⟩
  case inr => rw [Mo_isWell_n hN hM.1 q, Co_isWell_n hN hX q, bind_e, bind_e, i00, i00]; exact no _ _ rfl rfl
  rw [Mo_isWell_y hN hM.1 ha, Co_isWell_y hN hX ha, bind_e, bind_e, i10, i10]
  rcases rg x2 (n := 201) (by decide) with ⟨n, hn, rfl⟩ | ⟨q, q2⟩
  case inr =>
    rw [isLong_n q, bind_e, i00]
    rcases q2 with q2 | ⟨q2, q3, q4⟩
    · rw [if_pos q2]; exact no _ _ rfl rfl
    · rw [if_neg q2, if_pos (gt_n (M := 200) (m := 200) rfl (by decide) q2 q3 (by decide) (by decide)).1]; exact no _ _ rfl rfl
  rw [isLong_y hn, bind_e, i10, if_neg (nI_pos (by omega)), if_neg (show ¬ (200 : Int32) < nI n from nI_nlt (a := 200) (by omega) (by decide))]
  rcases rg x3 (n := 2) (by decide) with ⟨m, hm, e3⟩ | ⟨q, q2⟩
  case inr =>
    rw [in_c (n := 2) (by decide) (by decide) q, bind_e, i00]
    rcases q2 with q2 | ⟨q2, q3, q4⟩
    · rw [if_pos q2]; exact no _ _ rfl rfl
    · rw [if_neg q2, if_neg (gt_n (M := 1) (m := 1) rfl (by decide) q2 q3 (by decide) (by decide)).2]; exact no _ _ rfl rfl
  rw [e3, in_d (n := 2) (by decide) (by decide) hm, bind_e, i10, if_neg (nI_pos (by omega)), if_pos (show nI m ≤ (1 : Int32) from nI_le (b := 1) (by omega) (by decide)), hX.2.2.2.1, gTx_t hX.2.1, cl hX.tx, hX.1.2.1.2.1.2.2]
  obtain ⟨q, eq, hq, hr, e58⟩ := hM.cp
  rw [eq, bind_e]
  obtain ⟨c, ec, hc, gc⟩ := Co_lookAhead w.1 w.2.1 hC (n := n) (by omega) (T 0 6)
  obtain ⟨d, ed, hd, gd, -⟩ := Mo_ahead w.1 w.2.1 hq hr (n := n) (by omega)
  rw [e58] at gd
  rw [ec, ed, bind_e, bind_e, g4 (by omega), g4 (by omega), cl (by omega)]
  by_cases q0 : nI m = 0
  · rw [if_pos q0, if_pos q0, Mo_deepOf hN hd.1.1 gd (by omega), bind_e]
    exact Sim.ok w (Ok.e rfl ⟨(gc.2.2.2.2.1 a ha).1, hc⟩) (Ok.e rfl ⟨rfl, hd⟩)
  · rw [if_neg q0, if_neg q0, g40 (by omega)]
    exact Sim.ok w (Ok.e rfl ⟨gc.2.2.2.1.2.1 a ha, hc⟩) (Ok.e rfl ⟨gd a (by omega), hd⟩)
theorem S_manIn {SC SM : Mem} (h : Rel SC SM) (x1 x2 x3 : Int32) : Sim (f_Co_manIn x1 x2 x3 SC) (f_Mo_manIn x1 x2 x3 SM) := by
  obtain ⟨v, tx, T, F, r, U, H, N, B, P, w, hM, hC⟩ := h
  have hN := w.1.1
  have h7 := hN.2.1.2
  have hX := hC.1.1
  have no : ∀ x y, x = some ((-1 : Int32), SC) → y = some ((-1 : Int32), SM) → Sim x y := fun x y hx hy => Sim.ok w (Ok.e hx ⟨rfl, hC⟩) (Ok.e hy ⟨rfl, hM⟩)
  unfold f_Co_manIn f_Co_manIn_b0 f_Mo_manIn f_Mo_manIn_b0
  rcases rg x1 (n := nM T) (by omega) with ⟨a, ha, rfl⟩ | ⟨q, -⟩
  case inr => rw [Mo_isMan_n hN hM.1 q, Co_isMan_n hN hX q, bind_e, bind_e, i00, i00]; exact no _ _ rfl rfl
  rw [Mo_isMan_y hN hM.1 ha, Co_isMan_y hN hX ha, bind_e, bind_e, i10, i10]
  rcases rg x2 (n := 201) (by decide) with ⟨n, hn, rfl⟩ | ⟨q, q2⟩
  case inr =>
    rw [isLong_n q, bind_e, i00]
    rcases q2 with q2 | ⟨q2, q3, q4⟩
    · rw [if_pos q2]; exact no _ _ rfl rfl
    · rw [if_neg q2, if_pos (gt_n (M := 200) (m := 200) rfl (by decide) q2 q3 (by decide) (by decide)).1]; exact no _ _ rfl rfl
  rw [isLong_y hn, bind_e, i10, if_neg (nI_pos (by omega)), if_neg (show ¬ (200 : Int32) < nI n from nI_nlt (a := 200) (by omega) (by decide))]
  rcases rg x3 (n := 3) (by decide) with ⟨m, hm, e3⟩ | ⟨q, q2⟩
  case inr =>
    rw [in_c (n := 3) (by decide) (by decide) q, bind_e, i00]
    rcases q2 with q2 | ⟨q2, q3, q4⟩
    · rw [if_pos q2]; exact no _ _ rfl rfl
    · rw [if_neg q2, if_neg (gt_n (M := 2) (m := 2) rfl (by decide) q2 q3 (by decide) (by decide)).2]; exact no _ _ rfl rfl
  rw [e3, in_d (n := 3) (by decide) (by decide) hm, bind_e, i10, if_neg (nI_pos (by omega)), if_pos (show nI m ≤ (2 : Int32) from nI_le (b := 2) (by omega) (by decide)), hX.2.2.2.1, gTx_t hX.2.1, cl hX.tx, hX.1.2.1.2.1.2.2]
  obtain ⟨q, eq, hq, hr, e58⟩ := hM.cp
  rw [eq, bind_e]
  obtain ⟨c, ec, hc, gc⟩ := Co_lookAhead w.1 w.2.1 hC (n := n) (by omega) (T 0 6)
  obtain ⟨d, ed, hd, gd, -⟩ := Mo_ahead w.1 w.2.1 hq hr (n := n) (by omega)
  rw [e58] at gd
  rw [ec, ed, bind_e, bind_e, g7 (by omega), g7 (by omega), cl (show a < 4096 by omega), a19, a26, g40 (by omega), g40 (by omega), cl (show 19 + a < 4096 by omega), cl (show 26 + a < 4096 by omega), St_isAlive gc.2.2.2.1 a, Mo_isAlive gd a, bind_e, bind_e, if01p, if01p]
  have hB := gc.2.2.2.1.2.2.1 a ha
  by_cases q0 : nI m = 0
  · rw [if_pos q0, if_pos q0]
    exact Sim.ok w (Ok.e rfl ⟨rfl, hc⟩) (Ok.e rfl ⟨rfl, hd⟩)
  rw [if_neg q0, if_neg q0]
  by_cases q1 : nI m = 1
  · rw [if_pos q1, if_pos q1]
    exact Sim.ok w (Ok.e rfl ⟨hB.2.1, hc⟩) (Ok.e rfl ⟨gd (19 + a) (by omega), hd⟩)
  · rw [if_neg q1, if_neg q1]
    exact Sim.ok w (Ok.e rfl ⟨hB.2.2, hc⟩) (Ok.e rfl ⟨gd (26 + a) (by omega), hd⟩)
theorem S_dryBy {SC SM : Mem} (h : Rel SC SM) (x1 : Int32) : Sim (f_Co_dryBy x1 SC) (f_Mo_dryBy x1 SM) := by
  obtain ⟨v, tx, T, F, r, U, H, N, B, P, w, hM, hC⟩ := h
  have hN := w.1.1
  have h4 := hN.1.2
  have hX := hC.1.1
  unfold f_Co_dryBy f_Co_dryBy_b0 f_Mo_dryBy f_Mo_dryBy_b0
  rcases rg x1 (n := nW T) (by omega) with ⟨a, ha, rfl⟩ | ⟨q, -⟩
  case inr =>
    rw [Mo_isWell_n hN hM.1 q, Co_isWell_n hN hX q, bind_e, bind_e, i00, i00]
    exact Sim.ok w (Ok.e rfl ⟨rfl, hC⟩) (Ok.e rfl ⟨rfl, hM⟩)
  rw [Mo_isWell_y hN hM.1 ha, Co_isWell_y hN hX ha, bind_e, bind_e, i10, i10]
  obtain ⟨m, hm, hb, hst⟩ := fst_ex 201 (fun j => days T F (T 0 6) j r a = 0)
  refine Sim.ok (a := if m = 201 then -2 else nI m) (v := v) (tx := tx) (P := P) w ((St_copyOf hN hC.2.1 hC.2.2.1).b (fun c hc => ?_)) (hM.cp.b (fun q hq => ?_))
  · have k0 := hC.fq hc.1
    refine lf_3 f_Co_dryBy_b23 f_Co_dryBy_l23 (fun _ => rfl) (fun _ => nI a) nI (fun j S' => COK tx T F r U H N B P S' ∧ CG T F (days T F (T 0 6) j r) tx 5 S') 201 (fun j => days T F (T 0 6) j r a = 0) (fun m x => Ok (fun z : Int32 × Mem => z.1 = (if m = 201 then -2 else nI m) ∧ COK tx T F r U H N B P z.2) x) (fun k j y hj hy => ?_) (fun k y hy => ?_) 5000 (by decide) c ⟨k0, k0.1.1.1.g (by decide) hc.2.1 hc.2.2⟩ hm hb hst
    · simp only [f_Co_dryBy_b23, if_neg (show ¬ (200 : Int32) < nI j from nI_nlt (a := 200) (by omega) (by decide)), g4 (show a < 4 by omega), cl (show a < 4096 by omega), hy.2.2.2.2.1.2.1 a ha, hy.1.1.1.2.2.2.1, gTx_t hy.1.1.1.2.1, cl hy.1.1.1.tx, hy.2.2.1.2.1.2.2]
      refine ⟨fun z => ?_, fun z => ?_⟩
      · rw [if_pos z]; exact Ok.i ⟨by rw [if_neg (by omega)], hy.1⟩
      · rw [if_neg z]
        obtain ⟨q, eq, hq⟩ := Dy_pass (sd := T 0 6) w.1 (GR.days (sd := T 0 6) w.1 w.2.1 j).1 hy.2
        rw [eq, bind_e, nI_1]
        exact ⟨q, ⟨hy.1.fq hq.1, hq.2.1⟩, rfl⟩
    · simp only [f_Co_dryBy_b23, if_pos (show (200 : Int32) < nI 201 by decide)]
      exact Ok.i ⟨rfl, hy.1⟩
  · refine lf_3 f_Mo_dryBy_b16 f_Mo_dryBy_l16 (fun _ => rfl) (fun _ => nI a) nI (fun j S' => MOK v T F r U H N B P S' ∧ MR (days T F (T 0 6) j r) S' ∧ S'.1 0 58 = T 0 6) 201 (fun j => days T F (T 0 6) j r a = 0) (fun m x => Ok (fun z : Int32 × Mem => z.1 = (if m = 201 then -2 else nI m) ∧ MOK v T F r U H N B P z.2) x) (fun k j y hj hy => ?_) (fun k y hy => ?_) 5000 (by decide) q hq hm hb hst
    · simp only [f_Mo_dryBy_b16, if_neg (show ¬ (200 : Int32) < nI j from nI_nlt (a := 200) (by omega) (by decide)), g40 (show a < 40 by omega), cl (show a < 4096 by omega), hy.2.1 a (by omega)]
      refine ⟨fun z => ?_, fun z => ?_⟩
      · rw [if_pos z]; exact Ok.i ⟨by rw [if_neg (by omega)], hy.1⟩
      · rw [if_neg z]
        obtain ⟨q, eq, hq⟩ := Mo_dayGoes hN hy.1.1.1 hy.1.1.2 w.1.2.2.2.2 hy.2.1 (GR.days (sd := T 0 6) w.1 w.2.1 j).1.2.2.2.2 w.1.2.2.1
        rw [eq, bind_e, nI_1]
        exact ⟨q, ⟨hy.1.fr hq.1.1, by rw [hy.2.2] at hq; exact hq.2, hq.1.2.trans hy.2.2⟩, rfl⟩
    · simp only [f_Mo_dryBy_b16, if_pos (show (200 : Int32) < nI 201 by decide)]
      exact Ok.i ⟨rfl, hy.1⟩
