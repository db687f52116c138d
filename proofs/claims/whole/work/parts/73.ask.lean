/-! BOTH: what is asked of now. -/
def SimM (SC : Mem) (x : Option Int32) (y : Option (Int32 × Mem)) : Prop := ∃ a SM, x = some a ∧ y = some (a, SM) ∧ Rel SC SM
theorem SimM.ok {SC : Mem} {x : Option Int32} {y : Option (Int32 × Mem)} {a : Int32} {v tx : Nat} {T : TX} {F : LF} {r : RW} {U : UX} {H : HX} {N : NX} {B : BX} {P : Int32} (w : WO T F r U H N B) (hC : COK tx T F r U H N B P SC) (hx : x = some a) (hy : Ok (fun z : Int32 × Mem => z.1 = a ∧ MOK v T F r U H N B P z.2) y) : SimM SC x y := by
  obtain ⟨⟨a2, S2⟩, rfl, e2, h2⟩ := hy
  exact ⟨a, S2, hx, by rw [← e2], v, tx, T, F, r, U, H, N, B, P, w, h2, hC⟩
def whs (T : TX) (r : RW) (w : Nat) : Int32 := orF (fun s => if r (4 + s) = nI w then bitM s else 0) (nS T)
theorem Mo_well70 {v : Nat} {T : TX} {r : RW} {S : Mem} (hN : TN T) (hT : TV v T S) (hr : MR r S) (w : Nat) : f_Mo_well_l70 5000 (nI w) 0 0 S = some (whs T r w, S) := by
  obtain ⟨hv, e18, ⟨-, -, e30, -⟩, -⟩ := hT
  obtain ⟨-, -, ⟨eS, hS⟩, -⟩ := hN
  refine lq_4 f_Mo_well_b70 f_Mo_well_l70 (fun _ => rfl) (fun _ => nI w) (orF (fun s => if r (4 + s) = nI w then bitM s else 0)) nI (fun _ => S) (nS T) _ (fun k j hj => ?_) (fun k => ?_) 5000 (by omega)
  · simp only [f_Mo_well_b70, e18, g2 hv, cl (show v < 4096 by omega), e30, eS, if_neg (le_nI (show ¬ nS T ≤ j by omega) (by omega) (by omega)), a4, g40 (show 4 + j < 40 by omega), cl (show 4 + j < 4096 by omega), hr (4 + j) (by omega), letS_e, nI_1]
    by_cases q : r (4 + j) = nI w
    · rw [if_pos q]; simp only [orF, if_pos q]; rfl
    · rw [if_neg q, orF_0 (f := fun s => if r (4 + s) = nI w then bitM s else 0) (by simp only [if_neg q])]
  · simp only [f_Mo_well_b70, e18, g2 hv, cl (show v < 4096 by omega), e30, eS, if_pos (le_rf _)]
    rfl
theorem St_whisperedInto {tx : Nat} {T : TX} {r : RW} {S : Mem} (hN : TN T) (hC : CT T tx S) (hB : CB T r 4 S) (w : Nat) : f_St_whisperedInto 4 tx (nI w) S = some (whs T r w) := by
  have h8 := hN.2.2.1.2
  refine lq_3 (f_St_whisperedInto_b5 4 tx S) (f_St_whisperedInto_l5 4 tx S) (fun _ => rfl) (fun _ => nI w) (orF (fun s => if r (4 + s) = nI w then bitM s else 0)) nI (nS T) _ (fun k j hj => ?_) (fun k => ?_) 5000 (by omega)
  · simp only [f_St_whisperedInto_b5, hC.1.2.2.1, hN.2.2.1.1, if_neg (le_nI (show ¬ nS T ≤ j by omega) (by omega) (by omega)), g8 (show j < 8 by omega), cl (show j < 4096 by omega), hB.2.2.2 j hj, letS_e, nI_1]
    by_cases q : r (4 + j) = nI w
    · rw [if_pos q]; simp only [orF, if_pos q]; rfl
    · rw [if_neg q, orF_0 (f := fun s => if r (4 + s) = nI w then bitM s else 0) (by simp only [if_neg q])]
  · simp only [f_St_whisperedInto_b5, hC.1.2.2.1, hN.2.2.1.1, if_pos (le_rf _)]
    rfl
theorem S_well {SC SM : Mem} (h : Rel SC SM) (x1 x2 : Int32) : Sim (f_Co_well x1 x2 SC) (f_Mo_well x1 x2 SM) := by
  obtain ⟨v, tx, T, F, r, U, H, N, B, P, w, hM, hC⟩ := h
  have hN := w.1.1
  have h4 := hN.1.2
  have hX := hC.1.1
  unfold f_Co_well f_Co_well_b0 f_Mo_well f_Mo_well_b0
  rcases rg x1 (n := nW T) (by omega) with ⟨a, ha, rfl⟩ | ⟨q, -⟩
  case inr =>
    rw [Mo_isWell_n hN hM.1 q, Co_isWell_n hN hX q, bind_e, bind_e, i00, i00]
    exact Sim.ok w (Ok.e rfl ⟨rfl, hC⟩) (Ok.e rfl ⟨rfl, hM⟩)
  rw [Mo_isWell_y hN hM.1 ha, Co_isWell_y hN hX ha, bind_e, bind_e, i10, i10]
  obtain ⟨q, eq, hq, hr, -⟩ := hM.cp
  rw [eq, bind_e, hX.2.2.2.1, gTx_t hX.2.1, gTx_t hX.2.1, cl hX.tx]
  by_cases q0 : x2 = 0
  · rw [if_pos q0, if_pos q0, g4 (by omega), cl (by omega), Mo_deepOf hN hq.1.1 hr (by omega), bind_e]
    exact Sim.ok w (Ok.e rfl ⟨(hC.2.2.1.1 a ha).1, hC⟩) (Ok.e rfl ⟨rfl, hq⟩)
  rw [if_neg q0, if_neg q0]
  by_cases q1 : x2 = 1
  · rw [if_pos q1, if_pos q1, g4 (by omega), cl (by omega), g40 (by omega)]
    exact Sim.ok w (Ok.e rfl ⟨hC.2.1.2.1 a ha, hC⟩) (Ok.e rfl ⟨hr a (by omega), hq⟩)
  rw [if_neg q1, if_neg q1]
  by_cases q2 : x2 = 2
  · rw [if_pos q2, if_pos q2, Mo_well70 hN hq.1.1 hr, St_whisperedInto hN hX.1.2.1 hC.2.1, bind_e]
    exact Sim.ok w (Ok.e rfl ⟨rfl, hC⟩) (Ok.e rfl ⟨rfl, hq⟩)
  rw [if_neg q2, if_neg q2]
  by_cases q3 : x2 = 3
  · rw [if_pos q3, if_pos q3, g4 (by omega), cl (by omega), Mo_holding hN hq.1.1 hr, bind_e]
    exact Sim.ok w (Ok.e rfl ⟨(hC.2.2.1.1 a ha).2.1, hC⟩) (Ok.e rfl ⟨rfl, hq⟩)
  rw [if_neg q3, if_neg q3]
  by_cases q4 : x2 = 4
  · rw [if_pos q4, if_pos q4, g4 (by omega), cl (by omega), Mo_drinkersOf hN hq.1.1 hr, bind_e]
    exact Sim.ok w (Ok.e rfl ⟨(hC.2.2.1.1 a ha).2.2, hC⟩) (Ok.e rfl ⟨rfl, hq⟩)
  rw [if_neg q4, if_neg q4]
  by_cases q5 : x2 = 5
  · rw [if_pos q5, if_pos q5]
    refine Sim.ok (a := FL T F r a) w ((Dy_fillsNow w.1 hC.g ha).b (fun c hc => Ok.i ⟨hc.1, hC.fq (hc.2.fq 5)⟩)) ((Mo_fillsOf hN hq.1.1 hq.1.2 w.1.2.2.2.2 hr (by omega)).b (fun c hc => Ok.i ⟨hc.1, hq.fr hc.2.1⟩))
  rw [if_neg q5, if_neg q5]
  exact Sim.ok w (Ok.e rfl ⟨rfl, hC⟩) (Ok.e rfl ⟨rfl, hq⟩)
theorem if01 {x : Int32} {k : Nat} : (if bitOf x k = 0 then (0 : Int32) else 1) = bitOf x k := by
  rcases bit01 x k with e | e <;> rw [e] <;> rfl
theorem if01p {x : Int32} {k : Nat} (S : Mem) : (if bitOf x k = 0 then some ((0 : Int32), S) else some (1, S)) = some (bitOf x k, S) := by
  rcases bit01 x k with e | e <;> rw [e] <;> rfl
theorem S_man {SC SM : Mem} (h : Rel SC SM) (x1 x2 : Int32) : Sim (f_Co_man x1 x2 SC) (f_Mo_man x1 x2 SM) := by
  obtain ⟨v, tx, T, F, r, U, H, N, B, P, w, hM, hC⟩ := h
  have hN := w.1.1
  have h7 := hN.2.1.2
  have hX := hC.1.1
  unfold f_Co_man f_Co_man_b0 f_Mo_man f_Mo_man_b0
  rcases rg x1 (n := nM T) (by omega) with ⟨a, ha, rfl⟩ | ⟨q, -⟩
  case inr =>
    rw [Mo_isMan_n hN hM.1 q, Co_isMan_n hN hX q, bind_e, bind_e, i00, i00]
    exact Sim.ok w (Ok.e rfl ⟨rfl, hC⟩) (Ok.e rfl ⟨rfl, hM⟩)
  rw [Mo_isMan_y hN hM.1 ha, Co_isMan_y hN hX ha, bind_e, bind_e, i10, i10]
  obtain ⟨q, eq, hq, hr, -⟩ := hM.cp
  rw [eq, bind_e, hX.2.2.2.1, gTx_t hX.2.1, cl hX.tx, St_isAlive hC.2.1 a, bind_e, bind_e, Mo_isAlive hr a, bind_e, bind_e, if01p, if01p]
  have hB := hC.2.1.2.2.1 a ha
  by_cases q0 : x2 = 0
  · rw [if_pos q0, if_pos q0]
    exact Sim.ok w (Ok.e rfl ⟨rfl, hC⟩) (Ok.e rfl ⟨rfl, hq⟩)
  rw [if_neg q0, if_neg q0]
  by_cases q1 : x2 = 1
  · rw [if_pos q1, if_pos q1, g7 (by omega), cl (by omega), a12, g40 (by omega), cl (by omega)]
    exact Sim.ok w (Ok.e rfl ⟨hB.1, hC⟩) (Ok.e rfl ⟨hr (12 + a) (by omega), hq⟩)
  rw [if_neg q1, if_neg q1]
  by_cases q2 : x2 = 2
  · rw [if_pos q2, if_pos q2, g7 (by omega), cl (by omega), a19, g40 (by omega), cl (by omega)]
    exact Sim.ok w (Ok.e rfl ⟨hB.2.1, hC⟩) (Ok.e rfl ⟨hr (19 + a) (by omega), hq⟩)
  rw [if_neg q2, if_neg q2]
  by_cases q3 : x2 = 3
  · rw [if_pos q3, if_pos q3, g7 (by omega), cl (by omega), a26, g40 (by omega), cl (by omega)]
    exact Sim.ok w (Ok.e rfl ⟨hB.2.2, hC⟩) (Ok.e rfl ⟨hr (26 + a) (by omega), hq⟩)
  rw [if_neg q3, if_neg q3]
  by_cases q4 : x2 = 4
  · rw [if_pos q4, if_pos q4]
    by_cases qa : bitOf (r 33) a = 0
    · rw [if_pos qa, if_pos qa]
      exact Sim.ok w (Ok.e rfl ⟨rfl, hC⟩) (Ok.e rfl ⟨rfl, hq⟩)
    rw [if_neg qa, if_neg qa]
    exact Sim.ok (a := DR T F r a) w ((Dy_drinksNow w.1 w.2.1.1 hC.g ha).b (fun c hc => Ok.i ⟨hc.1, hC.fq (hc.2.fq 5)⟩)) ((Mo_drinksOf hN hq.1.1 hq.1.2 w.1.2.2.2.2 hr w.2.1.1.2.2.2.2 ha).b (fun c hc => Ok.i ⟨hc.1, hq.fr hc.2.1⟩))
  rw [if_neg q4, if_neg q4]
  exact Sim.ok w (Ok.e rfl ⟨rfl, hC⟩) (Ok.e rfl ⟨rfl, hq⟩)
theorem into_c {T : TX} {r : RW} (hN : TN T) (h : RI T r) {s : Nat} (hs : s < nS T) : (r (4 + s) = -2 ∧ r (4 + s) < 0) ∨ (¬ r (4 + s) = -2 ∧ ¬ r (4 + s) < 0) := by
  rcases h.2.2.2.1 s hs with e | ⟨w, hw, e⟩
  · left; rw [e]; exact ⟨rfl, by decide⟩
  · right
    have h4 := hN.1.2
    have p := nI_pos (n := w) (by omega)
    rw [e]
    exact ⟨fun z => p (by rw [z]; decide), p⟩
theorem S_secret {SC SM : Mem} (h : Rel SC SM) (x1 x2 : Int32) : SimM SC (f_Co_secret x1 x2 SC) (f_Mo_secret x1 x2 SM) := by
  obtain ⟨v, tx, T, F, r, U, H, N, B, P, w, hM, hC⟩ := h
  have hN := w.1.1
  have h8 := hN.2.2.1.2
  have hX := hC.1.1
  unfold f_Co_secret f_Co_secret_b0 f_Mo_secret f_Mo_secret_b0
  rcases rg x1 (n := nS T) (by omega) with ⟨s, hs, rfl⟩ | ⟨q, -⟩
  case inr =>
    rw [Mo_isSecret_n hN hM.1 q, Co_isSecret_n hN hX q, bind_e, bind_e, i00, i00]
    exact SimM.ok w hC rfl (Ok.e rfl ⟨rfl, hM⟩)
  rw [Mo_isSecret_y hN hM.1 hs, Co_isSecret_y hN hX hs, bind_e, bind_e, i10, i10]
  obtain ⟨q, eq, hq, hr, -⟩ := hM.cp
  rw [eq, bind_e, hX.2.2.2.1, gTx_t hX.2.1, cl hX.tx, St_knowers hN hX.1.2.1 hC.2.1, bind_e]
  by_cases q0 : x2 = 0
  · rw [if_pos q0, if_pos q0, Mo_knowersOf hN hq.1.1 hr, bind_e]
    exact SimM.ok w hC rfl (Ok.e rfl ⟨rfl, hq⟩)
  rw [if_neg q0, if_neg q0]
  by_cases q1 : x2 = 1
  · rw [if_pos q1, if_pos q1, Mo_knownBy hN hq.1.1 hr, bind_e, hC.2.1.1.2.1, bc12 (and_12 hN w.2.1.1 _), bind_e]
    exact SimM.ok w hC rfl (Ok.e rfl ⟨rfl, hq⟩)
  rw [if_neg q1, if_neg q1]
  by_cases q2 : x2 = 2
  · rw [if_pos q2, if_pos q2, g8 (by omega), cl (by omega), a4, g40 (by omega), cl (by omega), hC.2.1.2.2.2 s hs]
    exact SimM.ok w hC rfl (Ok.e rfl ⟨hr (4 + s) (by omega), hq⟩)
  rw [if_neg q2, if_neg q2]
  by_cases q3 : x2 = 3
  · rw [if_pos q3, if_pos q3, g8 (by omega), g8 (by omega), cl (by omega), a4, g40 (by omega), cl (by omega), hC.2.1.2.2.2 s hs, hr (4 + s) (by omega)]
    rcases into_c hN w.2.1.1 hs with ⟨e1, e2⟩ | ⟨e1, e2⟩
    · rw [if_pos e1, if_pos e2]
      exact SimM.ok w hC rfl (Ok.e rfl ⟨rfl, hq⟩)
    · rw [if_neg e1, if_neg e2, Mo_weightNow hN hq.1.1 hr (by omega), bind_e, hC.2.2.1.2 s hs]
      exact SimM.ok w hC rfl (Ok.e rfl ⟨rfl, hq⟩)
  rw [if_neg q3, if_neg q3]
  exact SimM.ok w hC rfl (Ok.e rfl ⟨rfl, hq⟩)
theorem S_tells {SC SM : Mem} (h : Rel SC SM) (x1 x2 : Int32) : Sim (f_Co_tells x1 x2 SC) (f_Mo_tells x1 x2 SM) := by
  obtain ⟨v, tx, T, F, r, U, H, N, B, P, w, hM, hC⟩ := h
  have hN := w.1.1
  have h7 := hN.2.1.2
  have h8 := hN.2.2.1.2
  have h12 := hN.2.2.2.2
  have hX := hC.1.1
  have hv := hM.1.1.1
  unfold f_Co_tells f_Co_tells_b0 f_Mo_tells f_Mo_tells_b0
  rw [hM.1.1.2.1, g2 hv, cl (by omega), hM.1.1.2.2.1.2.2.2, hN.2.2.2.1]
  rcases rg x1 (n := nT T) (by omega) with ⟨t, ht, rfl⟩ | ⟨q, -⟩
  case inr =>
    rw [in_no q (by omega), Co_isTie_n hN hX q, bind_e, bind_e, i00, i00]
    exact Sim.ok w (Ok.e rfl ⟨rfl, hC⟩) (Ok.e rfl ⟨rfl, hM⟩)
  rw [in_yes rfl ht (by omega), Co_isTie_y hN hX ht, bind_e, bind_e, i10, i10]
  rcases rg x2 (n := nS T) (by omega) with ⟨s, hs, rfl⟩ | ⟨q, -⟩
  case inr =>
    rw [Mo_isSecret_n hN hM.1 q, Co_isSecret_n hN hX q, bind_e, bind_e, i00, i00]
    exact Sim.ok w (Ok.e rfl ⟨rfl, hC⟩) (Ok.e rfl ⟨rfl, hM⟩)
  rw [Mo_isSecret_y hN hM.1 hs, Co_isSecret_y hN hX hs, bind_e, bind_e, i10, i10]
  obtain ⟨q, eq, hq, hr, -⟩ := hM.cp
  have hE := w.1.2.2.1 t ht
  have k1 := hX.1.2.1.2.2.2.2.2.2 t ht
  have k2 := hq.1.1.2.2.2.2.2.2.2 t (by omega)
  rw [eq, bind_e, hX.2.2.2.1]
  simp only [gTx_t hX.2.1, cl hX.tx, g12 (show t < 12 by omega), cl (show t < 4096 by omega), k1.1, k1.2, hE.2.1, hE.2.2.2]
  rw [St_isAlive hC.2.1, bind_e, St_isAlive hC.2.1, bind_e, hq.1.1.2.1, m12, g24 (by omega), g24 (by omega), cl (by omega), k2.1, k2.2, hE.2.1, hE.2.2.2, Mo_isAlive hr, bind_e, Mo_isAlive hr, bind_e]
  by_cases q1 : bitOf (r 33) (fm T t) = 0
  · rw [if_pos q1, if_pos q1]
    exact Sim.ok w (Ok.e rfl ⟨rfl, hC⟩) (Ok.e rfl ⟨rfl, hq⟩)
  rw [if_neg q1, if_neg q1]
  by_cases q2 : bitOf (r 33) (to T t) = 0
  · rw [if_pos q2, if_pos q2]
    exact Sim.ok w (Ok.e rfl ⟨rfl, hC⟩) (Ok.e rfl ⟨rfl, hq⟩)
  rw [if_neg q2, if_neg q2]
  exact Sim.ok (a := TE T F r t s) w ((Dy_tellsNow w.1 w.2.1.1 hC.g ht hs).b (fun c hc => Ok.i ⟨hc.1, hC.fq (hc.2.fq 5)⟩)) ((Mo_tellsOf hN hq.1.1 hq.1.2 w.1.2.2.2.2 hr w.2.1.1.2.2.2.2 w.1.2.2.1 ht (by omega)).b (fun c hc => Ok.i ⟨hc.1, hq.fr hc.2.1⟩))
theorem bits_z {x : Int32} (h : ∀ i, 12 ≤ i → i < 32 → bt x i = false) : bits x = 0 ↔ x = 0 := by
  constructor
  · intro e
    have hp : ∀ n, popN x n = 0 → ∀ i, i < n → bt x i = false := by
      intro n
      induction n with
      | zero => intro _ i hi; omega
      | succ n ih =>
        intro e i hi
        simp only [popN] at e
        rcases Nat.lt_or_ge i n with q | q
        · exact ih (by omega) i q
        · have : i = n := by omega
          subst this
          cases hb : bt x i
          · rfl
          · rw [hb] at e; simp at e
    rw [bits_pop] at e
    have e0 : popN x 12 = 0 := (nI_eq (by have := popN_le x 12; omega) (by decide)).mp e
    exact b_ext (fun i hi => by
      rw [b_0]
      rcases Nat.lt_or_ge i 12 with q | q
      · exact hp 12 e0 i q
      · exact h i q hi)
  · intro e; rw [e]; decide
theorem S_worth {SC SM : Mem} (h : Rel SC SM) (x1 : Int32) : SimM SC (f_Co_worth x1 SC) (f_Mo_worth x1 SM) := by
  obtain ⟨v, tx, T, F, r, U, H, N, B, P, w, hM, hC⟩ := h
  have hN := w.1.1
  have h8 := hN.2.2.1.2
  have hX := hC.1.1
  unfold f_Co_worth f_Co_worth_b0 f_Mo_worth f_Mo_worth_b0
  rcases rg x1 (n := nS T) (by omega) with ⟨s, hs, rfl⟩ | ⟨q, -⟩
  case inr =>
    rw [Mo_isSecret_n hN hM.1 q, Co_isSecret_n hN hX q, bind_e, bind_e, i00, i00]
    exact SimM.ok w hC rfl (Ok.e rfl ⟨rfl, hM⟩)
  rw [Mo_isSecret_y hN hM.1 hs, Co_isSecret_y hN hX hs, bind_e, bind_e, i10, i10]
  obtain ⟨q, eq, hq, hr, -⟩ := hM.cp
  have hv := hq.1.1.1
  have k2 := hq.1.1.2.2.2.2.2.2.1 s (by omega)
  rw [eq, bind_e, hX.2.2.2.1, gTx_t hX.2.1, cl hX.tx, St_knowers hN hX.1.2.1 hC.2.1, bind_e, hC.2.1.1.2.1]
  unfold f_Co_worth_b38
  have bk : ∀ K : Option Int32, gIn (nI s) 8 K = K := fun K => g8 (by omega)
  have bt' : ∀ K : Option Int32, gTx (nI tx) K = K := fun K => gTx_t hX.2.1
  simp only [bk, hX.2.2.2.1, bt', cl hX.tx, cl (show s < 4096 by omega), hC.2.1.2.2.2 s hs, Tx_isLie hX.1.2.1 hs, bind_e, (hX.1.2.1.2.2.2.2.2.1 s hs).1, hC.2.1.1.2.1, bc12 (alive_12 hN w.2.1.1), hC.2.2.1.2 s hs]
  rw [a4, g40 (by omega), cl (by omega), hr (4 + s) (by omega), hq.1.1.2.1, m8, g16 (by omega), g16 (by omega), cl (by omega), k2.2.1, k2.1, Mo_knownBy hN hq.1.1 hr, bind_e, Mo_weightNow hN hq.1.1 hr (by omega), bind_e]
  have hb := bits_z (and_12 hN w.2.1.1 (kn T r s))
  have hb2 : knB T r s = 0 ↔ kn T r s &&& r 33 = 0 := hb
  obtain ⟨p, n, ep, en, hpn, hn7⟩ := knB_e hN w.2.1.1 s
  rcases into_c hN w.2.1.1 hs with ⟨e1, e2⟩ | ⟨e1, e2⟩
  · rw [if_pos e2, if_pos e1]
    split <;> exact SimM.ok w hC rfl (Ok.e rfl ⟨rfl, hq⟩)
  rw [if_neg e2, if_neg e1, if_neg e1]
  by_cases q6 : T 6 s = 0
  · rw [if_pos q6, if_pos q6, if_pos q6]
    by_cases qk : knB T r s = 0
    · rw [if_pos qk, if_pos (hb2.mp qk), if_pos trivial]
      exact SimM.ok w hC rfl (Ok.e rfl ⟨rfl, hq⟩)
    rw [if_neg qk, if_neg (fun z => qk (hb2.mpr z)), i10]
    have hp1 : 1 ≤ p := by
      rcases Nat.eq_zero_or_pos p with z | z
      · exact absurd (by rw [ep, z]; rfl) qk
      · exact z
    rw [en, show (1 : Int32) = nI 1 from rfl, St_share (show 1 ≤ n by omega) (by omega), bind_e]
    have es : shr (T 5 s) (nI 1) (nI n) = T 5 s * 10 := by
      unfold shr
      rw [if_neg (by decide), if_neg]
      · obtain ⟨⟨hv, h1, h99, e5⟩, -⟩ := w.1.2.1 s hs
        rw [e5, show (10 : Int32) = nI 10 from rfl, iM, pk_div (by omega) (by decide) (by decide), Nat.div_one]
      · rintro ⟨z1, z2⟩
        have : 1 = n := (nI_eq (by decide) (by omega)).mp z1
        subst this
        exact z2 (by decide)
    rw [es]
    exact SimM.ok w hC rfl (Ok.e rfl ⟨rfl, hq⟩)
  · rw [if_neg q6, if_neg q6, if_neg q6]
    split <;> exact SimM.ok w hC rfl (Ok.e rfl ⟨rfl, hq⟩)
