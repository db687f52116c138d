/-! BOTH: who holds whom. -/
theorem popN_c (x : Int32) : ∀ n, popN x n = cntF (fun i => bt x i = true) n
  | 0 => rfl
  | n + 1 => by
    simp only [popN, cntF, popN_c x n]
    by_cases h : bt x n = true
    · rw [if_pos h, if_pos h]
    · rw [if_neg h, if_neg h, Nat.add_zero]
theorem cntF_c {p q : Nat → Prop} [DecidablePred p] [DecidablePred q] : ∀ n, (∀ j, j < n → (p j ↔ q j)) → cntF p n = cntF q n
  | 0, _ => rfl
  | n + 1, h => by
    have e := cntF_c n (fun j hj => h j (by omega))
    by_cases z : p n
    · rw [cntF_y z, cntF_y ((h n (by omega)).mp z), e]
    · rw [cntF_n z, cntF_n (fun y => z ((h n (by omega)).mpr y)), e]
theorem cntF_hi {p : Nat → Prop} [DecidablePred p] {m : Nat} : ∀ n, m ≤ n → (∀ j, m ≤ j → j < n → ¬ p j) → cntF p n = cntF p m
  | 0, h, _ => by have : m = 0 := by omega
                  rw [this]
  | n + 1, h, hp => by
    rcases Nat.lt_or_ge n m with z | z
    · have : m = n + 1 := by omega
      rw [this]
    · rw [cntF_n (hp n z (by omega))]; exact cntF_hi n z (fun j h1 h2 => hp j h1 (by omega))
theorem bits_cnt {x : Int32} {m : Nat} (hm : m ≤ 12) (h : ∀ i, m ≤ i → i < 32 → bt x i = false) : bits x = nI (cntF (fun i => bt x i = true) m) := by
  rw [bits_pop, popN_c, cntF_hi 12 hm (fun j h1 h2 z => by rw [h j h1 (by omega)] at z; exact absurd z (by decide))]
def pcN (n : Nat) : Nat := n % 2 + n / 2 % 2 + n / 4 % 2 + n / 8 % 2 + n / 16 % 2 + n / 32 % 2 + n / 64 % 2
theorem pcN_b : ∀ n, n < 128 → bits (nI n) = nI (pcN n) := by decide +kernel
theorem pcN_t : ∀ n, n < 128 → ∀ a, a < 7 → ∀ o, o < 7 → (a == o || n / 2 ^ a % 2 != 1 || n / 2 ^ o % 2 != 1 || (pcN n == 2) == (List.range 7).all (fun m => m == a || m == o || n / 2 ^ m % 2 == 0)) = true := by decide +kernel
theorem pcN_2 {n : Nat} (hn : n < 128) {a : Nat} (ha : a < 7) {o : Nat} (ho : o < 7) (hne : a ≠ o) (h1 : n / 2 ^ a % 2 = 1) (h2 : n / 2 ^ o % 2 = 1) : pcN n = 2 ↔ ∀ m, m < 7 → m ≠ a → m ≠ o → n / 2 ^ m % 2 = 0 := by
  have k := pcN_t n hn a ha o ho
  have e1 : (a == o) = false := beq_eq_false_iff_ne.mpr hne
  rw [e1, h1, h2] at k
  simp only [bne_self_eq_false, Bool.false_or, beq_iff_eq] at k
  rw [← beq_iff_eq, k, List.all_eq_true]
  constructor
  · intro z m hm q1 q2
    have := z m (List.mem_range.mpr hm)
    simpa [q1, q2] using this
  · intro z m hm
    have hm := List.mem_range.mp hm
    by_cases q1 : m = a
    · simp [q1]
    · by_cases q2 : m = o
      · simp [q2]
      · simp [q1, q2, z m hm q1 q2]
theorem bits_2 {x : Int32} {a o : Nat} (hx : ∀ i, 7 ≤ i → i < 32 → bt x i = false) (ha : a < 7) (ho : o < 7) (hne : a ≠ o) (h1 : bt x a = true) (h2 : bt x o = true) : bits x = 2 ↔ ∀ m, m < 7 → m ≠ a → m ≠ o → bt x m = false := by
  obtain ⟨n, hn, rfl⟩ := small12 (m := 7) (by omega) hx
  have hn : n < 128 := hn
  rw [bt_nat (by omega) (by omega)] at h1 h2
  have k := pcN_2 hn ha ho hne (of_decide_eq_true h1) (of_decide_eq_true h2)
  rw [pcN_b n hn, show (2 : Int32) = nI 2 from rfl, nI_eq (by unfold pcN; omega) (by decide), k]
  constructor
  · intro z m hm q1 q2
    rw [bt_nat (by omega) (by omega), z m hm q1 q2]; rfl
  · intro z m hm q1 q2
    have := z m hm q1 q2
    rw [bt_nat (by omega) (by omega)] at this
    have := of_decide_eq_false this
    omega
abbrev shB (T : TX) (r : RW) (a o s : Nat) : Prop := bt (r (26 + a)) s = true ∧ bt (r (26 + o)) s = true ∧ ∀ m, m < nM T → m ≠ a → m ≠ o → bt (r 33) m = true → bt (r (26 + m)) s = false
def shN (T : TX) (r : RW) (a o : Nat) : Int32 := if bitOf (r 33) a = 0 ∨ bitOf (r 33) o = 0 then 0 else nI (cntF (fun s => shB T r a o s) (nS T))
theorem bt_kn {T : TX} {r : RW} (hN : TN T) {s i : Nat} (hs : s < 32) (hi : i < 32) : bt (kn T r s) i = true ↔ i < nM T ∧ bt (r (26 + i)) s = true := by
  have := bt_orM (P := fun a => bitOf (r (26 + a)) s = 1) (n := nM T) (i := i) (by have := hN.2.1.2; omega) hi
  unfold kn
  rw [this, bitOf_1 _ hs]
theorem Mo_shared {v : Nat} {T : TX} {r : RW} {S : Mem} (hN : TN T) (hI : RI T r) (hT : TV v T S) (hr : MR r S) {a o : Nat} (ha : a < nM T) (ho : o < nM T) (hne : a ≠ o) : f_Mo_shared (nI a) (nI o) S = some (shN T r a o) := by
  have h7 := hN.2.1.2
  have h8 := hN.2.2.1.2
  unfold f_Mo_shared f_Mo_shared_b0 shN
  rw [Mo_isAlive hr, bind_e, Mo_isAlive hr, bind_e]
  by_cases q1 : bitOf (r 33) a = 0
  · rw [if_pos q1, if_pos (Or.inl q1)]
  rw [if_neg q1]
  by_cases q2 : bitOf (r 33) o = 0
  · rw [if_pos q2, if_pos (Or.inr q2)]
  rw [if_neg q2, if_neg (by rintro (z | z); exact q1 z; exact q2 z)]
  have al1 : bt (r 33) a = true := (bitOf_1 _ (by omega)).mp (bit_n0 q1)
  have al2 : bt (r 33) o = true := (bitOf_1 _ (by omega)).mp (bit_n0 q2)
  obtain ⟨hv, e18, ⟨-, -, e30, -⟩, -⟩ := id hT
  refine lpN (P := fun n s => f_Mo_shared_l23 S n (nI a) (nI o) (nI (cntF (fun s => shB T r a o s) s)) (nI s) = _) (nS T) (fun n s hs ih => ?_) (fun n => ?_) 5000 0 (by omega) (by omega)
  · show f_Mo_shared_b23 S (f_Mo_shared_l23 S n) (nI a) (nI o) _ (nI s) = _
    rw [← ih]
    simp only [f_Mo_shared_b23, e18, g2 hv, cl (show v < 4096 by omega), e30, hN.2.2.1.1, if_neg (le_nI (show ¬ nS T ≤ s by omega) (by omega) (by omega)), Mo_knows hr (show a < 7 by omega), Mo_knows hr (show o < 7 by omega), Mo_knownBy hN hT hr, bind_e, nI_1]
    by_cases k1 : bitOf (r (26 + a)) s = 0
    · rw [if_pos k1, cntF_n (p := fun s => shB T r a o s) (fun z => by have := (bitOf_0 _ (by omega)).mp k1; rw [z.1] at this; exact absurd this (by decide))]
    rw [if_neg k1]
    by_cases k2 : bitOf (r (26 + o)) s = 0
    · rw [if_pos k2, cntF_n (p := fun s => shB T r a o s) (fun z => by have := (bitOf_0 _ (by omega)).mp k2; rw [z.2.1] at this; exact absurd this (by decide))]
    rw [if_neg k2]
    have b1 : bt (r (26 + a)) s = true := (bitOf_1 _ (by omega)).mp (bit_n0 k1)
    have b2 : bt (r (26 + o)) s = true := (bitOf_1 _ (by omega)).mp (bit_n0 k2)
    have key : knB T r s = 2 ↔ shB T r a o s := by
      unfold knB
      rw [bits_2 (a := a) (o := o) (fun i h1 h2 => by rw [b_and, hI.1 i (by omega) h2, Bool.and_false]) (by omega) (by omega) hne (by rw [b_and, al1, (bt_kn hN (by omega) (by omega)).mpr ⟨ha, b1⟩]; rfl) (by rw [b_and, al2, (bt_kn hN (by omega) (by omega)).mpr ⟨ho, b2⟩]; rfl)]
      constructor
      · intro z
        refine ⟨b1, b2, fun m hm n1 n2 hal => ?_⟩
        have := z m (by omega) n1 n2
        rw [b_and, hal, Bool.and_true] at this
        cases hb : bt (r (26 + m)) s
        · rfl
        · rw [(bt_kn hN (by omega) (by omega)).mpr ⟨hm, hb⟩] at this; exact absurd this (by decide)
      · intro z m hm n1 n2
        rw [b_and]
        cases hb : bt (kn T r s) m
        · rfl
        · obtain ⟨c1, c2⟩ := (bt_kn hN (by omega) (by omega)).mp hb
          cases hb2 : bt (r 33) m
          · rfl
          · rw [z.2.2 m c1 n1 n2 hb2] at c2; exact absurd c2 (by decide)
    by_cases k3 : knB T r s = 2
    · rw [if_pos k3, cntF_y (p := fun s => shB T r a o s) (key.mp k3)]
    · rw [if_neg k3, cntF_n (p := fun s => shB T r a o s) (fun z => k3 (key.mpr z))]
  · show f_Mo_shared_b23 S (f_Mo_shared_l23 S n) (nI a) (nI o) _ (nI (nS T)) = _
    simp only [f_Mo_shared_b23, e18, g2 hv, cl (show v < 4096 by omega), e30, hN.2.2.1.1, if_pos (le_rf _)]
theorem Pe_sharedByTwo {tx : Nat} {T : TX} {r : RW} {S : Mem} (hN : TN T) (hI : RI T r) (hC : CT T tx S) (hB : CB T r 4 S) {a o : Nat} (ha : a < nM T) (ho : o < nM T) (hne : a ≠ o) : f_Pe_sharedByTwo tx 4 (nI a) (nI o) S = some (shN T r a o) := by
  have h7 := hN.2.1.2
  have h8 := hN.2.2.1.2
  unfold f_Pe_sharedByTwo f_Pe_sharedByTwo_b0 shN
  rw [St_isAlive hB, bind_e, St_isAlive hB, bind_e]
  by_cases q1 : bitOf (r 33) a = 0
  · rw [if_pos q1, if_pos (Or.inl q1)]
  rw [if_neg q1]
  by_cases q2 : bitOf (r 33) o = 0
  · rw [if_pos q2, if_pos (Or.inr q2)]
  rw [if_neg q2, if_neg (by rintro (z | z); exact q1 z; exact q2 z), g7 (by omega), g7 (by omega), letS_e, cl (by omega), cl (by omega), (hB.2.2.1 a ha).2.2, (hB.2.2.1 o ho).2.2]
  refine lpN (P := fun n m => ∀ x, (∀ s, s < 32 → (bt x s = true ↔ bt (r (26 + a)) s = true ∧ bt (r (26 + o)) s = true ∧ ∀ i, i < m → i ≠ a → i ≠ o → bt (r 33) i = true → bt (r (26 + i)) s = false)) → f_Pe_sharedByTwo_l38 tx 4 S n (nI a) (nI o) x (nI m) = some (nI (cntF (fun s => shB T r a o s) (nS T)))) (nM T) (fun n m hm ih x hx => ?_) (fun n x hx => ?_) 5000 0 (by omega) (by omega) _ (fun s hs => ?_)
  · show f_Pe_sharedByTwo_b38 tx 4 S (f_Pe_sharedByTwo_l38 tx 4 S n) (nI a) (nI o) x (nI m) = _
    simp only [f_Pe_sharedByTwo_b38, hC.1.2.1, hN.2.1.1, if_neg (le_nI (show ¬ nM T ≤ m by omega) (by omega) (by omega)), St_isAlive hB, bind_e, g7 (show m < 7 by omega), cl (show m < 4096 by omega), (hB.2.2.1 m hm).2.2, letS_e, nI_1]
    have skip : (m = a ∨ m = o ∨ bt (r 33) m = false) → ∀ s, s < 32 → (bt x s = true ↔ bt (r (26 + a)) s = true ∧ bt (r (26 + o)) s = true ∧ ∀ i, i < m + 1 → i ≠ a → i ≠ o → bt (r 33) i = true → bt (r (26 + i)) s = false) := by
      intro hz s hs
      rw [hx s hs]
      refine and_congr_right (fun _ => and_congr_right (fun _ => ⟨fun z i hi n1 n2 hb => ?_, fun z i hi => z i (by omega)⟩))
      rcases Nat.lt_or_ge i m with y | y
      · exact z i y n1 n2 hb
      · have : i = m := by omega
        subst this
        rcases hz with hz | hz | hz
        · exact absurd hz n1
        · exact absurd hz n2
        · rw [hb] at hz; exact absurd hz (by decide)
    by_cases k1 : nI m = nI a
    · rw [if_pos k1]; exact ih x (skip (Or.inl ((nI_eq (by omega) (by omega)).mp k1)))
    rw [if_neg k1]
    by_cases k2 : nI m = nI o
    · rw [if_pos k2]; exact ih x (skip (Or.inr (Or.inl ((nI_eq (by omega) (by omega)).mp k2))))
    rw [if_neg k2]
    by_cases k3 : bitOf (r 33) m = 0
    · rw [if_pos k3]; exact ih x (skip (Or.inr (Or.inr ((bitOf_0 _ (by omega)).mp k3))))
    rw [if_neg k3]
    have hal : bt (r 33) m = true := (bitOf_1 _ (by omega)).mp (bit_n0 k3)
    refine ih _ (fun s hs => ?_)
    rw [b_and, b_xor, b_m1 s hs]
    constructor
    · intro z
      have z := Bool.and_eq_true_iff.mp z
      obtain ⟨z1, z2, z3⟩ := (hx s hs).mp z.1
      refine ⟨z1, z2, fun i hi n1 n2 hb => ?_⟩
      rcases Nat.lt_or_ge i m with y | y
      · exact z3 i y n1 n2 hb
      · have : i = m := by omega
        subst this
        have := z.2
        cases hq : bt (r (26 + i)) s
        · rfl
        · rw [hq] at this; exact absurd this (by decide)
    · rintro ⟨z1, z2, z3⟩
      rw [(hx s hs).mpr ⟨z1, z2, fun i hi => z3 i (by omega)⟩, z3 m (by omega) (fun e => k1 (by rw [e])) (fun e => k2 (by rw [e])) hal]; rfl
  · show f_Pe_sharedByTwo_b38 tx 4 S (f_Pe_sharedByTwo_l38 tx 4 S n) (nI a) (nI o) x (nI (nM T)) = _
    have hhi : ∀ i, nS T ≤ i → i < 32 → bt x i = false := fun i h1 h2 => by
      cases hq : bt x i
      · rfl
      · have := ((hx i h2).mp hq).1
        rw [hI.2.1 a ha i h1 h2] at this; exact absurd this (by decide)
    simp only [f_Pe_sharedByTwo_b38, hC.1.2.1, hN.2.1.1, if_pos (le_rf _)]
    rw [bc12 (fun i h1 h2 => hhi i (by omega) h2), bind_e, bits_cnt (by omega) hhi]
    rw [cntF_c (q := fun s => shB T r a o s) (nS T) (fun j hj => hx j (by omega))]
  · rw [b_and, Bool.and_eq_true_iff]
    exact ⟨fun z => ⟨z.1, z.2, fun i hi => by omega⟩, fun z => ⟨z.1, z.2.1⟩⟩
theorem S_holds {SC SM : Mem} (h : Rel SC SM) (x1 x2 : Int32) : SimM SC (f_Co_holds x1 x2 SC) (f_Mo_holds x1 x2 SM) := by
  obtain ⟨v, tx, T, F, r, U, H, N, B, P, w, hM, hC⟩ := h
  have hN := w.1.1
  have h7 := hN.2.1.2
  have hX := hC.1.1
  unfold f_Co_holds f_Co_holds_b0 f_Mo_holds f_Mo_holds_b0
  rcases rg x1 (n := nM T) (by omega) with ⟨a, ha, rfl⟩ | ⟨q, -⟩
  case inr => rw [Mo_isMan_n hN hM.1 q, Co_isMan_n hN hX q, bind_e, bind_e, i00, i00]; exact SimM.ok w hC rfl (Ok.e rfl ⟨rfl, hM⟩)
  rw [Mo_isMan_y hN hM.1 ha, Co_isMan_y hN hX ha, bind_e, bind_e, i10, i10]
  rcases rg x2 (n := nM T) (by omega) with ⟨b, hb, rfl⟩ | ⟨q, -⟩
  case inr => rw [Mo_isMan_n hN hM.1 q, Co_isMan_n hN hX q, bind_e, bind_e, i00, i00]; exact SimM.ok w hC rfl (Ok.e rfl ⟨rfl, hM⟩)
  rw [Mo_isMan_y hN hM.1 hb, Co_isMan_y hN hX hb, bind_e, bind_e, i10, i10]
  by_cases qe : nI a = nI b
  · rw [if_pos qe, if_pos qe]; exact SimM.ok w hC rfl (Ok.e rfl ⟨rfl, hM⟩)
  rw [if_neg qe, if_neg qe, hX.2.2.2.1, gTx_t hX.2.1, cl hX.tx]
  have hne : a ≠ b := fun e => qe (by rw [e])
  obtain ⟨q, eq, hq, hr, -⟩ := hM.cp
  rw [eq, bind_e, Mo_shared hN w.2.1.1 hq.1.1 hr ha hb hne, bind_e, Pe_sharedByTwo hN w.2.1.1 hX.1.2.1 hC.2.1 ha hb hne, bind_e]
  exact SimM.ok w hC rfl (Ok.e rfl ⟨rfl, hq⟩)
theorem S_rings {SC SM : Mem} (h : Rel SC SM) : SimM SC (f_Co_rings SC) (f_Mo_rings SM) := by
  obtain ⟨v, tx, T, F, r, U, H, N, B, P, w, hM, hC⟩ := h
  have hN := w.1.1
  have h7 := hN.2.1.2
  have hX := hC.1.1
  unfold f_Co_rings f_Co_rings_b0 f_Mo_rings f_Mo_rings_b0
  obtain ⟨q, eq, hq, hr, -⟩ := hM.cp
  rw [eq, bind_e]
  have hv := hq.1.1.1
  have key : ∃ z, f_Co_rings_l4 SC 5000 0 0 = some z ∧ f_Mo_rings_l8 5000 0 0 q = some (z, q) := by
    refine lpN (P := fun n a => ∀ acc, ∃ z, f_Co_rings_l4 SC n acc (nI a) = some z ∧ f_Mo_rings_l8 n acc (nI a) q = some (z, q)) (nM T) (fun n a ha ih acc => ?_) (fun n acc => ?_) 5000 0 (by omega) (by omega) 0
    · show ∃ z, f_Co_rings_b4 SC (f_Co_rings_l4 SC n) acc (nI a) = some z ∧ f_Mo_rings_b8 (f_Mo_rings_l8 n) acc (nI a) q = some (z, q)
      simp only [f_Co_rings_b4, f_Mo_rings_b8, hX.2.2.2.1, gTx_t hX.2.1, cl hX.tx, hX.1.2.1.1.2.1, hq.1.1.2.1, g2 hv, cl (show v < 4096 by omega), hq.1.1.2.2.1.2.1, hN.2.1.1, if_neg (le_nI (show ¬ nM T ≤ a by omega) (by omega) (by omega)), letS_e, nI_1]
      refine lpN (P := fun m o => ∀ acc, a < o → ∃ z, f_Co_rings_l19 SC (f_Co_rings_l4 SC n) m acc (nI a) (nI o) = some z ∧ f_Mo_rings_l25 (f_Mo_rings_l8 n) m acc (nI a) (nI o) q = some (z, q)) (nM T) (fun m o ho ih2 acc hao => ?_) (fun m acc _ => ?_) 5000 (a + 1) (by omega) (by omega) acc (by omega)
      · show ∃ z, f_Co_rings_b19 SC (f_Co_rings_l4 SC n) (f_Co_rings_l19 SC (f_Co_rings_l4 SC n) m) acc (nI a) (nI o) = some z ∧ f_Mo_rings_b25 (f_Mo_rings_l8 n) (f_Mo_rings_l25 (f_Mo_rings_l8 n) m) acc (nI a) (nI o) q = some (z, q)
        simp only [f_Co_rings_b19, f_Mo_rings_b25, hX.2.2.2.1, gTx_t hX.2.1, cl hX.tx, hX.1.2.1.1.2.1, hq.1.1.2.1, g2 hv, cl (show v < 4096 by omega), hq.1.1.2.2.1.2.1, hN.2.1.1, if_neg (le_nI (show ¬ nM T ≤ o by omega) (by omega) (by omega)), Mo_shared hN w.2.1.1 hq.1.1 hr ha ho (show a ≠ o by omega), Pe_sharedByTwo hN w.2.1.1 hX.1.2.1 hC.2.1 ha ho (show a ≠ o by omega), bind_e, nI_1]
        by_cases z : shN T r a o ≤ 0
        · rw [if_pos z, if_pos z]; exact ih2 _ (by omega)
        · rw [if_neg z, if_neg z]; exact ih2 _ (by omega)
      · show ∃ z, f_Co_rings_b19 SC (f_Co_rings_l4 SC n) (f_Co_rings_l19 SC (f_Co_rings_l4 SC n) m) acc (nI a) (nI (nM T)) = some z ∧ f_Mo_rings_b25 (f_Mo_rings_l8 n) (f_Mo_rings_l25 (f_Mo_rings_l8 n) m) acc (nI a) (nI (nM T)) q = some (z, q)
        simp only [f_Co_rings_b19, f_Mo_rings_b25, hX.2.2.2.1, gTx_t hX.2.1, cl hX.tx, hX.1.2.1.1.2.1, hq.1.1.2.1, g2 hv, cl (show v < 4096 by omega), hq.1.1.2.2.1.2.1, hN.2.1.1, if_pos (le_rf _), nI_1]
        exact ih acc
    · refine ⟨acc, ?_, ?_⟩
      · show f_Co_rings_b4 SC (f_Co_rings_l4 SC n) acc (nI (nM T)) = some acc
        simp only [f_Co_rings_b4, hX.2.2.2.1, gTx_t hX.2.1, cl hX.tx, hX.1.2.1.1.2.1, hN.2.1.1, if_pos (le_rf _)]
      · show f_Mo_rings_b8 (f_Mo_rings_l8 n) acc (nI (nM T)) q = some (acc, q)
        simp only [f_Mo_rings_b8, hq.1.1.2.1, g2 hv, cl (show v < 4096 by omega), hq.1.1.2.2.1.2.1, hN.2.1.1, if_pos (le_rf _)]
  obtain ⟨z, k1, k2⟩ := key
  exact SimM.ok w hC k1 (Ok.e k2 ⟨rfl, hq⟩)
