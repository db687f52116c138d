/-! READ: the reference's tells. Only the side that does not live is written. -/
def frI (k : Nat) : Prop := (11 ≤ k ∧ k ≤ 16) ∨ k = 20 ∨ k = 42 ∨ k = 48 ∨ k = 52
/-- how many cells of an array belong to a side -/
def sdF (f : Nat) : Nat := if f = 24 ∨ f = 27 ∨ f = 30 ∨ f = 34 ∨ f = 37 ∨ f = 38 ∨ f = 39 then 1 else if f = 25 ∨ f = 26 then 4 else if f = 28 ∨ f = 29 then 7 else if f = 31 ∨ f = 32 ∨ f = 33 then 8 else if f = 35 ∨ f = 36 then 12 else if f = 40 ∨ f = 41 then 3 else if 43 ≤ f ∧ f ≤ 47 then 130 else if f = 49 ∨ f = 50 then 420 else 0
def LVm (v : Nat) (S S' : Mem) : Prop := (∀ k, ¬ frI k → S'.1 0 k = S.1 0 k) ∧ (∀ f i, ¬ (f = 22 ∨ f = 23 ∨ f = 51) → (sdF f = 0 ∨ (sdF f * v ≤ i ∧ i < sdF f * v + sdF f)) → S'.2.1 0 f i = S.2.1 0 f i) ∧ ∀ f, f ≠ 21 → S'.2.2 0 f = S.2.2 0 f
theorem LVm.rf (v : Nat) (S : Mem) : LVm v S S := ⟨fun _ _ => rfl, fun _ _ _ _ => rfl, fun _ _ => rfl⟩
theorem LVm.tr {v : Nat} {A B C : Mem} (h1 : LVm v A B) (h2 : LVm v B C) : LVm v A C := ⟨fun k h => (h2.1 k h).trans (h1.1 k h), fun f i a b => (h2.2.1 f i a b).trans (h1.2.1 f i a b), fun f h => (h2.2.2 f h).trans (h1.2.2 f h)⟩
theorem LVm.pf {v : Nat} {S S' : Mem} (h : PF S S') : LVm v S S' := ⟨fun k hk => h.1 k (fun z => hk (by unfold reg at z; unfold frI; omega)), fun f i _ _ => by rw [h.2], fun f _ => by rw [h.2]⟩
theorem LVm.i {v : Nat} {S : Mem} {k : Nat} (hk : frI k) (x : Int32) : LVm v S (pI S 0 k x) := ⟨fun k' h' => by rw [pI_1, if_neg (fun z => h' (by rw [z.2]; exact hk))], fun _ _ _ _ => rfl, fun _ _ => rfl⟩
theorem LVm.w {v : Nat} {S : Mem} {f : Nat} (hf : f = 22 ∨ f = 23 ∨ f = 51) (i x : Int32) : LVm v S (sA S 0 f i x) := ⟨fun _ _ => rfl, fun f' i' a _ => by rw [sA_2, if_neg (fun z => a (by rw [z.2]; exact hf))], fun _ _ => rfl⟩
theorem LVm.l {v : Nat} {S : Mem} (i : Int32) (x : Int64) : LVm v S (sL S 0 21 i x) := ⟨fun _ _ => rfl, fun _ _ _ _ => rfl, fun f hf => by rw [sL_3, if_neg (fun z => hf z.2)]⟩
theorem sdF_b (f : Nat) : sdF f ≤ 420 := by unfold sdF; repeat' split
                                            all_goals omega
theorem LVm.s {v : Nat} {S : Mem} {f i : Nat} (hv : v < 2) (hf : 0 < sdF f) (hi : i < sdF f) (x : Int32) : LVm v S (sA S 0 f (nI (sdF f * (1 - v) + i)) x) := by
  refine ⟨fun _ _ => rfl, fun f' i' a b => ?_, fun _ _ => rfl⟩
  rw [sA_2]
  by_cases q : (0 : Nat) = 0 ∧ f' = f
  · rw [if_pos q]
    have e := q.2
    subst e
    have hb := sdF_b f'
    rw [cl (by rcases (show v = 0 ∨ v = 1 by omega) with rfl | rfl <;> omega), upd_at, if_neg]
    rcases b with b | b
    · omega
    · rcases (show v = 0 ∨ v = 1 by omega) with rfl | rfl <;> omega
  · rw [if_neg q]
/-- what a side holds, as a text -/
def fcT (j : Nat) : Nat := [24, 27, 30, 34, 37, 38, 39].getD j 99
def faT (g : Nat) : Nat := [0, 25, 26, 28, 29, 31, 32, 33, 35, 36].getD g 98
def txM (u : Nat) (S : Mem) : TX := fun g i => if g = 0 then S.2.1 0 (fcT i) u else S.2.1 0 (faT g) (sdF (faT g) * u + i)
def upd2 (T : TX) (g i : Nat) (x : Int32) : TX := fun g' i' => if g' = g ∧ i' = i then x else T g' i'
theorem faT_1 : ∀ g, g ≤ 9 → 1 ≤ g → (∀ g', g' ≤ 9 → faT g' = faT g → g' = g) ∧ (∀ j, j ≤ 6 → fcT j ≠ faT g) ∧ faT g ≠ 98 ∧ faT g ≠ 99 ∧ 0 < sdF (faT g) ∧ sdF (faT g) ≤ 12 := by decide +kernel
theorem fcT_1 : ∀ j, j ≤ 6 → (∀ j', j' ≤ 6 → fcT j' = fcT j → j' = j) ∧ fcT j ≠ 98 ∧ fcT j ≠ 99 ∧ sdF (fcT j) = 1 ∧ ∀ g, g ≤ 9 → faT g ≠ fcT j := by decide +kernel
theorem fcT_o {j : Nat} (h : 6 < j) : fcT j = 99 := by
  unfold fcT; rw [List.getD_eq_getElem?_getD, List.getElem?_eq_none h]; rfl
theorem faT_o {g : Nat} (h : 9 < g) : faT g = 98 := by
  unfold faT; rw [List.getD_eq_getElem?_getD, List.getElem?_eq_none h]; rfl
theorem txM_0 (u : Nat) (S : Mem) (i : Nat) : txM u S 0 i = S.2.1 0 (fcT i) u := if_pos rfl
theorem txM_g (u : Nat) (S : Mem) {g : Nat} (h : ¬ g = 0) (i : Nat) : txM u S g i = S.2.1 0 (faT g) (sdF (faT g) * u + i) := if_neg h
theorem txM_a {u : Nat} {S : Mem} {g i : Nat} (hu : u < 2) (h1 : 1 ≤ g) (h9 : g ≤ 9) (hi : i < 13) (x : Int32) : txM u (sA S 0 (faT g) (nI (sdF (faT g) * u + i)) x) = upd2 (txM u S) g i x := by
  obtain ⟨a1, a2, a3, a4, a5, a6⟩ := faT_1 g h9 h1
  funext g' i'
  have hb : sdF (faT g) * u + i < 4096 := by rcases (show u = 0 ∨ u = 1 by omega) with rfl | rfl <;> omega
  unfold upd2
  by_cases z : g' = 0
  · subst z
    rw [txM_0, txM_0, sA_2, if_neg, if_neg (by omega)]
    intro w
    rcases Nat.lt_or_ge 6 i' with y | y
    · rw [fcT_o y] at w; exact a4 w.2.symm
    · exact a2 i' y w.2
  · rw [txM_g u _ z, txM_g u _ z, sA_2]
    by_cases e : g' = g
    · subst e
      rw [if_pos ⟨rfl, rfl⟩, cl hb, upd_at]
      by_cases y : i' = i
      · rw [if_pos (by omega), if_pos ⟨rfl, y⟩]
      · rw [if_neg (by omega), if_neg (fun w => y w.2)]
    · rw [if_neg, if_neg (fun w => e w.1)]
      intro w
      rcases Nat.lt_or_ge 9 g' with y | y
      · rw [faT_o y] at w; exact a3 w.2.symm
      · exact e (a1 g' y w.2)
theorem txM_c {u : Nat} {S : Mem} {j : Nat} (hu : u < 2) (hj : j ≤ 6) (x : Int32) : txM u (sA S 0 (fcT j) (nI u) x) = upd2 (txM u S) 0 j x := by
  obtain ⟨a1, a2, a3, a4, a5⟩ := fcT_1 j hj
  funext g' i'
  unfold upd2
  by_cases z : g' = 0
  · subst z
    rw [txM_0, txM_0, sA_2]
    by_cases e : i' = j
    · subst e
      rw [if_pos ⟨rfl, rfl⟩, cl (by omega), upd_at, if_pos rfl, if_pos ⟨rfl, rfl⟩]
    · rw [if_neg, if_neg (fun w => e w.2)]
      intro w
      rcases Nat.lt_or_ge 6 i' with y | y
      · rw [fcT_o y] at w; exact a3 w.2.symm
      · exact e (a1 i' y w.2)
  · rw [txM_g u _ z, txM_g u _ z, sA_2, if_neg, if_neg (fun w => z w.1)]
    intro w
    rcases Nat.lt_or_ge 9 g' with y | y
    · rw [faT_o y] at w; exact a2 w.2.symm
    · exact a5 g' y w.2
theorem txM_e {u : Nat} {S S' : Mem} (h : S'.2.1 = S.2.1) : txM u S' = txM u S := by unfold txM; rw [h]
theorem txM_w {u : Nat} {S : Mem} {f : Nat} (h : f = 22 ∨ f = 23 ∨ f = 51 ∨ (40 ≤ f ∧ f ≤ 50)) (i x : Int32) : txM u (sA S 0 f i x) = txM u S := by
  funext g' i'
  by_cases z : g' = 0
  · subst z
    rw [txM_0, txM_0, sA_2, if_neg]
    intro w
    rcases Nat.lt_or_ge 6 i' with y | y
    · rw [fcT_o y] at w; omega
    · have : ∀ j, j ≤ 6 → fcT j ≤ 39 ∧ 24 ≤ fcT j := by decide +kernel
      have := this i' y
      omega
  · rw [txM_g u _ z, txM_g u _ z, sA_2, if_neg]
    intro w
    rcases Nat.lt_or_ge 9 g' with y | y
    · rw [faT_o y] at w; omega
    · have : ∀ j, j ≤ 9 → 1 ≤ j → faT j ≤ 36 ∧ 24 ≤ faT j := by decide +kernel
      have := this g' y (by omega)
      omega
theorem MP.e {pl : Nat → Nat} {Q : Nat} {p : PS} {S S' : Mem} (h : MP pl Q p S) (e : ∀ k, reg k → S'.1 0 k = S.1 0 k) : MP pl Q p S' := by
  unfold MP
  rw [e 11 (by unfold reg; omega), e 13 (by unfold reg; omega), e 14 (by unfold reg; omega), e 15 (by unfold reg; omega), e 16 (by unfold reg; omega)]
  exact h
/-- what is known of the tokens -/
def EV (kd : Nat → Int32) (pl vl : Nat → Nat) (Q : Nat) : Prop := KQ kd Q ∧ KV kd Q ∧ PL pl Q ∧ PB pl Q ∧ (∀ i, i ≤ Q → kd i = 48 → vl i ≤ 9999) ∧ ∀ i, i ≤ Q → kd i = 97 → vl i < 2 ^ 62
def cnM (u : Nat) (c : Nat → Nat) (S : Mem) : Prop := (S.2.1 0 24 u = nI (c 0) ∧ c 0 ≤ 4) ∧ (S.2.1 0 27 u = nI (c 1) ∧ c 1 ≤ 7) ∧ (S.2.1 0 30 u = nI (c 2) ∧ c 2 ≤ 8) ∧ (S.2.1 0 34 u = nI (c 3) ∧ c 3 ≤ 12)
/-- the reference, reading -/
def RQ (kd : Nat → Int32) (pl vl : Nat → Nat) (Q v : Nat) (S0 : Mem) (c : Nat → Nat) (p : PS) (l : NLt) (S : Mem) : Prop := MP pl Q p S ∧ wOk p ∧ MN l S ∧ LVm v S0 S ∧ S.1 0 19 = nI (1 - v) ∧ v < 2 ∧ TK kd pl vl Q S ∧ cnM (1 - v) c S
theorem RQ.pf {kd : Nat → Int32} {pl vl : Nat → Nat} {Q v : Nat} {S0 : Mem} {c : Nat → Nat} {p p' : PS} {l : NLt} {S S' : Mem} (h : RQ kd pl vl Q v S0 c p l S) (hf : PF S S') (hm : MP pl Q p' S') (hw : wOk p') : RQ kd pl vl Q v S0 c p' l S' := by
  obtain ⟨h1, h2, h3, h4, h5, h6, h7, h8⟩ := h
  refine ⟨hm, hw, h3.pf hf, h4.tr (LVm.pf hf), by rw [hf.1 19 (by unfold reg; omega)]; exact h5, h6, h7.pf hf, ?_⟩
  unfold cnM; rw [hf.2]; exact h8
/-- a cell written -/
theorem RQ.a {kd : Nat → Int32} {pl vl : Nat → Nat} {Q v : Nat} {S0 : Mem} {c : Nat → Nat} {p : PS} {l : NLt} {S : Mem} (h : RQ kd pl vl Q v S0 c p l S) {f i : Nat} (hf : 25 ≤ f ∧ f ≤ 39 ∧ f ≠ 27 ∧ f ≠ 30 ∧ f ≠ 34) (hi : i < sdF f) (x : Int32) : RQ kd pl vl Q v S0 c p l (sA S 0 f (nI (sdF f * (1 - v) + i)) x) := by
  obtain ⟨h1, h2, h3, h4, h5, h6, h7, h8⟩ := h
  have hs : 0 < sdF f := by omega
  refine ⟨h1.e (fun _ _ => rfl), h2, ?_, h4.tr (LVm.s h6 hs hi x), h5, h6, fun j hj => ?_, ?_⟩
  · unfold MN
    rw [sA_1, sA_2, if_neg (by omega), sA_2, if_neg (by omega), sA_3]; exact h3
  · rw [sA_2, if_neg (by omega), sA_2, if_neg (by omega), sA_2, if_neg (by omega), sA_3]; exact h7 j hj
  · unfold cnM
    rw [sA_2, if_neg (by omega), sA_2, if_neg (by omega), sA_2, if_neg (by omega), sA_2, if_neg (by omega)]; exact h8
