/-! READ: how a law's sum becomes code. W: what waits (last first); C: what is out (last first); a kind of the class each. -/
abbrev Cd : Type := List (Int32 × Int32)
def yRk (k : Int32) : Nat := if k = 40 then 0 else if k = 43 ∨ k = 45 then 1 else 2
def yPop (x : Nat) : List Int32 → Cd → List Int32 × Cd
  | [], C => ([], C)
  | k :: W, C => if yRk k < x then (k :: W, C) else yPop x W ((k, 0) :: C)
def yOne (k : Int32) (n : Nat) (y : List Int32 × Cd) : List Int32 × Cd :=
  if k = 40 then (40 :: y.1, y.2) else if k = 41 then ((yPop 1 y.1 y.2).1.tail, (yPop 1 y.1 y.2).2) else if k = 42 ∨ k = 47 then (k :: (yPop 2 y.1 y.2).1, (yPop 2 y.1 y.2).2) else if k = 43 ∨ k = 45 then (k :: (yPop 1 y.1 y.2).1, (yPop 1 y.1 y.2).2) else if k = 48 then (y.1, (0, nI n) :: y.2) else (y.1, (1, k - 142) :: y.2)
def yAll (kd : Nat → Int32) (vl : Nat → Nat) (t : Nat) : Nat → List Int32 × Cd
  | 0 => ([], [])
  | n + 1 => yOne (kd (t + n)) (vl (t + n)) (yAll kd vl t n)
/-- the code of a sum from token t to t' -/
def yCode (kd : Nat → Int32) (vl : Nat → Nat) (t t' : Nat) : Cd := (yPop 1 (yAll kd vl t (t' - t)).1 (yAll kd vl t (t' - t)).2).2
/-- an item that joins two -/
abbrev yIs (k : Int32) : Prop := k = 42 ∨ k = 47 ∨ k = 43 ∨ k = 45
def yDep : Cd → Nat
  | [] => 0
  | x :: C => if yIs x.1 then yDep C - 1 else yDep C + 1
/-- every item finds what it needs, and is one that there is -/
def yWf : Cd → Prop
  | [] => True
  | x :: C => yWf C ∧ ((yIs x.1 ∧ x.2 = 0 ∧ 2 ≤ yDep C) ∨ (x.1 = 0 ∧ (∃ n, n ≤ 9999 ∧ x.2 = nI n) ∧ yDep C ≤ 29) ∨ (x.1 = 1 ∧ (∃ n, n < 8 ∧ x.2 = nI n) ∧ yDep C ≤ 29))
/-- how many brackets wait -/
def yPar : List Int32 → Nat
  | [] => 0
  | k :: W => if k = 40 then yPar W + 1 else yPar W
/-- how many joins wait -/
def yOp : List Int32 → Nat
  | [] => 0
  | k :: W => if k = 40 then yOp W else yOp W + 1
def yTop : List Int32 → Nat
  | [] => 0
  | k :: _ => yRk k
/-- of what waits, each is of a higher rank than what is below it, but for brackets -/
def yOk : List Int32 → Prop
  | [] => True
  | k :: W => (k = 40 ∨ (yIs k ∧ yTop W < yRk k)) ∧ yOk W
theorem yRk_b (k : Int32) : yRk k ≤ 2 := by unfold yRk; repeat' split
                                            all_goals omega
theorem yTop_b (W : List Int32) : yTop W ≤ 2 := by
  cases W with
  | nil => exact Nat.zero_le _
  | cons k W => exact yRk_b k
theorem yIs_n {k : Int32} (h : yIs k) : ¬ k = 40 := by
  rintro rfl
  rcases h with h | h | h | h <;> exact absurd h (by decide)
theorem yIs_r {k : Int32} (h : yIs k) : 1 ≤ yRk k := by
  unfold yRk
  rw [if_neg (yIs_n h)]
  split <;> omega
theorem yLen : ∀ W, yOk W → W.length ≤ 3 * yPar W + yTop W
  | [], _ => Nat.zero_le _
  | k :: W, h => by
    have ih := yLen W h.2
    have b := yTop_b W
    rcases h.1 with e | ⟨e, e2⟩
    · subst e
      show W.length + 1 ≤ 3 * (if (40 : Int32) = 40 then yPar W + 1 else yPar W) + yRk 40
      rw [if_pos rfl]
      omega
    · show W.length + 1 ≤ 3 * (if k = 40 then yPar W + 1 else yPar W) + yRk k
      rw [if_neg (yIs_n e)]
      omega
theorem yPO : ∀ W, yPar W + yOp W = W.length
  | [] => rfl
  | k :: W => by
    have := yPO W
    show (if k = 40 then yPar W + 1 else yPar W) + (if k = 40 then yOp W else yOp W + 1) = W.length + 1
    split <;> omega
/-- what popping keeps -/
theorem yPop_k {x : Nat} (hx : 1 ≤ x) : ∀ (W : List Int32) (C : Cd), yOk W → yWf C → yDep C = yOp W + 1 → yOk (yPop x W C).1 ∧ yWf (yPop x W C).2 ∧ yDep (yPop x W C).2 = yOp (yPop x W C).1 + 1 ∧ yPar (yPop x W C).1 = yPar W ∧ (yPop x W C).1.length + (yPop x W C).2.length = W.length + C.length ∧ yTop (yPop x W C).1 < x ∧ yOp (yPop x W C).1 ≤ yOp W
  | [], C, h1, h2, h3 => ⟨h1, h2, h3, rfl, rfl, hx, Nat.le_refl _⟩
  | k :: W, C, h1, h2, h3 => by
    unfold yPop
    by_cases q : yRk k < x
    · rw [if_pos q]; exact ⟨h1, h2, h3, rfl, rfl, q, Nat.le_refl _⟩
    · rw [if_neg q]
      have hk : yIs k := by
        rcases h1.1 with e | e
        · subst e; exact absurd (show yRk 40 < x from hx) q
        · exact e.1
      have hn := yIs_n hk
      have eo : yOp (k :: W) = yOp W + 1 := if_neg hn
      have ep : yPar (k :: W) = yPar W := if_neg hn
      have ed : yDep ((k, 0) :: C) = yDep C - 1 := if_pos hk
      obtain ⟨a1, a2, a3, a4, a5, a6, a7⟩ := yPop_k hx W ((k, 0) :: C) h1.2 ⟨h2, Or.inl ⟨hk, rfl, by omega⟩⟩ (by omega)
      refine ⟨a1, a2, a3, by rw [a4, ep], ?_, a6, by omega⟩
      rw [a5]
      show W.length + (C.length + 1) = W.length + 1 + C.length
      omega
/-- the state of a sum: o brackets not shut, a value due or not -/
def yI (o : Nat) (due : Bool) (y : List Int32 × Cd) : Prop := yOk y.1 ∧ yWf y.2 ∧ yPar y.1 = o ∧ yDep y.2 = yOp y.1 + (if due = true then 0 else 1)
theorem yI.len {o : Nat} {due : Bool} {y : List Int32 × Cd} (h : yI o due y) (ho : o ≤ 6) : y.1.length ≤ 20 := by
  have a := yLen _ h.1
  have b := yTop_b y.1
  have c := h.2.2.1
  omega
theorem yI.dep {o : Nat} {due : Bool} {y : List Int32 × Cd} (h : yI o due y) (ho : o ≤ 6) : yDep y.2 ≤ 21 := by
  have a := h.len ho
  have b := yPO y.1
  have c := h.2.2.2
  split at c <;> omega
theorem yI.opn {o : Nat} {y : List Int32 × Cd} (h : yI o true y) (n : Nat) : yI (o + 1) true (yOne 40 n y) := by
  obtain ⟨h1, h2, h3, h4⟩ := h
  unfold yOne
  rw [if_pos rfl]
  exact ⟨⟨Or.inl rfl, h1⟩, h2, by show (if (40 : Int32) = 40 then yPar y.1 + 1 else _) = _; rw [if_pos rfl, h3], h4⟩
theorem yI.val {o : Nat} {y : List Int32 × Cd} (h : yI o true y) (ho : o ≤ 6) {n : Nat} (hn : n ≤ 9999) : yI o false (yOne 48 n y) := by
  have d := h.dep ho
  obtain ⟨h1, h2, h3, h4⟩ := h
  unfold yOne
  simp only [show ¬ (48 : Int32) = 40 by decide, show ¬ (48 : Int32) = 41 by decide, show ¬ ((48 : Int32) = 42 ∨ (48 : Int32) = 47) by decide, show ¬ ((48 : Int32) = 43 ∨ (48 : Int32) = 45) by decide, if_false, if_true]
  refine ⟨h1, ⟨h2, Or.inr (Or.inl ⟨rfl, ⟨n, hn, rfl⟩, by show yDep y.2 ≤ 29; omega⟩)⟩, h3, ?_⟩
  show (if yIs (0 : Int32) then _ else yDep y.2 + 1) = _
  rw [if_neg (by decide), h4]; rfl
theorem var_n {k : Int32} (h : ¬ k < 142) (h2 : ¬ 149 < k) : ∃ n, n < 8 ∧ k - 142 = nI n ∧ k = nI (142 + n) := by
  have h0 : ¬ k < 0 := fun z => h (by rw [Int32.lt_iff_toInt_lt] at z ⊢; have e1 : (142 : Int32).toInt = 142 := rfl; have e2 : (0 : Int32).toInt = 0 := rfl; omega)
  obtain ⟨j, hj, rfl⟩ := nI_of h0
  have a : 142 ≤ j := Nat.le_of_not_lt (fun z => h (nI_lt (b := 142) z (by decide)))
  have b : j ≤ 149 := Nat.le_of_not_lt (fun z => h2 (nI_lt (a := 149) z (by omega)))
  obtain ⟨i, rfl⟩ : ∃ i, j = 142 + i := ⟨j - 142, by omega⟩
  refine ⟨i, by omega, ?_, rfl⟩
  rw [← nI_add]
  show (142 : Int32) + nI i - 142 = nI i
  rw [Int32.add_comm, Int32.add_sub_cancel]
theorem yI.vari {o : Nat} {y : List Int32 × Cd} (h : yI o true y) (ho : o ≤ 6) {k : Int32} (hk : ¬ k < 142) (hk2 : ¬ 149 < k) (n : Nat) : yI o false (yOne k n y) ∧ yOne k n y = (y.1, (1, k - 142) :: y.2) := by
  have d := h.dep ho
  obtain ⟨h1, h2, h3, h4⟩ := h
  obtain ⟨i, hi, e, e2⟩ := var_n hk hk2
  have ne : ∀ x : Int32, x < 142 → ¬ k = x := fun x hx z => hk (by rw [z]; exact hx)
  have ey : yOne k n y = (y.1, (1, k - 142) :: y.2) := by
    unfold yOne
    rw [if_neg (ne 40 (by decide)), if_neg (ne 41 (by decide)), if_neg (fun z => z.elim (ne 42 (by decide)) (ne 47 (by decide))), if_neg (fun z => z.elim (ne 43 (by decide)) (ne 45 (by decide))), if_neg (ne 48 (by decide))]
  refine ⟨?_, ey⟩
  rw [ey]
  refine ⟨h1, ⟨h2, Or.inr (Or.inr ⟨rfl, ⟨i, hi, e⟩, by show yDep y.2 ≤ 29; omega⟩)⟩, h3, ?_⟩
  show (if yIs (1 : Int32) then _ else yDep y.2 + 1) = _
  rw [if_neg (by decide), h4]; rfl
theorem yI.join {o : Nat} {y : List Int32 × Cd} (h : yI o false y) {k : Int32} (hk : isSn k) (n : Nat) : yI o true (yOne k n y) ∧ yOne k n y = (k :: (yPop (yRk k) y.1 y.2).1, (yPop (yRk k) y.1 y.2).2) ∧ (yPop (yRk k) y.1 y.2).1.length + (yPop (yRk k) y.1 y.2).2.length = y.1.length + y.2.length ∧ yPar (yPop (yRk k) y.1 y.2).1 = o ∧ yOk (yPop (yRk k) y.1 y.2).1 := by
  obtain ⟨h1, h2, h3, h4⟩ := h
  have hy : yIs k := by unfold isSn at hk; unfold yIs; rcases hk with e | e | e | e <;> simp [e]
  have ey : yOne k n y = (k :: (yPop (yRk k) y.1 y.2).1, (yPop (yRk k) y.1 y.2).2) := by
    unfold yOne
    rcases hk with rfl | rfl | rfl | rfl <;> rfl
  obtain ⟨a1, a2, a3, a4, a5, a6, a7⟩ := yPop_k (yIs_r hy) y.1 y.2 h1 h2 h4
  refine ⟨?_, ey, a5, by rw [a4, h3], a1⟩
  rw [ey]
  refine ⟨⟨Or.inr ⟨hy, a6⟩, a1⟩, a2, ?_, ?_⟩
  · show (if k = 40 then _ else yPar (yPop (yRk k) y.1 y.2).1) = o
    rw [if_neg (yIs_n hy), a4, h3]
  · show yDep (yPop (yRk k) y.1 y.2).2 = (if k = 40 then _ else yOp (yPop (yRk k) y.1 y.2).1 + 1) + 0
    rw [if_neg (yIs_n hy), a3]
/-- behind popping all a bracket waits, or nothing -/
theorem yPop_1 {W : List Int32} {C : Cd} (h1 : yOk (yPop 1 W C).1) (h2 : yTop (yPop 1 W C).1 < 1) : (yPop 1 W C).1 = [] ∨ ∃ W', (yPop 1 W C).1 = 40 :: W' := by
  cases e : (yPop 1 W C).1 with
  | nil => exact Or.inl rfl
  | cons k W' =>
    rw [e] at h1 h2
    refine Or.inr ⟨W', ?_⟩
    rcases h1.1 with z | z
    · rw [z]
    · exact absurd (yIs_r z.1) (by have : yRk k < 1 := h2; omega)
theorem yI.shut {o : Nat} {y : List Int32 × Cd} (h : yI (o + 1) false y) (n : Nat) : yI o false (yOne 41 n y) ∧ (∃ W', (yPop 1 y.1 y.2).1 = 40 :: W' ∧ yOne 41 n y = (W', (yPop 1 y.1 y.2).2)) ∧ (yPop 1 y.1 y.2).1.length + (yPop 1 y.1 y.2).2.length = y.1.length + y.2.length := by
  obtain ⟨h1, h2, h3, h4⟩ := h
  obtain ⟨a1, a2, a3, a4, a5, a6, a7⟩ := yPop_k (x := 1) (Nat.le_refl _) y.1 y.2 h1 h2 h4
  have ey : yOne 41 n y = ((yPop 1 y.1 y.2).1.tail, (yPop 1 y.1 y.2).2) := by
    unfold yOne
    rw [if_neg (by decide), if_pos rfl]
  rcases yPop_1 a1 a6 with e | ⟨W', e⟩
  · rw [e] at a4
    have : (0 : Nat) = yPar y.1 := a4
    omega
  · rw [e] at a1 a3 a4
    have e1 : yPar W' + 1 = yPar y.1 := by
      have : (if (40 : Int32) = 40 then yPar W' + 1 else yPar W') = yPar y.1 := a4
      rw [if_pos rfl] at this; exact this
    have e2 : yDep (yPop 1 y.1 y.2).2 = yOp W' + 1 := by
      have : yDep (yPop 1 y.1 y.2).2 = (if (40 : Int32) = 40 then yOp W' else yOp W' + 1) + 1 := a3
      rw [if_pos rfl] at this; exact this
    refine ⟨?_, ⟨W', e, by rw [ey, e]; rfl⟩, a5⟩
    rw [ey, e]
    exact ⟨a1.2, a2, by show yPar W' = o; omega, e2⟩
theorem yI.done {y : List Int32 × Cd} (h : yI 0 false y) : (yPop 1 y.1 y.2).1 = [] ∧ yWf (yPop 1 y.1 y.2).2 ∧ yDep (yPop 1 y.1 y.2).2 = 1 ∧ (yPop 1 y.1 y.2).2.length = y.1.length + y.2.length := by
  obtain ⟨h1, h2, h3, h4⟩ := h
  obtain ⟨a1, a2, a3, a4, a5, a6, a7⟩ := yPop_k (x := 1) (Nat.le_refl _) y.1 y.2 h1 h2 h4
  rcases yPop_1 a1 a6 with e | ⟨W', e⟩
  · rw [e] at a3 a5
    refine ⟨e, a2, a3, ?_⟩
    have : 0 + (yPop 1 y.1 y.2).2.length = y.1.length + y.2.length := a5
    omega
  · rw [e] at a4
    have : (if (40 : Int32) = 40 then yPar W' + 1 else yPar W') = yPar y.1 := a4
    rw [if_pos rfl] at this
    omega
