/-! THE PURE LAYER, base: loops, memory, numbers, bits. -/
theorem lq_1 {ρ A : Type} (b : (A → Option ρ) → A → Option ρ) (l : Nat → A → Option ρ) (hl : ∀ n, l (n + 1) = b (l n)) (sa : Nat → A) (N : Nat) (e : Option ρ)
    (hs : ∀ (k : A → Option ρ) (j : Nat), j < N → b k (sa j) = k (sa (j + 1))) (hx : ∀ k : A → Option ρ, b k (sa N) = e) : ∀ (n j : Nat), j ≤ N → N - j < n → l n (sa j) = e := by
  intro n
  induction n with
  | zero => intro j _ h; omega
  | succ n ih =>
    intro j hj hn
    rw [hl]
    rcases Nat.lt_or_ge j N with h | h
    · rw [hs _ j h]
      exact ih (j + 1) (by omega) (by omega)
    · have : j = N := by omega
      subst this
      exact hx _
theorem lq_2 {ρ A B : Type} (b : (A → B → Option ρ) → A → B → Option ρ) (l : Nat → A → B → Option ρ) (hl : ∀ n, l (n + 1) = b (l n)) (sa : Nat → A) (sb : Nat → B) (N : Nat) (e : Option ρ)
    (hs : ∀ (k : A → B → Option ρ) (j : Nat), j < N → b k (sa j) (sb j) = k (sa (j + 1)) (sb (j + 1))) (hx : ∀ k : A → B → Option ρ, b k (sa N) (sb N) = e) (n : Nat) (h : N < n) : l n (sa 0) (sb 0) = e :=
  lq_1 (fun k a => b (fun x y => k (x, y)) a.1 a.2) (fun n a => l n a.1 a.2) (fun n => by funext a; show l (n + 1) a.1 a.2 = _; rw [hl]) (fun j => (sa j, sb j)) N e (fun k j hj => hs _ j hj) (fun k => hx _) n 0 (Nat.zero_le _) (by omega)
theorem lq_3 {ρ A B C : Type} (b : (A → B → C → Option ρ) → A → B → C → Option ρ) (l : Nat → A → B → C → Option ρ) (hl : ∀ n, l (n + 1) = b (l n)) (sa : Nat → A) (sb : Nat → B) (sc : Nat → C) (N : Nat) (e : Option ρ)
    (hs : ∀ (k : A → B → C → Option ρ) (j : Nat), j < N → b k (sa j) (sb j) (sc j) = k (sa (j + 1)) (sb (j + 1)) (sc (j + 1))) (hx : ∀ k : A → B → C → Option ρ, b k (sa N) (sb N) (sc N) = e) (n : Nat) (h : N < n) : l n (sa 0) (sb 0) (sc 0) = e :=
  lq_1 (fun k a => b (fun x y z => k (x, y, z)) a.1 a.2.1 a.2.2) (fun n a => l n a.1 a.2.1 a.2.2) (fun n => by funext a; show l (n + 1) a.1 a.2.1 a.2.2 = _; rw [hl]) (fun j => (sa j, sb j, sc j)) N e (fun k j hj => hs _ j hj) (fun k => hx _) n 0 (Nat.zero_le _) (by omega)
theorem lq_4 {ρ A B C D : Type} (b : (A → B → C → D → Option ρ) → A → B → C → D → Option ρ) (l : Nat → A → B → C → D → Option ρ) (hl : ∀ n, l (n + 1) = b (l n)) (sa : Nat → A) (sb : Nat → B) (sc : Nat → C) (sd : Nat → D) (N : Nat) (e : Option ρ)
    (hs : ∀ (k : A → B → C → D → Option ρ) (j : Nat), j < N → b k (sa j) (sb j) (sc j) (sd j) = k (sa (j + 1)) (sb (j + 1)) (sc (j + 1)) (sd (j + 1))) (hx : ∀ k : A → B → C → D → Option ρ, b k (sa N) (sb N) (sc N) (sd N) = e) (n : Nat) (h : N < n) : l n (sa 0) (sb 0) (sc 0) (sd 0) = e :=
  lq_1 (fun k a => b (fun x y z w => k (x, y, z, w)) a.1 a.2.1 a.2.2.1 a.2.2.2) (fun n a => l n a.1 a.2.1 a.2.2.1 a.2.2.2) (fun n => by funext a; show l (n + 1) a.1 a.2.1 a.2.2.1 a.2.2.2 = _; rw [hl]) (fun j => (sa j, sb j, sc j, sd j)) N e (fun k j hj => hs _ j hj) (fun k => hx _) n 0 (Nat.zero_le _) (by omega)
theorem lq_5 {ρ A B C D E5 : Type} (b : (A → B → C → D → E5 → Option ρ) → A → B → C → D → E5 → Option ρ) (l : Nat → A → B → C → D → E5 → Option ρ) (hl : ∀ n, l (n + 1) = b (l n)) (sa : Nat → A) (sb : Nat → B) (sc : Nat → C) (sd : Nat → D) (se : Nat → E5) (N : Nat) (e : Option ρ)
    (hs : ∀ (k : A → B → C → D → E5 → Option ρ) (j : Nat), j < N → b k (sa j) (sb j) (sc j) (sd j) (se j) = k (sa (j + 1)) (sb (j + 1)) (sc (j + 1)) (sd (j + 1)) (se (j + 1))) (hx : ∀ k : A → B → C → D → E5 → Option ρ, b k (sa N) (sb N) (sc N) (sd N) (se N) = e) (n : Nat) (h : N < n) : l n (sa 0) (sb 0) (sc 0) (sd 0) (se 0) = e :=
  lq_1 (fun k a => b (fun x y z w v => k (x, y, z, w, v)) a.1 a.2.1 a.2.2.1 a.2.2.2.1 a.2.2.2.2) (fun n a => l n a.1 a.2.1 a.2.2.1 a.2.2.2.1 a.2.2.2.2) (fun n => by funext a; show l (n + 1) a.1 a.2.1 a.2.2.1 a.2.2.2.1 a.2.2.2.2 = _; rw [hl]) (fun j => (sa j, sb j, sc j, sd j, se j)) N e (fun k j hj => hs _ j hj) (fun k => hx _) n 0 (Nat.zero_le _) (by omega)
/-- for simp: not by rfl, for else the kernel opens gIn ahead of letS -/
theorem letS_e {α β : Type} (a : α) (k : α → Option β) : letS a k = k a := Eq.trans (Eq.symm (Eq.refl (letS a k))) rfl
theorem bind_e {α β : Type} (a : α) (f : α → Option β) : Option.bind (some a) f = f a := Eq.trans (Eq.symm (Eq.refl (Option.bind (some a) f))) rfl
/-- a loop with an invariant over what it carries beside its numbers -/
theorem li_1 {ρ A : Type} (b : (A → Option ρ) → A → Option ρ) (l : Nat → A → Option ρ) (hl : ∀ n, l (n + 1) = b (l n)) (I : Nat → A → Prop) (N : Nat) (P : Option ρ → Prop)
    (hs : ∀ (k : A → Option ρ) (j : Nat) (a : A), j < N → I j a → ∃ a', I (j + 1) a' ∧ b k a = k a') (hx : ∀ (k : A → Option ρ) (a : A), I N a → P (b k a)) : ∀ (n j : Nat) (a : A), j ≤ N → N - j < n → I j a → P (l n a) := by
  intro n
  induction n with
  | zero => intro j a _ h; omega
  | succ n ih =>
    intro j a hj hn hI
    rw [hl]
    rcases Nat.lt_or_ge j N with h | h
    · obtain ⟨a', h1, h2⟩ := hs (l n) j a h hI
      rw [h2]
      exact ih (j + 1) a' (by omega) (by omega) h1
    · have : j = N := by omega
      subst this
      exact hx _ _ hI
theorem li_2 {ρ A B : Type} (b : (A → B → Option ρ) → A → B → Option ρ) (l : Nat → A → B → Option ρ) (hl : ∀ n, l (n + 1) = b (l n)) (sa : Nat → A) (I : Nat → B → Prop) (N : Nat) (P : Option ρ → Prop)
    (hs : ∀ (k : A → B → Option ρ) (j : Nat) (y : B), j < N → I j y → ∃ y', I (j + 1) y' ∧ b k (sa j) y = k (sa (j + 1)) y') (hx : ∀ (k : A → B → Option ρ) (y : B), I N y → P (b k (sa N) y)) (n : Nat) (h : N < n) (y : B) (h0 : I 0 y) : P (l n (sa 0) y) :=
  li_1 (fun k a => b (fun x y => k (x, y)) a.1 a.2) (fun n a => l n a.1 a.2) (fun n => by funext a; show l (n + 1) a.1 a.2 = _; rw [hl]) (fun j a => a.1 = sa j ∧ I j a.2) N P
    (fun k j a hj ha => by obtain ⟨y', q1, q2⟩ := hs (fun x y => k (x, y)) j a.2 hj ha.2; exact ⟨(sa (j + 1), y'), ⟨rfl, q1⟩, by show b _ a.1 a.2 = _; rw [ha.1, q2]⟩)
    (fun k a ha => by show P (b _ a.1 a.2); rw [ha.1]; exact hx _ _ ha.2) n 0 (sa 0, y) (Nat.zero_le _) (by omega) ⟨rfl, h0⟩
theorem li_3 {ρ A B C : Type} (b : (A → B → C → Option ρ) → A → B → C → Option ρ) (l : Nat → A → B → C → Option ρ) (hl : ∀ n, l (n + 1) = b (l n)) (sa : Nat → A) (sb : Nat → B) (I : Nat → C → Prop) (N : Nat) (P : Option ρ → Prop)
    (hs : ∀ (k : A → B → C → Option ρ) (j : Nat) (y : C), j < N → I j y → ∃ y', I (j + 1) y' ∧ b k (sa j) (sb j) y = k (sa (j + 1)) (sb (j + 1)) y') (hx : ∀ (k : A → B → C → Option ρ) (y : C), I N y → P (b k (sa N) (sb N) y)) (n : Nat) (h : N < n) (y : C) (h0 : I 0 y) : P (l n (sa 0) (sb 0) y) :=
  li_2 (fun k a => b (fun x y => k (x, y)) a.1 a.2) (fun n a => l n a.1 a.2) (fun n => by funext a y; show l (n + 1) a.1 a.2 y = _; rw [hl]) (fun j => (sa j, sb j)) I N P (fun k j y hj hy => hs _ j y hj hy) (fun k y hy => hx _ y hy) n h y h0
theorem li_4 {ρ A B C D : Type} (b : (A → B → C → D → Option ρ) → A → B → C → D → Option ρ) (l : Nat → A → B → C → D → Option ρ) (hl : ∀ n, l (n + 1) = b (l n)) (sa : Nat → A) (sb : Nat → B) (sc : Nat → C) (I : Nat → D → Prop) (N : Nat) (P : Option ρ → Prop)
    (hs : ∀ (k : A → B → C → D → Option ρ) (j : Nat) (y : D), j < N → I j y → ∃ y', I (j + 1) y' ∧ b k (sa j) (sb j) (sc j) y = k (sa (j + 1)) (sb (j + 1)) (sc (j + 1)) y') (hx : ∀ (k : A → B → C → D → Option ρ) (y : D), I N y → P (b k (sa N) (sb N) (sc N) y)) (n : Nat) (h : N < n) (y : D) (h0 : I 0 y) : P (l n (sa 0) (sb 0) (sc 0) y) :=
  li_2 (fun k a => b (fun x y z => k (x, y, z)) a.1 a.2.1 a.2.2) (fun n a => l n a.1 a.2.1 a.2.2) (fun n => by funext a y; show l (n + 1) a.1 a.2.1 a.2.2 y = _; rw [hl]) (fun j => (sa j, sb j, sc j)) I N P (fun k j y hj hy => hs _ j y hj hy) (fun k y hy => hx _ y hy) n h y h0
theorem li_5 {ρ A9 B9 C9 D9 E9 : Type} (b : (A9 → B9 → C9 → D9 → E9 → Option ρ) → A9 → B9 → C9 → D9 → E9 → Option ρ) (l : Nat → A9 → B9 → C9 → D9 → E9 → Option ρ) (hl : ∀ n, l (n + 1) = b (l n)) (s0 : Nat → A9) (s1 : Nat → B9) (s2 : Nat → C9) (s3 : Nat → D9) (I : Nat → E9 → Prop) (N : Nat) (P : Option ρ → Prop)
    (hs : ∀ (k : A9 → B9 → C9 → D9 → E9 → Option ρ) (j : Nat) (y : E9), j < N → I j y → ∃ y', I (j + 1) y' ∧ b k (s0 j) (s1 j) (s2 j) (s3 j) y = k (s0 (j + 1)) (s1 (j + 1)) (s2 (j + 1)) (s3 (j + 1)) y') (hx : ∀ (k : A9 → B9 → C9 → D9 → E9 → Option ρ) (y : E9), I N y → P (b k (s0 N) (s1 N) (s2 N) (s3 N) y)) (n : Nat) (h : N < n) (y : E9) (h0 : I 0 y) : P (l n (s0 0) (s1 0) (s2 0) (s3 0) y) :=
  li_2 (fun k a => b (fun x0 x1 x2 x3 => k (x0, x1, x2, x3)) a.1 a.2.1 a.2.2.1 a.2.2.2) (fun n a => l n a.1 a.2.1 a.2.2.1 a.2.2.2) (fun n => by funext a y; show l (n + 1) a.1 a.2.1 a.2.2.1 a.2.2.2 y = _; rw [hl]) (fun j => (s0 j, s1 j, s2 j, s3 j)) I N P (fun k j y hj hy => hs _ j y hj hy) (fun k y hy => hx _ y hy) n h y h0
theorem li_6 {ρ A9 B9 C9 D9 E9 F9 : Type} (b : (A9 → B9 → C9 → D9 → E9 → F9 → Option ρ) → A9 → B9 → C9 → D9 → E9 → F9 → Option ρ) (l : Nat → A9 → B9 → C9 → D9 → E9 → F9 → Option ρ) (hl : ∀ n, l (n + 1) = b (l n)) (s0 : Nat → A9) (s1 : Nat → B9) (s2 : Nat → C9) (s3 : Nat → D9) (s4 : Nat → E9) (I : Nat → F9 → Prop) (N : Nat) (P : Option ρ → Prop)
    (hs : ∀ (k : A9 → B9 → C9 → D9 → E9 → F9 → Option ρ) (j : Nat) (y : F9), j < N → I j y → ∃ y', I (j + 1) y' ∧ b k (s0 j) (s1 j) (s2 j) (s3 j) (s4 j) y = k (s0 (j + 1)) (s1 (j + 1)) (s2 (j + 1)) (s3 (j + 1)) (s4 (j + 1)) y') (hx : ∀ (k : A9 → B9 → C9 → D9 → E9 → F9 → Option ρ) (y : F9), I N y → P (b k (s0 N) (s1 N) (s2 N) (s3 N) (s4 N) y)) (n : Nat) (h : N < n) (y : F9) (h0 : I 0 y) : P (l n (s0 0) (s1 0) (s2 0) (s3 0) (s4 0) y) :=
  li_2 (fun k a => b (fun x0 x1 x2 x3 x4 => k (x0, x1, x2, x3, x4)) a.1 a.2.1 a.2.2.1 a.2.2.2.1 a.2.2.2.2) (fun n a => l n a.1 a.2.1 a.2.2.1 a.2.2.2.1 a.2.2.2.2) (fun n => by funext a y; show l (n + 1) a.1 a.2.1 a.2.2.1 a.2.2.2.1 a.2.2.2.2 y = _; rw [hl]) (fun j => (s0 j, s1 j, s2 j, s3 j, s4 j)) I N P (fun k j y hj hy => hs _ j y hj hy) (fun k y hy => hx _ y hy) n h y h0
theorem li_7 {ρ A9 B9 C9 D9 E9 F9 G9 : Type} (b : (A9 → B9 → C9 → D9 → E9 → F9 → G9 → Option ρ) → A9 → B9 → C9 → D9 → E9 → F9 → G9 → Option ρ) (l : Nat → A9 → B9 → C9 → D9 → E9 → F9 → G9 → Option ρ) (hl : ∀ n, l (n + 1) = b (l n)) (s0 : Nat → A9) (s1 : Nat → B9) (s2 : Nat → C9) (s3 : Nat → D9) (s4 : Nat → E9) (s5 : Nat → F9) (I : Nat → G9 → Prop) (N : Nat) (P : Option ρ → Prop)
    (hs : ∀ (k : A9 → B9 → C9 → D9 → E9 → F9 → G9 → Option ρ) (j : Nat) (y : G9), j < N → I j y → ∃ y', I (j + 1) y' ∧ b k (s0 j) (s1 j) (s2 j) (s3 j) (s4 j) (s5 j) y = k (s0 (j + 1)) (s1 (j + 1)) (s2 (j + 1)) (s3 (j + 1)) (s4 (j + 1)) (s5 (j + 1)) y') (hx : ∀ (k : A9 → B9 → C9 → D9 → E9 → F9 → G9 → Option ρ) (y : G9), I N y → P (b k (s0 N) (s1 N) (s2 N) (s3 N) (s4 N) (s5 N) y)) (n : Nat) (h : N < n) (y : G9) (h0 : I 0 y) : P (l n (s0 0) (s1 0) (s2 0) (s3 0) (s4 0) (s5 0) y) :=
  li_2 (fun k a => b (fun x0 x1 x2 x3 x4 x5 => k (x0, x1, x2, x3, x4, x5)) a.1 a.2.1 a.2.2.1 a.2.2.2.1 a.2.2.2.2.1 a.2.2.2.2.2) (fun n a => l n a.1 a.2.1 a.2.2.1 a.2.2.2.1 a.2.2.2.2.1 a.2.2.2.2.2) (fun n => by funext a y; show l (n + 1) a.1 a.2.1 a.2.2.1 a.2.2.2.1 a.2.2.2.2.1 a.2.2.2.2.2 y = _; rw [hl]) (fun j => (s0 j, s1 j, s2 j, s3 j, s4 j, s5 j)) I N P (fun k j y hj hy => hs _ j y hj hy) (fun k y hy => hx _ y hy) n h y h0
/-- it goes through, and what comes out has P -/
def Ok {α : Type} (P : α → Prop) (x : Option α) : Prop := ∃ a, x = some a ∧ P a
theorem Ok.i {α : Type} {P : α → Prop} {a : α} (h : P a) : Ok P (some a) := ⟨a, rfl, h⟩
theorem Ok.m {α : Type} {P Q : α → Prop} {x : Option α} (h : Ok P x) (hPQ : ∀ a, P a → Q a) : Ok Q x := by obtain ⟨a, h1, h2⟩ := h; exact ⟨a, h1, hPQ a h2⟩
theorem Ok.b {α β : Type} {P : α → Prop} {Q : β → Prop} {x : Option α} {f : α → Option β} (h : Ok P x) (hf : ∀ a, P a → Ok Q (f a)) : Ok Q (x.bind f) := by obtain ⟨a, rfl, h2⟩ := h; exact hf a h2
-- memory
theorem pI_1 (S : Mem) (o k : Nat) (v : Int32) (o' k' : Nat) : (pI S o k v).1 o' k' = if o' = o ∧ k' = k then v else S.1 o' k' := rfl
theorem pI_2 (S : Mem) (o k : Nat) (v : Int32) : (pI S o k v).2 = S.2 := rfl
theorem pA_1 (S : Mem) (o f : Nat) (g : Nat → Int32) : (pA S o f g).1 = S.1 := rfl
theorem pA_2 (S : Mem) (o f : Nat) (g : Nat → Int32) (o' f' : Nat) : (pA S o f g).2.1 o' f' = if o' = o ∧ f' = f then g else S.2.1 o' f' := rfl
theorem pA_3 (S : Mem) (o f : Nat) (g : Nat → Int32) : (pA S o f g).2.2 = S.2.2 := rfl
theorem pL_1 (S : Mem) (o f : Nat) (g : Nat → Int64) : (pL S o f g).1 = S.1 := rfl
theorem pL_2 (S : Mem) (o f : Nat) (g : Nat → Int64) : (pL S o f g).2.1 = S.2.1 := rfl
theorem pL_3 (S : Mem) (o f : Nat) (g : Nat → Int64) (o' f' : Nat) : (pL S o f g).2.2 o' f' = if o' = o ∧ f' = f then g else S.2.2 o' f' := rfl
theorem sA_1 (S : Mem) (o f : Nat) (i x : Int32) : (sA S o f i x).1 = S.1 := rfl
theorem sA_2 (S : Mem) (o f : Nat) (i x : Int32) (o' f' : Nat) : (sA S o f i x).2.1 o' f' = if o' = o ∧ f' = f then upd (S.2.1 o f) i.toNatClampNeg x else S.2.1 o' f' := rfl
theorem sA_3 (S : Mem) (o f : Nat) (i x : Int32) : (sA S o f i x).2.2 = S.2.2 := rfl
theorem upd_at (f : Nat → Int32) (k : Nat) (x : Int32) (j : Nat) : upd f k x j = if j = k then x else f j := rfl
-- numbers
theorem gIn_n {α : Type} {j n : Nat} {k : Option α} (h : j < n) (hn : n < 2 ^ 31) : gIn (nI j) n k = k := gIn_in (vp_in_nI h hn)
theorem gIn_l {α : Type} (i : Int32) (j : Nat) {n : Nat} {k : Option α} (e : i = nI j) (h : j < n) (hn : n < 2 ^ 31) : gIn i n k = k := by rw [e]; exact gIn_n h hn
theorem iA (c j : Nat) : nI c + nI j = nI (c + j) := nI_add c j
theorem iM (c j : Nat) : nI c * nI j = nI (c * j) := pk_mul c j
theorem n0 : (0 : Int32) = nI 0 := rfl
theorem n1 : (1 : Int32) = nI 1 := rfl
theorem n2 : (2 : Int32) = nI 2 := rfl
theorem n3 : (3 : Int32) = nI 3 := rfl
theorem n4 : (4 : Int32) = nI 4 := rfl
theorem n7 : (7 : Int32) = nI 7 := rfl
theorem n8 : (8 : Int32) = nI 8 := rfl
theorem n12 : (12 : Int32) = nI 12 := rfl
theorem n19 : (19 : Int32) = nI 19 := rfl
theorem n26 : (26 : Int32) = nI 26 := rfl
theorem n33 : (33 : Int32) = nI 33 := rfl
theorem n34 : (34 : Int32) = nI 34 := rfl
theorem n35 : (35 : Int32) = nI 35 := rfl
theorem n36 : (36 : Int32) = nI 36 := rfl
theorem n40 : (40 : Int32) = nI 40 := rfl
theorem ic_33 : (33 : Int32).toNatClampNeg = 33 := by decide
theorem ic_34 : (34 : Int32).toNatClampNeg = 34 := by decide
theorem ic_35 : (35 : Int32).toNatClampNeg = 35 := by decide
theorem ic_36 : (36 : Int32).toNatClampNeg = 36 := by decide
theorem g33 {α : Type} {k : Option α} : gIn 33 40 k = k := gIn_l 33 33 rfl (by decide) (by decide)
theorem g34 {α : Type} {k : Option α} : gIn 34 40 k = k := gIn_l 34 34 rfl (by decide) (by decide)
theorem g35 {α : Type} {k : Option α} : gIn 35 40 k = k := gIn_l 35 35 rfl (by decide) (by decide)
theorem g36 {α : Type} {k : Option α} : gIn 36 40 k = k := gIn_l 36 36 rfl (by decide) (by decide)
theorem a4 (j : Nat) : 4 + nI j = nI (4 + j) := nI_add 4 j
theorem a12 (j : Nat) : 12 + nI j = nI (12 + j) := nI_add 12 j
theorem a19 (j : Nat) : 19 + nI j = nI (19 + j) := nI_add 19 j
theorem a26 (j : Nat) : 26 + nI j = nI (26 + j) := nI_add 26 j
theorem m3 (v j : Nat) : 3 * nI v + nI j = nI (3 * v + j) := by rw [show (3 : Int32) = nI 3 from rfl, pk_mul, nI_add]
theorem m4 (v j : Nat) : 4 * nI v + nI j = nI (4 * v + j) := by rw [show (4 : Int32) = nI 4 from rfl, pk_mul, nI_add]
theorem m7 (v j : Nat) : 7 * nI v + nI j = nI (7 * v + j) := by rw [show (7 : Int32) = nI 7 from rfl, pk_mul, nI_add]
theorem m8 (v j : Nat) : 8 * nI v + nI j = nI (8 * v + j) := by rw [show (8 : Int32) = nI 8 from rfl, pk_mul, nI_add]
theorem m12 (v j : Nat) : 12 * nI v + nI j = nI (12 * v + j) := by rw [show (12 : Int32) = nI 12 from rfl, pk_mul, nI_add]
-- bits
def bitOf (x : Int32) (k : Nat) : Int32 := (x >>> (nI k &&& 31)) &&& 1
def bitM (k : Nat) : Int32 := (1 : Int32) <<< (nI k &&& 31)
def sumF (f : Nat → Int32) : Nat → Int32
  | 0 => 0
  | n + 1 => sumF f n + f n
def orF (f : Nat → Int32) : Nat → Int32
  | 0 => 0
  | n + 1 => orF f n ||| f n
def bits (x : Int32) : Int32 := sumF (fun k => bitOf x k) 12
theorem bit01 (x : Int32) (k : Nat) : bitOf x k = 0 ∨ bitOf x k = 1 := by
  unfold bitOf
  obtain ⟨j, hj, e⟩ := pk_andE (x >>> (nI k &&& 31)) (m := 1) 1 (by decide)
  rw [e]
  rcases (show j = 0 ∨ j = 1 by omega) with rfl | rfl
  · exact Or.inl rfl
  · exact Or.inr rfl
theorem Mo_bits (x : Int32) : f_Mo_bits x = some (bits x) := by
  show f_Mo_bits_l4 5000 x 0 0 = some (bits x)
  refine lq_3 f_Mo_bits_b4 f_Mo_bits_l4 (fun _ => rfl) (fun _ => x) (sumF (fun k => bitOf x k)) nI 12 _ (fun k j hj => ?_) (fun k => ?_) 5000 (by decide)
  · have h : ¬ (12 : Int32) ≤ nI j := by rw [n12, nI_leI (by omega) (by omega)]; omega
    simp only [f_Mo_bits_b4, if_neg h, letS_e, nI_1]
    rfl
  · have h : (12 : Int32) ≤ nI 12 := by decide
    simp only [f_Mo_bits_b4, if_pos h]
    rfl
theorem jbc_two : ∀ a, a < 64 → ∀ b, b < 64 → f_JInt_bitCount (nI (64 * a + b)) = some (bits (nI (64 * a + b))) := by decide +kernel
theorem jbc_small (n : Nat) (h : n < 4096) : f_JInt_bitCount (nI n) = some (bits (nI n)) := by
  have := jbc_two (n / 64) (by omega) (n % 64) (by omega)
  rwa [show 64 * (n / 64) + n % 64 = n by omega] at this
