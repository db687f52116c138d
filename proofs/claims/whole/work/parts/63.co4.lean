/-! THE CLASS: one cell of a state changed; bits of sets. -/
theorem bt_orM {P : Nat → Prop} [DecidablePred P] {n i : Nat} (hn : n ≤ 32) (hi : i < 32) : bt (orF (fun a => if P a then bitM a else 0) n) i = true ↔ i < n ∧ P i := by
  rw [bt_orF]
  constructor
  · rintro ⟨j, h1, h2⟩
    by_cases c : P j
    · rw [if_pos c, bt_bitM (by omega) hi] at h2
      have : i = j := by simpa using h2
      subst this
      exact ⟨h1, c⟩
    · rw [if_neg c, b_0] at h2
      exact absurd h2 (by decide)
  · rintro ⟨h1, h2⟩
    exact ⟨i, h1, by rw [if_pos h2, bt_bitM hi hi]; simp⟩
theorem orM_hi {P : Nat → Prop} [DecidablePred P] {n i : Nat} (hn : n ≤ i) (hi : i < 32) : bt (orF (fun a => if P a then bitM a else 0) n) i = false := by
  cases h : bt (orF (fun a => if P a then bitM a else 0) n) i with
  | false => rfl
  | true => have := (bt_orM (by omega) hi).mp h; omega
theorem hld_12 {T : TX} {r : RW} (hN : TN T) (w : Nat) : ∀ i, 12 ≤ i → i < 32 → bt (hld T r w) i = false := fun i h1 h2 => orM_hi (by have := hN.2.2.1.2; omega) h2
theorem drk_12 {T : TX} {r : RW} (hN : TN T) (w : Nat) : ∀ i, 12 ≤ i → i < 32 → bt (drk T r w) i = false := fun i h1 h2 => orM_hi (by have := hN.2.1.2; omega) h2
theorem kn_12 {T : TX} {r : RW} (hN : TN T) (s : Nat) : ∀ i, 12 ≤ i → i < 32 → bt (kn T r s) i = false := fun i h1 h2 => orM_hi (by have := hN.2.1.2; omega) h2
theorem know_12 {T : TX} {r : RW} (hN : TN T) (hI : RI T r) {a : Nat} (ha : a < nM T) : ∀ i, 12 ≤ i → i < 32 → bt (r (26 + a)) i = false := fun i h1 h2 => hI.2.1 a ha i (by have := hN.2.2.1.2; omega) h2
theorem CB.t {T : TX} {r : RW} {st : Nat} {S : Mem} (hN : TN T) (hB : CB T r st S) {a : Nat} (ha : a < nM T) (x : Int32) : CB T (upd r (19 + a) x) st (sA S st 6 (nI a) x) := by
  have h4 := hN.1.2
  have h7 := hN.2.1.2
  have h8 := hN.2.2.1.2
  obtain ⟨⟨q1, q2, q3, q4⟩, h2, h3, h5⟩ := hB
  have e := cl (show a < 4096 by omega)
  refine ⟨⟨?_, ?_, ?_, ?_⟩, fun v hv => ?_, fun b hb => ⟨?_, ?_, ?_⟩, fun s hs => ?_⟩
  · rw [sA_1, upd_at, if_neg (by omega)]; exact q1
  · rw [sA_1, upd_at, if_neg (by omega)]; exact q2
  · rw [sA_1, upd_at, if_neg (by omega)]; exact q3
  · rw [sA_1, upd_at, if_neg (by omega)]; exact q4
  · rw [sA_2, upd_at, if_neg (by omega), if_neg (by omega)]; exact h2 v hv
  · rw [sA_2, upd_at, if_neg (by omega), if_neg (by omega)]; exact (h3 b hb).1
  · rw [sA_2, if_pos ⟨rfl, rfl⟩, e, upd_at, upd_at]
    by_cases c : b = a
    · rw [if_pos c, if_pos (by omega)]
    · rw [if_neg c, if_neg (by omega)]; exact (h3 b hb).2.1
  · rw [sA_2, upd_at, if_neg (by omega), if_neg (by omega)]; exact (h3 b hb).2.2
  · rw [sA_2, upd_at, if_neg (by omega), if_neg (by omega)]; exact h5 s hs
theorem CB.k {T : TX} {r : RW} {st : Nat} {S : Mem} (hN : TN T) (hB : CB T r st S) {a : Nat} (ha : a < nM T) (x : Int32) : CB T (upd r (26 + a) x) st (sA S st 7 (nI a) x) := by
  have h4 := hN.1.2
  have h7 := hN.2.1.2
  have h8 := hN.2.2.1.2
  obtain ⟨⟨q1, q2, q3, q4⟩, h2, h3, h5⟩ := hB
  have e := cl (show a < 4096 by omega)
  refine ⟨⟨?_, ?_, ?_, ?_⟩, fun v hv => ?_, fun b hb => ⟨?_, ?_, ?_⟩, fun s hs => ?_⟩
  · rw [sA_1, upd_at, if_neg (by omega)]; exact q1
  · rw [sA_1, upd_at, if_neg (by omega)]; exact q2
  · rw [sA_1, upd_at, if_neg (by omega)]; exact q3
  · rw [sA_1, upd_at, if_neg (by omega)]; exact q4
  · rw [sA_2, upd_at, if_neg (by omega), if_neg (by omega)]; exact h2 v hv
  · rw [sA_2, upd_at, if_neg (by omega), if_neg (by omega)]; exact (h3 b hb).1
  · rw [sA_2, upd_at, if_neg (by omega), if_neg (by omega)]; exact (h3 b hb).2.1
  · rw [sA_2, if_pos ⟨rfl, rfl⟩, e, upd_at, upd_at]
    by_cases c : b = a
    · rw [if_pos c, if_pos (by omega)]
    · rw [if_neg c, if_neg (by omega)]; exact (h3 b hb).2.2
  · rw [sA_2, upd_at, if_neg (by omega), if_neg (by omega)]; exact h5 s hs
theorem CB.i {T : TX} {r : RW} {st : Nat} {S : Mem} (hN : TN T) (hB : CB T r st S) {a : Nat} (ha : a < nS T) (x : Int32) : CB T (upd r (4 + a) x) st (sA S st 8 (nI a) x) := by
  have h4 := hN.1.2
  have h7 := hN.2.1.2
  have h8 := hN.2.2.1.2
  obtain ⟨⟨q1, q2, q3, q4⟩, h2, h3, h5⟩ := hB
  have e := cl (show a < 4096 by omega)
  refine ⟨⟨?_, ?_, ?_, ?_⟩, fun v hv => ?_, fun b hb => ⟨?_, ?_, ?_⟩, fun s hs => ?_⟩
  · rw [sA_1, upd_at, if_neg (by omega)]; exact q1
  · rw [sA_1, upd_at, if_neg (by omega)]; exact q2
  · rw [sA_1, upd_at, if_neg (by omega)]; exact q3
  · rw [sA_1, upd_at, if_neg (by omega)]; exact q4
  · rw [sA_2, upd_at, if_neg (by omega), if_neg (by omega)]; exact h2 v hv
  · rw [sA_2, upd_at, if_neg (by omega), if_neg (by omega)]; exact (h3 b hb).1
  · rw [sA_2, upd_at, if_neg (by omega), if_neg (by omega)]; exact (h3 b hb).2.1
  · rw [sA_2, upd_at, if_neg (by omega), if_neg (by omega)]; exact (h3 b hb).2.2
  · rw [sA_2, if_pos ⟨rfl, rfl⟩, e, upd_at, upd_at]
    by_cases c : s = a
    · rw [if_pos c, if_pos (by omega)]
    · rw [if_neg c, if_neg (by omega)]; exact h5 s hs
theorem CB.h {T : TX} {r : RW} {st : Nat} {S : Mem} (hN : TN T) (hB : CB T r st S) {a : Nat} (ha : a < nM T) (x : Int32) : CB T (upd r (12 + a) x) st (sA S st 5 (nI a) x) := by
  have h4 := hN.1.2
  have h7 := hN.2.1.2
  have h8 := hN.2.2.1.2
  obtain ⟨⟨q1, q2, q3, q4⟩, h2, h3, h5⟩ := hB
  have e := cl (show a < 4096 by omega)
  refine ⟨⟨?_, ?_, ?_, ?_⟩, fun v hv => ?_, fun b hb => ⟨?_, ?_, ?_⟩, fun s hs => ?_⟩
  · rw [sA_1, upd_at, if_neg (by omega)]; exact q1
  · rw [sA_1, upd_at, if_neg (by omega)]; exact q2
  · rw [sA_1, upd_at, if_neg (by omega)]; exact q3
  · rw [sA_1, upd_at, if_neg (by omega)]; exact q4
  · rw [sA_2, upd_at, if_neg (by omega), if_neg (by omega)]; exact h2 v hv
  · rw [sA_2, if_pos ⟨rfl, rfl⟩, e, upd_at, upd_at]
    by_cases c : b = a
    · rw [if_pos c, if_pos (by omega)]
    · rw [if_neg c, if_neg (by omega)]; exact (h3 b hb).1
  · rw [sA_2, upd_at, if_neg (by omega), if_neg (by omega)]; exact (h3 b hb).2.1
  · rw [sA_2, upd_at, if_neg (by omega), if_neg (by omega)]; exact (h3 b hb).2.2
  · rw [sA_2, upd_at, if_neg (by omega), if_neg (by omega)]; exact h5 s hs
theorem CB.al {T : TX} {r : RW} {st : Nat} {S : Mem} (hN : TN T) (hB : CB T r st S) (x : Int32) : CB T (upd r 33 x) st (pI S st 1 x) := by
  have h4 := hN.1.2
  have h7 := hN.2.1.2
  have h8 := hN.2.2.1.2
  obtain ⟨⟨q1, q2, q3, q4⟩, h2, h3, h5⟩ := hB
  refine ⟨⟨?_, ?_, ?_, ?_⟩, fun v hv => ?_, fun b hb => ⟨?_, ?_, ?_⟩, fun s hs => ?_⟩
  · rw [pI_1, if_neg (by omega), upd_at, if_neg (by omega)]; exact q1
  · rw [pI_1, if_pos ⟨rfl, rfl⟩, upd_at, if_pos rfl]
  · rw [pI_1, if_neg (by omega), upd_at, if_neg (by omega)]; exact q3
  · rw [pI_1, if_neg (by omega), upd_at, if_neg (by omega)]; exact q4
  · rw [pI_2, upd_at, if_neg (by omega)]; exact h2 v hv
  · rw [pI_2, upd_at, if_neg (by omega)]; exact (h3 b hb).1
  · rw [pI_2, upd_at, if_neg (by omega)]; exact (h3 b hb).2.1
  · rw [pI_2, upd_at, if_neg (by omega)]; exact (h3 b hb).2.2
  · rw [pI_2, upd_at, if_neg (by omega)]; exact h5 s hs
theorem CB.cu {T : TX} {r : RW} {st : Nat} {S : Mem} (hN : TN T) (hB : CB T r st S) (x : Int32) : CB T (upd r 34 x) st (pI S st 2 x) := by
  have h4 := hN.1.2
  have h7 := hN.2.1.2
  have h8 := hN.2.2.1.2
  obtain ⟨⟨q1, q2, q3, q4⟩, h2, h3, h5⟩ := hB
  refine ⟨⟨?_, ?_, ?_, ?_⟩, fun v hv => ?_, fun b hb => ⟨?_, ?_, ?_⟩, fun s hs => ?_⟩
  · rw [pI_1, if_neg (by omega), upd_at, if_neg (by omega)]; exact q1
  · rw [pI_1, if_neg (by omega), upd_at, if_neg (by omega)]; exact q2
  · rw [pI_1, if_pos ⟨rfl, rfl⟩, upd_at, if_pos rfl]
  · rw [pI_1, if_neg (by omega), upd_at, if_neg (by omega)]; exact q4
  · rw [pI_2, upd_at, if_neg (by omega)]; exact h2 v hv
  · rw [pI_2, upd_at, if_neg (by omega)]; exact (h3 b hb).1
  · rw [pI_2, upd_at, if_neg (by omega)]; exact (h3 b hb).2.1
  · rw [pI_2, upd_at, if_neg (by omega)]; exact (h3 b hb).2.2
  · rw [pI_2, upd_at, if_neg (by omega)]; exact h5 s hs
theorem CB.da {T : TX} {r : RW} {st : Nat} {S : Mem} (hN : TN T) (hB : CB T r st S) (x : Int32) : CB T (upd r 35 x) st (pI S st 0 x) := by
  have h4 := hN.1.2
  have h7 := hN.2.1.2
  have h8 := hN.2.2.1.2
  obtain ⟨⟨q1, q2, q3, q4⟩, h2, h3, h5⟩ := hB
  refine ⟨⟨?_, ?_, ?_, ?_⟩, fun v hv => ?_, fun b hb => ⟨?_, ?_, ?_⟩, fun s hs => ?_⟩
  · rw [pI_1, if_pos ⟨rfl, rfl⟩, upd_at, if_pos rfl]
  · rw [pI_1, if_neg (by omega), upd_at, if_neg (by omega)]; exact q2
  · rw [pI_1, if_neg (by omega), upd_at, if_neg (by omega)]; exact q3
  · rw [pI_1, if_neg (by omega), upd_at, if_neg (by omega)]; exact q4
  · rw [pI_2, upd_at, if_neg (by omega)]; exact h2 v hv
  · rw [pI_2, upd_at, if_neg (by omega)]; exact (h3 b hb).1
  · rw [pI_2, upd_at, if_neg (by omega)]; exact (h3 b hb).2.1
  · rw [pI_2, upd_at, if_neg (by omega)]; exact (h3 b hb).2.2
  · rw [pI_2, upd_at, if_neg (by omega)]; exact h5 s hs
theorem CB.wh {T : TX} {r : RW} {st : Nat} {S : Mem} (hN : TN T) (hB : CB T r st S) (x : Int32) : CB T (upd r 36 x) st (pI S st 3 x) := by
  have h4 := hN.1.2
  have h7 := hN.2.1.2
  have h8 := hN.2.2.1.2
  obtain ⟨⟨q1, q2, q3, q4⟩, h2, h3, h5⟩ := hB
  refine ⟨⟨?_, ?_, ?_, ?_⟩, fun v hv => ?_, fun b hb => ⟨?_, ?_, ?_⟩, fun s hs => ?_⟩
  · rw [pI_1, if_neg (by omega), upd_at, if_neg (by omega)]; exact q1
  · rw [pI_1, if_neg (by omega), upd_at, if_neg (by omega)]; exact q2
  · rw [pI_1, if_neg (by omega), upd_at, if_neg (by omega)]; exact q3
  · rw [pI_1, if_pos ⟨rfl, rfl⟩, upd_at, if_pos rfl]
  · rw [pI_2, upd_at, if_neg (by omega)]; exact h2 v hv
  · rw [pI_2, upd_at, if_neg (by omega)]; exact (h3 b hb).1
  · rw [pI_2, upd_at, if_neg (by omega)]; exact (h3 b hb).2.1
  · rw [pI_2, upd_at, if_neg (by omega)]; exact (h3 b hb).2.2
  · rw [pI_2, upd_at, if_neg (by omega)]; exact h5 s hs
theorem CM.s {T : TX} {r : RW} {st : Nat} {S : Mem} (hM : CM T r st S) {f : Nat} (hf : f < 9) (i x : Int32) : CM T r st (sA S st f i x) := hM.o (fun g h1 h2 => by rw [sA_2, if_neg (by omega)])
theorem CM.p {T : TX} {r : RW} {st : Nat} {S : Mem} (hM : CM T r st S) (k : Nat) (x : Int32) : CM T r st (pI S st k x) := hM.o (fun g h1 h2 => rfl)
theorem dSame.t {r : RW} {a : Nat} (h : a < 7) (x : Int32) : dSame r (upd r (19 + a) x) := fun i hi => by rw [upd_at, if_neg (by omega)]
theorem dSame.z {r : RW} {k : Nat} (h : 34 ≤ k) (x : Int32) : dSame r (upd r k x) := fun i hi => by rw [upd_at, if_neg (by omega)]
/-- a law asked writes its stack alone; what asks it writes the variables of Days too -/
def Dk (S S' : Mem) : Prop := S'.1 = S.1 ∧ (∀ o f, ¬ (20 ≤ o ∧ f = 1) → S'.2.1 o f = S.2.1 o f) ∧ S'.2.2 = S.2.2
def Dv (S S' : Mem) : Prop := S'.1 = S.1 ∧ (∀ o f, ¬ (o = 6 ∧ f = 0) → ¬ (20 ≤ o ∧ f = 1) → S'.2.1 o f = S.2.1 o f) ∧ S'.2.2 = S.2.2
theorem Dv.rf (S : Mem) : Dv S S := ⟨rfl, fun _ _ _ _ => rfl, rfl⟩
theorem Dv.tr {A B C : Mem} (h1 : Dv A B) (h2 : Dv B C) : Dv A C := ⟨h2.1.trans h1.1, fun o f a b => (h2.2.1 o f a b).trans (h1.2.1 o f a b), h2.2.2.trans h1.2.2⟩
theorem Dk.dv {S S' : Mem} (h : Dk S S') : Dv S S' := ⟨h.1, fun o f _ b => h.2.1 o f b, h.2.2⟩
theorem Dv.s {S S' : Mem} (h : Dv S S') (i x : Int32) : Dv S (sA S' 6 0 i x) := ⟨h.1, fun o f a b => by rw [sA_2, if_neg a]; exact h.2.1 o f a b, h.2.2⟩
theorem Dv.fq {S S' : Mem} (h : Dv S S') (st : Nat) : Fq st S S' := ⟨fun o _ => by rw [h.1], fun o f _ a b => h.2.1 o f (fun z => a z.1) b, h.2.2⟩
theorem CB.dv {T : TX} {r : RW} {st : Nat} {S S' : Mem} (hB : CB T r st S) (h : Dv S S') (h6 : st < 6) : CB T r st S' := by
  unfold CB
  rw [h.1, h.2.1 st 4 (by omega) (by omega), h.2.1 st 5 (by omega) (by omega), h.2.1 st 6 (by omega) (by omega), h.2.1 st 7 (by omega) (by omega), h.2.1 st 8 (by omega) (by omega)]
  exact hB
theorem CM.dv {T : TX} {r : RW} {st : Nat} {S S' : Mem} (hM : CM T r st S) (h : Dv S S') (h6 : st < 6) : CM T r st S' := hM.o (fun f _ _ => h.2.1 st f (by omega) (by omega))
def LwC (tx : Nat) (S S' : Mem) : Prop := ∀ l, 1 ≤ l → l ≤ 3 → S'.1 (tx + l) = S.1 (tx + l) ∧ S'.2.1 (tx + l) 0 = S.2.1 (tx + l) 0
def LC (F : LF) (tx : Nat) (S : Mem) : Prop := ∀ S2, LwC tx S S2 →
  Ok (fun z : Int32 × Mem => z.1 = aL F 0 (S2.2.1 6 0) 10 999 ∧ Dk S2 z.2) (f_Lw_value (tx + 1) 999 S2) ∧
  Ok (fun z : Int32 × Mem => z.1 = aL F 1 (S2.2.1 6 0) 0 100 ∧ Dk S2 z.2) (f_Lw_value (tx + 2) 100 S2) ∧
  ((F 2 = none ∧ f_Lw_isTold (tx + 3) S2 = some 0) ∨ (f_Lw_isTold (tx + 3) S2 = some 1 ∧ Ok (fun z : Int32 × Mem => (∀ plain, z.1 = aL F 2 (S2.2.1 6 0) plain 99) ∧ Dk S2 z.2) (f_Lw_value (tx + 3) 99 S2)))
theorem Fq.lw {st tx : Nat} {S S' : Mem} (h : Fq st S S') (h20 : 20 ≤ tx) (hst : st < 20) : LwC tx S S' := fun l h1 h2 => ⟨h.1 _ (by omega), h.2.1 _ _ (by omega) (by omega) (by omega)⟩
theorem LwC.tr {tx : Nat} {A B C : Mem} (h1 : LwC tx A B) (h2 : LwC tx B C) : LwC tx A C := fun l a b => ⟨(h2 l a b).1.trans (h1 l a b).1, (h2 l a b).2.trans (h1 l a b).2⟩
theorem LC.lw {F : LF} {tx : Nat} {S S' : Mem} (h : LC F tx S) (hl : LwC tx S S') : LC F tx S' := fun S2 h2 => h S2 (hl.tr h2)
/-- what the text tells of men, wells, numbers -/
def TW (T : TX) : Prop := (∀ a, a < nM T → ∃ v, v ≤ 99 ∧ T 4 a = nI v) ∧ (∀ w, w < nW T → (∃ v, v ≤ 999 ∧ T 1 w = nI v) ∧ ∃ v, v ≤ 999 ∧ T 2 w = nI v) ∧ (∃ v, 1 ≤ v ∧ v ≤ 99 ∧ T 0 4 = nI v) ∧ ∃ v, v ≤ 99 ∧ T 0 5 = nI v
def TG (T : TX) (F : LF) : Prop := TN T ∧ TH T ∧ TE_ok T ∧ TW T ∧ L8 F
/-- the class's memory holds text T with laws F at tx, and row r, measured, at st -/
def CG (T : TX) (F : LF) (r : RW) (tx st : Nat) (S : Mem) : Prop := (20 ≤ tx ∧ st < 6) ∧ CT T tx S ∧ LC F tx S ∧ CB T r st S ∧ CM T r st S
theorem CG.dv {T : TX} {F : LF} {r : RW} {tx st : Nat} {S S' : Mem} (h : CG T F r tx st S) (hv : Dv S S') : CG T F r tx st S' :=
  ⟨h.1, h.2.1.fq (hv.fq st) (by have := h.1; omega) h.1.1, h.2.2.1.lw ((hv.fq st).lw h.1.1 (by have := h.1; omega)), h.2.2.2.1.dv hv h.1.2, h.2.2.2.2.dv hv h.1.2⟩
/-- the text and its laws, over a change of the state -/
def CX2 (T : TX) (F : LF) (tx : Nat) (S : Mem) : Prop := 20 ≤ tx ∧ CT T tx S ∧ LC F tx S
theorem CX2.fq {T : TX} {F : LF} {tx st : Nat} {S S' : Mem} (h : CX2 T F tx S) (hf : Fq st S S') (hst : st < 6) : CX2 T F tx S' := ⟨h.1, h.2.1.fq hf (by have := h.1; omega) h.1, h.2.2.lw (hf.lw h.1 (by omega))⟩
theorem CG.x {T : TX} {F : LF} {r : RW} {tx st : Nat} {S : Mem} (h : CG T F r tx st S) : CX2 T F tx S := ⟨h.1.1, h.2.1, h.2.2.1⟩
theorem CX2.g {T : TX} {F : LF} {r : RW} {tx st : Nat} {S : Mem} (h : CX2 T F tx S) (hst : st < 6) (hB : CB T r st S) (hM : CM T r st S) : CG T F r tx st S := ⟨⟨h.1, hst⟩, h.2.1, h.2.2, hB, hM⟩
theorem v60 (S : Mem) (i x : Int32) (k : Nat) : (sA S 6 0 i x).2.1 6 0 k = if k = i.toNatClampNeg then x else S.2.1 6 0 k := by
  rw [sA_2, if_pos ⟨rfl, rfl⟩, upd_at]
theorem Dy_look {T : TX} {F : LF} {r : RW} {tx st : Nat} {S : Mem} (hN : TN T) (hG : CG T F r tx st S) {w : Nat} (hw : w < nW T) : Ok (fun S' => Dv S S' ∧ S'.2.1 6 0 0 = r 35 ∧ S'.2.1 6 0 1 = dp T r w ∧ S'.2.1 6 0 2 = r w ∧ S'.2.1 6 0 3 = S.2.1 6 0 3 ∧ S'.2.1 6 0 4 = S.2.1 6 0 4 ∧ S'.2.1 6 0 5 = S.2.1 6 0 5 ∧ S'.2.1 6 0 6 = bits (drk T r w) ∧ S'.2.1 6 0 7 = S.2.1 6 0 7) (f_Dy_look st (nI w) S) := by
  have h4 := hN.1.2
  have D1 := (Dv.rf S).s 0 (r 35)
  have D2 := D1.s 1 (dp T r w)
  have D3 := D2.s 2 (r w)
  simp only [f_Dy_look, f_Dy_look_b0, gv0, gv1, gv2, gv6, letS_e, g4 (show w < 4 by omega), cl (show w < 4096 by omega), hG.2.2.2.1.1.1, ((hG.dv D1).2.2.2.2.1 w hw).1, (hG.dv D2).2.2.2.1.2.1 w hw, ((hG.dv D3).2.2.2.2.1 w hw).2.2, bc12 (drk_12 hN w), bind_e]
  refine Ok.i ⟨D3.s 6 _, ?_, ?_, ?_, ?_, ?_, ?_, ?_, ?_⟩ <;> simp [v60, ic_0, ic_1, ic_2, ic_6]
theorem Dy_fillsNow {T : TX} {F : LF} {r : RW} {tx st : Nat} {S : Mem} (hT : TG T F) (hG : CG T F r tx st S) {w : Nat} (hw : w < nW T) : Ok (fun z : Int32 × Mem => z.1 = FL T F r w ∧ Dv S z.2) (f_Dy_fillsNow tx st (nI w) S) := by
  have hN := hT.1
  have h4 := hN.1.2
  have D1 := (Dv.rf S).s 3 0
  have D4 := ((D1.s 4 (bits (hld T r w))).s 5 0).s 7 (nI w)
  simp only [f_Dy_fillsNow, f_Dy_fillsNow_b0, gv3, gv4, gv5, gv7, letS_e, g4 (show w < 4 by omega), cl (show w < 4096 by omega), ((hG.dv D1).2.2.2.2.1 w hw).2.1, bc12 (hld_12 hN w), bind_e]
  refine (Dy_look hN (hG.dv D4) hw).b (fun S1 h1 => ?_)
  obtain ⟨hD, e0, e1, e2, e3, e4, e5, e6, e7⟩ := h1
  have D5 := D4.tr hD
  refine ((hG.dv D5).2.2.1 S1 (fun l _ _ => ⟨rfl, rfl⟩)).1.b (fun z hz => Ok.i ⟨?_, D5.tr hz.2.dv⟩)
  refine hz.1.trans (aL_8 hT.2.2.2.2 (lt8 ?_ ?_ ?_ ?_ ?_ ?_ ?_ ?_) 10 999) <;> simp [var8, v60, e0, e1, e2, e3, e4, e5, e6, e7, ic_3, ic_4, ic_5, ic_7]
theorem hel_id {v most : Nat} (h : v ≤ most) (hm : most < 2 ^ 31) : hel (nI v) (nI most) = nI v := by
  unfold hel
  rw [if_pos (nI_pos' (by omega)), if_pos (nI_le h hm)]
theorem Dy_drinksNow {T : TX} {F : LF} {r : RW} {tx st : Nat} {S : Mem} (hT : TG T F) (hI : RI T r) (hG : CG T F r tx st S) {a : Nat} (ha : a < nM T) : Ok (fun z : Int32 × Mem => z.1 = DR T F r a ∧ Dv S z.2) (f_Dy_drinksNow tx st (nI a) S) := by
  have hN := hT.1
  have h4 := hN.1.2
  have h7 := hN.2.1.2
  unfold f_Dy_drinksNow f_Dy_drinksNow_b0
  rcases (hG.2.2.1 S (fun l _ _ => ⟨rfl, rfl⟩)).2.2 with ⟨hF, e⟩ | ⟨e, -⟩
  · simp only [e, bind_e, if_true, g7 (show a < 7 by omega), cl (show a < 4096 by omega), (hG.2.1.2.2.2.2.1 a ha).2.1]
    refine Ok.i ⟨?_, Dv.rf S⟩
    obtain ⟨v, hv, ev⟩ := hT.2.2.2.1.1 a ha
    unfold DR aL
    rw [hF, ev]
    exact (hel_id hv (by decide)).symm
  · obtain ⟨hh, eh⟩ := hI.2.2.2.2 a ha
    have D1 := (Dv.rf S).s 3 (r (19 + a))
    have D4 := ((D1.s 4 (bits (r (26 + a)))).s 5 0).s 7 (nI a)
    have e5 := ((hG.dv D4).2.2.2.1.2.2.1 a ha).1.trans eh
    simp only [e, bind_e, if_neg (show ¬ (1 : Int32) = 0 by decide), g7 (show a < 7 by omega), cl (show a < 4096 by omega), gv3, gv4, gv5, gv7, letS_e, (hG.2.2.2.1.2.2.1 a ha).2.1, ((hG.dv D1).2.2.2.1.2.2.1 a ha).2.2, bc12 (know_12 hN hI ha), e5]
    refine (Dy_look hN (hG.dv D4) hh).b (fun S1 h1 => ?_)
    obtain ⟨hD, e0, e1, e2, e3, e4, e5, e6, e7⟩ := h1
    have D5 := D4.tr hD
    rcases ((hG.dv D5).2.2.1 S1 (fun l _ _ => ⟨rfl, rfl⟩)).2.2 with ⟨hF, e'⟩ | ⟨-, hz⟩
    · have ee : f_Lw_isTold (tx + 3) S1 = f_Lw_isTold (tx + 3) S := by unfold f_Lw_isTold f_Lw_isTold_b0; rw [D5.1]
      rw [ee, e] at e'
      exact absurd e' (by decide)
    · refine hz.b (fun z hz => Ok.i ⟨?_, D5.tr hz.2.dv⟩)
      refine (hz.1 (T 4 a)).trans (aL_8 hT.2.2.2.2 (lt8 ?_ ?_ ?_ ?_ ?_ ?_ ?_ ?_) (T 4 a) 99) <;> simp [var8, v60, e0, e1, e2, e3, e4, e5, e6, e7, ic_3, ic_4, ic_5, ic_7]
theorem Dy_tellsNow {T : TX} {F : LF} {r : RW} {tx st : Nat} {S : Mem} (hT : TG T F) (hI : RI T r) (hG : CG T F r tx st S) {t s : Nat} (ht : t < nT T) (hs : s < nS T) : Ok (fun z : Int32 × Mem => z.1 = TE T F r t s ∧ Dv S z.2) (f_Dy_tellsNow tx st (nI t) (nI s) S) := by
  have hN := hT.1
  have h4 := hN.1.2
  have h7 := hN.2.1.2
  have h8 := hN.2.2.1.2
  have h12 := hN.2.2.2.2
  obtain ⟨hf, ef, -⟩ := hT.2.2.1 t ht
  have e15 := (hG.2.1.2.2.2.2.2.2 t ht).1.trans ef
  obtain ⟨a, ea⟩ : ∃ a, fm T t = a := ⟨_, rfl⟩
  unfold TE
  rw [ea] at hf e15 ⊢
  obtain ⟨hh, eh⟩ := hI.2.2.2.2 a hf
  have D1 := (Dv.rf S).s 3 (r (19 + a))
  have D2 := D1.s 4 (bits (r (26 + a)))
  have D4 := (D2.s 5 (T 5 s)).s 7 (nI t)
  have e5 := ((hG.dv D4).2.2.2.1.2.2.1 a hf).1.trans eh
  simp only [f_Dy_tellsNow, f_Dy_tellsNow_b0, g12 (show t < 12 by omega), cl (show t < 4096 by omega), e15, g7 (show a < 7 by omega), cl (show a < 4096 by omega), gv3, gv4, gv5, gv7, letS_e, (hG.2.2.2.1.2.2.1 a hf).2.1, ((hG.dv D1).2.2.2.1.2.2.1 a hf).2.2, bc12 (know_12 hN hI hf), bind_e, g8 (show s < 8 by omega), cl (show s < 4096 by omega), ((hG.dv D2).2.1.2.2.2.2.2.1 s hs).1, e5]
  refine (Dy_look hN (hG.dv D4) hh).b (fun S1 h1 => ?_)
  obtain ⟨hD, e0, e1, e2, e3, e4, e5, e6, e7⟩ := h1
  have D5 := D4.tr hD
  refine ((hG.dv D5).2.2.1 S1 (fun l _ _ => ⟨rfl, rfl⟩)).2.1.b (fun z hz => Ok.i ⟨?_, D5.tr hz.2.dv⟩)
  refine hz.1.trans (aL_8 hT.2.2.2.2 (lt8 ?_ ?_ ?_ ?_ ?_ ?_ ?_ ?_) 0 100) <;> simp [var8, v60, e0, e1, e2, e3, e4, e5, e6, e7, ic_3, ic_4, ic_5, ic_7]
