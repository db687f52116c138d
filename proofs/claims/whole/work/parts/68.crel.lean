/-! THE CLASS, what it holds beside text and row. -/
def cR (T : TX) (r : RW) (g : Nat → Int32) : Prop := (g 0 = r 35 ∧ g 1 = r 33 ∧ g 2 = r 34 ∧ g 3 = r 36) ∧ (∀ w, w < nW T → g (4 + w) = r w) ∧ (∀ a, a < nM T → g (8 + a) = r (12 + a) ∧ g (15 + a) = r (19 + a) ∧ g (22 + a) = r (26 + a)) ∧ ∀ s, s < nS T → g (29 + s) = r (4 + s)
def cU (T : TX) (U : UX) (old cnt : Int32) (cells : Nat → Int32) : Prop := ∃ o, o < 40 ∧ old = nI o ∧ cnt = nI U.1 ∧ U.1 ≤ 40 ∧ ∀ i, i < U.1 → cR T (U.2 i) (fun k => cells (37 * ((o + i) % 40) + k))
def cH (T : TX) (H : HX) (b : Int32) (cells : Nat → Int32) : Prop := b = orF (fun s => if H.1 s then bitM s else 0) 3 ∧ ∀ s, s < 3 → H.1 s = true → cR T (H.2 s) (fun k => cells (37 * s + k))
def wordN : List Nat := [456690, 9518, 275358764, 14828, 3374884, 10736326, 67149235, 291420470, 375050, 377761, 3217595, 249, 399641, 107681, 2968, 82528, 16922, 3427, 227147, 4351291, 459818, 12387257]
def cK (k : Nat → Int64) : Prop := ∀ i, i < 22 → k i = lN (wordN.getD i 0)
-- rain: all ways, the first of the best
def rbs (T : TX) : Nat := nW T + 1
/-- the i-th secret of a set -/
def sel (set : Int32) (i : Nat) : Nat := ((List.range 12).find? (fun s => bt set s && popN set s == i)).getD 0
def dgt (T : TX) (k way i : Nat) : Nat := way / rbs T ^ (k - 1 - i) % rbs T
def rbX (T : TX) (r : RW) (set : Int32) (way : Nat) : Nat → Nat × RW
  | 0 => (0, r)
  | i + 1 => if dgt T (popN set 12) way i = 0 ∨ knB T (rbX T r set way i).2 (sel set i) = 0 then rbX T r set way i
    else ((rbX T r set way i).1 + 1, iter (cutR T) (nW T) (upd (rbX T r set way i).2 (4 + sel set i) (nI (dgt T (popN set 12) way i - 1))))
def rbA (T : TX) (r : RW) (set : Int32) (way : Nat) : Nat × RW := rbX T r set way (popN set 12)
def thr (T : TX) (r : RW) : Int32 := sumF (fun a => if bitOf (r 33) a = 1 then r (19 + a) else 0) (nM T)
def rbO (T : TX) (F : LF) (r : RW) (set : Int32) (n way : Nat) : Int32 × Int32 × Int32 :=
  (bits (r 33) - bits (days T F (T 0 6) n (rbA T r set way).2 33), thr T (days T F (T 0 6) n (rbA T r set way).2), nI (rbA T r set way).1)
abbrev rbLt (a b : Int32 × Int32 × Int32) : Prop := if a.1 = b.1 then (if a.2.1 = b.2.1 then a.2.2 < b.2.2 else a.2.1 < b.2.1) else a.1 < b.1
def rbB (T : TX) (F : LF) (r : RW) (set : Int32) (n : Nat) : Nat → Nat × Int32 × Int32 × Int32
  | 0 => (0, rbO T F r set n 0)
  | w + 1 => if rbLt (rbO T F r set n (w + 1)) (rbB T F r set n w).2 then (w + 1, rbO T F r set n (w + 1)) else rbB T F r set n w
def RN (T : TX) (F : LF) (r : RW) (set : Int32) (n : Nat) : Nat × Int32 × Int32 × Int32 := rbB T F r set n (rbs T ^ popN set 12 - 1)
def dig (T : TX) (k way i : Nat) : Int32 := if dgt T k way i = 0 then -3 else nI (dgt T k way i - 1)
def RC (T : TX) (F : LF) (r : RW) (c : Nat → Int32) (b : Nat → Int32) : Prop := c 0 = 0 ∨ (c 0 = 1 ∧ ∃ n, n ≤ 60 ∧ c 9 = nI n ∧ c 1 = (RN T F r (c 8) n).2.1 ∧ c 2 = (RN T F r (c 8) n).2.2.1 ∧ c 3 = (RN T F r (c 8) n).2.2.2 ∧ ∀ i, i < popN (c 8) 12 → b i = dig T (popN (c 8) 12) (RN T F r (c 8) n).1 i)
def CXt (T : TX) (F : LF) (tx : Nat) (S : Mem) : Prop := CX2 T F tx S ∧ (tx = 20 ∨ tx = 30) ∧ S.1 tx 4 = orF (fun s => if T 6 s = 0 then 0 else bitM s) (nS T) ∧ S.1 0 11 = nI tx ∧ S.1 0 12 = nI (50 - tx)
def CR (tx : Nat) (T : TX) (F : LF) (U : UX) (H : HX) (N : NX) (B : BX) (P : Int32) (S : Mem) : Prop := CXt T F tx S ∧ cU T U (S.1 0 14) (S.1 0 15) (S.2.1 10 0) ∧ cH T H (S.1 0 16) (S.2.1 11 0) ∧ mN N (S.1 9 0) (S.2.1 9 1) (S.2.1 9 2) (S.2.1 9 3) ∧ mT B (S.1 1 0) (S.2.1 1 1) ∧ S.1 0 13 = P ∧ cK (S.2.2 1 2)
def COK (tx : Nat) (T : TX) (F : LF) (r : RW) (U : UX) (H : HX) (N : NX) (B : BX) (P : Int32) (S : Mem) : Prop := CR tx T F U H N B P S ∧ CB T r 4 S ∧ CM T r 4 S ∧ RC T F r (S.1 7) (S.2.1 7 4)
theorem CXt.fq {T : TX} {F : LF} {tx st : Nat} {S S' : Mem} (h : CXt T F tx S) (hf : Fq st S S') (hst : st = 4 ∨ st = 5) : CXt T F tx S' := by
  obtain ⟨h1, h2, h3, h4, h5⟩ := h
  refine ⟨h1.fq hf (by omega), h2, ?_, ?_, ?_⟩
  · rw [hf.1 tx (by omega)]; exact h3
  · rw [hf.1 0 (by omega)]; exact h4
  · rw [hf.1 0 (by omega)]; exact h5
theorem CR.fq {tx st : Nat} {T : TX} {F : LF} {U : UX} {H : HX} {N : NX} {B : BX} {P : Int32} {S S' : Mem} (h : CR tx T F U H N B P S) (hf : Fq st S S') (hst : st = 4 ∨ st = 5) : CR tx T F U H N B P S' := by
  obtain ⟨h1, h2, h3, h4, h5, h6, h7⟩ := h
  unfold CR
  rw [hf.1 0 (by omega), hf.1 1 (by omega), hf.1 9 (by omega), hf.2.1 10 0 (by omega) (by omega) (by omega), hf.2.1 11 0 (by omega) (by omega) (by omega), hf.2.1 9 1 (by omega) (by omega) (by omega), hf.2.1 9 2 (by omega) (by omega) (by omega), hf.2.1 9 3 (by omega) (by omega) (by omega), hf.2.1 1 1 (by omega) (by omega) (by omega), hf.2.2]
  exact ⟨h1.fq hf hst, h2, h3, h4, h5, h6, h7⟩
theorem CB.fq5 {T : TX} {r : RW} {S S' : Mem} (h : CB T r 4 S) (hf : Fq 5 S S') : CB T r 4 S' := by
  unfold CB
  rw [hf.1 4 (by omega), hf.2.1 4 4 (by omega) (by omega) (by omega), hf.2.1 4 5 (by omega) (by omega) (by omega), hf.2.1 4 6 (by omega) (by omega) (by omega), hf.2.1 4 7 (by omega) (by omega) (by omega), hf.2.1 4 8 (by omega) (by omega) (by omega)]
  exact h
theorem COK.fq {tx : Nat} {T : TX} {F : LF} {r : RW} {U : UX} {H : HX} {N : NX} {B : BX} {P : Int32} {S S' : Mem} (h : COK tx T F r U H N B P S) (hf : Fq 5 S S') : COK tx T F r U H N B P S' := by
  obtain ⟨h1, h2, h3, h4⟩ := h
  refine ⟨h1.fq hf (by omega), h2.fq5 hf, h3.o (fun f _ _ => hf.2.1 4 f (by omega) (by omega) (by omega)), ?_⟩
  rw [hf.1 7 (by omega), hf.2.1 7 4 (by omega) (by omega) (by omega)]
  exact h4
theorem COK.g {tx : Nat} {T : TX} {F : LF} {r : RW} {U : UX} {H : HX} {N : NX} {B : BX} {P : Int32} {S : Mem} (h : COK tx T F r U H N B P S) : CG T F r tx 4 S := h.1.1.1.g (by decide) h.2.1 h.2.2.1
theorem gTx_t {α : Type} {tx : Nat} {k : Option α} (h : tx = 20 ∨ tx = 30) : gTx (nI tx) k = k := by
  rcases h with rfl | rfl
  · exact if_pos (Or.inl rfl)
  · exact if_pos (Or.inr rfl)
theorem CXt.tx {T : TX} {F : LF} {tx : Nat} {S : Mem} (h : CXt T F tx S) : tx < 4096 := by have := h.2.1; omega
-- behind every change
theorem Co_changed {tx : Nat} {T : TX} {F : LF} {r : RW} {U : UX} {H : HX} {N : NX} {B : BX} {P : Int32} {S : Mem} (hT : TG T F) (hI : RI T r) (h : CR tx T F U H N B P S) (hB : CB T r 4 S) : Ok (fun S' => COK tx T F (iter (cutR T) (nW T) r) U H N B P S') (f_Co_changed S) := by
  have h12 := h.1.2.1
  have hl := h.1.tx
  unfold f_Co_changed f_Co_changed_b0
  rw [h.1.2.2.2.1, gTx_t h12, cl hl]
  refine (CG.meas hT hI h.1.1 (by decide) hB).b (fun q hq => ?_)
  have k1 := h.fq hq.1.fq (Or.inl rfl)
  rw [k1.1.2.2.2.1, gTx_t h12, cl hl]
  refine (St_settle hT.1 (show tx ≠ 4 by omega) h.1.1.1 (by decide) hq.2.2.1 hq.2.2.2.2.1 hq.2.2.2.2.2).b (fun q2 hq2 => ?_)
  have k2 := k1.fq hq2.1 (Or.inl rfl)
  rw [letS_e]
  refine Ok.i ⟨?_, ?_, hq2.2.2.1, Or.inl rfl⟩
  · obtain ⟨⟨⟨c1, c2, c3⟩, c4, c5, c6, c7⟩, a2, a3, a4, a5, a6, a7⟩ := k2
    refine ⟨⟨⟨c1, ?_, c3.lw (fun l h1 h2 => ⟨?_, rfl⟩)⟩, c4, ?_, c6, c7⟩, a2, a3, a4, a5, a6, a7⟩
    · rcases h12 with rfl | rfl <;> exact c2
    · funext k; rw [pI_1, if_neg (by omega)]
    · rcases h12 with rfl | rfl <;> exact c5
  · exact hq2.2.1
