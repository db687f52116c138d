/-! THE SPEC: a text T (counts in T 0: wells, men, secrets, ties, thirst, salt, seed; 1 rock, 2 water, 3 home, 4 want, 5 heavy, 6 false, 7 who know, 8 from, 9 to), a row r (0 water, 4 into, 12 home, 19 thirst, 26 knows, 33 alive, 34 cuts, 35 day, 36 whispers). -/
abbrev TX : Type := Nat → Nat → Int32
abbrev RW : Type := Nat → Int32
def nW (T : TX) : Nat := (T 0 0).toNatClampNeg
def nM (T : TX) : Nat := (T 0 1).toNatClampNeg
def nS (T : TX) : Nat := (T 0 2).toNatClampNeg
def nT (T : TX) : Nat := (T 0 3).toNatClampNeg
def TN (T : TX) : Prop := (T 0 0 = nI (nW T) ∧ nW T ≤ 4) ∧ (T 0 1 = nI (nM T) ∧ nM T ≤ 7) ∧ (T 0 2 = nI (nS T) ∧ nS T ≤ 8) ∧ (T 0 3 = nI (nT T) ∧ nT T ≤ 12)
def kn (T : TX) (r : RW) (s : Nat) : Int32 := orF (fun a => if bitOf (r (26 + a)) s = 1 then bitM a else 0) (nM T)
def knB (T : TX) (r : RW) (s : Nat) : Int32 := bits (kn T r s &&& r 33)
def shr (hv known alive : Int32) : Int32 := if known = 0 then 0 else if known = alive ∧ ¬ alive ≤ 1 then 0 else hv * 10 / known
def wgt (T : TX) (r : RW) (s : Nat) : Int32 := if T 6 s = 0 then shr (T 5 s) (knB T r s) (bits (r 33)) else 0
abbrev isH (T : TX) (r : RW) (s : Nat) : Prop := T 6 s = 0 ∧ ¬ knB T r s ≤ 0 ∧ (knB T r s < bits (r 33) ∨ bits (r 33) = 1)
def dp (T : TX) (r : RW) (w : Nat) : Int32 := T 1 w + sumF (fun s => if r (4 + s) = nI w then wgt T r s else 0) (nS T)
def hld (T : TX) (r : RW) (w : Nat) : Int32 := orF (fun s => if r (4 + s) = nI w ∧ isH T r s then bitM s else 0) (nS T)
def drk (T : TX) (r : RW) (w : Nat) : Int32 := orF (fun a => if bitOf (r 33) a = 1 ∧ r (12 + a) = nI w then bitM a else 0) (nM T)
/-- the reference's memory holds the text T (at the side v that lives) -/
def TV (v : Nat) (T : TX) (S : Mem) : Prop := v < 2 ∧ S.1 0 18 = nI v ∧ (S.2.1 0 24 v = T 0 0 ∧ S.2.1 0 27 v = T 0 1 ∧ S.2.1 0 30 v = T 0 2 ∧ S.2.1 0 34 v = T 0 3) ∧ (S.2.1 0 37 v = T 0 4 ∧ S.2.1 0 38 v = T 0 5 ∧ S.2.1 0 39 v = T 0 6) ∧ (∀ w, w < 4 → S.2.1 0 25 (4 * v + w) = T 1 w ∧ S.2.1 0 26 (4 * v + w) = T 2 w) ∧ (∀ a, a < 7 → S.2.1 0 28 (7 * v + a) = T 3 a ∧ S.2.1 0 29 (7 * v + a) = T 4 a) ∧ (∀ s, s < 8 → S.2.1 0 31 (8 * v + s) = T 5 s ∧ S.2.1 0 32 (8 * v + s) = T 6 s ∧ S.2.1 0 33 (8 * v + s) = T 7 s) ∧ (∀ k, k < 12 → S.2.1 0 35 (12 * v + k) = T 8 k ∧ S.2.1 0 36 (12 * v + k) = T 9 k)
def MR (r : RW) (S : Mem) : Prop := ∀ k, k < 40 → S.2.1 0 57 k = r k
theorem orF_0 {f : Nat → Int32} {j : Nat} (h : f j = 0) : orF f (j + 1) = orF f j := by simp [orF, h]
theorem sumF_0 {f : Nat → Int32} {j : Nat} (h : f j = 0) : sumF f (j + 1) = sumF f j := by simp [sumF, h]
theorem le_nI {a b : Nat} (h : ¬ a ≤ b) (ha : a < 2 ^ 31) (hb : b < 2 ^ 31) : ¬ nI a ≤ nI b := by rw [nI_leI ha hb]; exact h
theorem le_rf (a : Nat) : nI a ≤ nI a := Int32.le_refl _
theorem g2 {α : Type} {v : Nat} {k : Option α} (h : v < 2) : gIn (nI v) 2 k = k := gIn_n h (by decide)
theorem g40 {α : Type} {v : Nat} {k : Option α} (h : v < 40) : gIn (nI v) 40 k = k := gIn_n h (by decide)
theorem g16 {α : Type} {v : Nat} {k : Option α} (h : v < 16) : gIn (nI v) 16 k = k := gIn_n h (by decide)
theorem g8 {α : Type} {v : Nat} {k : Option α} (h : v < 8) : gIn (nI v) 8 k = k := gIn_n h (by decide)
theorem g14 {α : Type} {v : Nat} {k : Option α} (h : v < 14) : gIn (nI v) 14 k = k := gIn_n h (by decide)
theorem g24 {α : Type} {v : Nat} {k : Option α} (h : v < 24) : gIn (nI v) 24 k = k := gIn_n h (by decide)
theorem g7 {α : Type} {v : Nat} {k : Option α} (h : v < 7) : gIn (nI v) 7 k = k := gIn_n h (by decide)
theorem cl {v : Nat} (h : v < 4096) : (nI v).toNatClampNeg = v := nI_clamp (by omega)
