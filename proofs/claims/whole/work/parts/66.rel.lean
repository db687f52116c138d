/-! THE RELATION: what both hold beside text and row: undone rows U, held rows H, notes N, tape B, place P. -/
abbrev UX : Type := Nat × (Nat → RW)
abbrev HX : Type := (Nat → Bool) × (Nat → RW)
abbrev NX : Type := Nat × (Nat → Nat → Int32)
abbrev BX : Type := Nat × (Nat → Int32)
def mU (U : UX) (c : Int32) (h : Nat → Int32) : Prop := c = nI U.1 ∧ U.1 ≤ 40 ∧ ∀ i, i < U.1 → ∀ k, k < 40 → h (40 * i + k) = U.2 i k
def mH (H : HX) (f h : Nat → Int32) : Prop := ∀ s, s < 3 → f s = (if H.1 s then 1 else 0) ∧ (H.1 s = true → ∀ k, k < 40 → h (40 * s + k) = H.2 s k)
def mN (N : NX) (c : Int32) (a b d : Nat → Int32) : Prop := c = nI N.1 ∧ N.1 ≤ 20 ∧ ∀ i, i < N.1 → a i = N.2 0 i ∧ b i = N.2 1 i ∧ d i = N.2 2 i
def mT (B : BX) (c : Int32) (b : Nat → Int32) : Prop := c = nI B.1 ∧ B.1 ≤ 2000 ∧ ∀ i, i < B.1 → b i = B.2 i
def mW (r : RW) (n : Nat → Int32) : Prop := ∀ k, k < 40 → n k = r k
def keyN : List Nat := [456690, 9518, 275358764, 3217595, 14828, 3374884, 10736326, 67149235, 291420470, 375050, 377761, 249, 399641, 107681, 2968, 82528, 16922, 3427, 227147, 4351291, 459818, 12387257]
def mK (k : Nat → Int64) : Prop := ∀ i, i < 22 → k i = lN (keyN.getD i 0)
def TM (v : Nat) (T : TX) (F : LF) (S : Mem) : Prop := TV v T S ∧ ML F S
def MOK (v : Nat) (T : TX) (F : LF) (r : RW) (U : UX) (H : HX) (N : NX) (B : BX) (P : Int32) (S : Mem) : Prop := TM v T F S ∧ mW r (S.2.1 0 56) ∧ mU U (S.1 0 60) (S.2.1 0 61) ∧ mH H (S.2.1 0 72) (S.2.1 0 73) ∧ mN N (S.1 0 68) (S.2.1 0 69) (S.2.1 0 70) (S.2.1 0 71) ∧ mT B (S.1 0 2) (S.2.1 0 1) ∧ S.1 0 17 = P ∧ mK (S.2.2 0 9)
theorem TM.of {v : Nat} {T : TX} {F : LF} {S S' : Mem} (h : TM v T F S) (e1 : S'.1 0 18 = S.1 0 18) (e2 : ∀ f, 19 ≤ f → f ≤ 52 → S'.2.1 0 f = S.2.1 0 f) : TM v T F S' := by
  obtain ⟨⟨a1, a2, ⟨a3, a4, a5, a6⟩, ⟨a7, a8, a9⟩, a10, a11, a12, a13⟩, hL⟩ := h
  refine ⟨?_, fun S2 k p m hl hk => hL S2 k p m (LwM.tr ⟨e1, fun f i hf => by rw [e2 f (by omega) (by omega)]⟩ hl) hk⟩
  unfold TV
  rw [e1, e2 24 (by omega) (by omega), e2 27 (by omega) (by omega), e2 30 (by omega) (by omega), e2 34 (by omega) (by omega), e2 37 (by omega) (by omega), e2 38 (by omega) (by omega), e2 39 (by omega) (by omega), e2 25 (by omega) (by omega), e2 26 (by omega) (by omega), e2 28 (by omega) (by omega), e2 29 (by omega) (by omega), e2 31 (by omega) (by omega), e2 32 (by omega) (by omega), e2 33 (by omega) (by omega), e2 35 (by omega) (by omega), e2 36 (by omega) (by omega)]
  exact ⟨a1, a2, ⟨a3, a4, a5, a6⟩, ⟨a7, a8, a9⟩, a10, a11, a12, a13⟩
theorem TM.fr {v : Nat} {T : TX} {F : LF} {S S' : Mem} (h : TM v T F S) (hf : Fr S S') : TM v T F S' := ⟨hf.tv h.1, h.2.fr hf⟩
theorem MOK.fr {v : Nat} {T : TX} {F : LF} {r : RW} {U : UX} {H : HX} {N : NX} {B : BX} {P : Int32} {S S' : Mem} (h : MOK v T F r U H N B P S) (hf : Fr S S') : MOK v T F r U H N B P S' := by
  obtain ⟨h1, h2, h3, h4, h5, h6, h7, h8⟩ := h
  refine ⟨h1.fr hf, ?_, ?_, ?_, ?_, ?_, ?_, ?_⟩
  · rw [hf.2.1 56 (by unfold scA; decide)]; exact h2
  · rw [hf.1 60 (by unfold scI; decide), hf.2.1 61 (by unfold scA; decide)]; exact h3
  · rw [hf.2.1 72 (by unfold scA; decide), hf.2.1 73 (by unfold scA; decide)]; exact h4
  · rw [hf.1 68 (by unfold scI; decide), hf.2.1 69 (by unfold scA; decide), hf.2.1 70 (by unfold scA; decide), hf.2.1 71 (by unfold scA; decide)]; exact h5
  · rw [hf.1 2 (by unfold scI; decide), hf.2.1 1 (by unfold scA; decide)]; exact h6
  · rw [hf.1 17 (by unfold scI; decide)]; exact h7
  · rw [hf.2.2]; exact h8
-- memory, once more
theorem sA_p (S : Mem) (o f : Nat) (g : Nat → Int32) (i x : Int32) : sA (pA S o f g) o f i x = pA S o f (upd g i.toNatClampNeg x) := by
  unfold sA
  rw [pA_2, if_pos ⟨rfl, rfl⟩]
  refine Prod.ext rfl (Prod.ext ?_ rfl)
  funext o' f'
  show (if _ then _ else if _ then _ else _) = (if _ then _ else _)
  split <;> rfl
theorem sA_pp (S : Mem) (o f : Nat) (g : Nat → Int32) (k : Nat) (c i x : Int32) : sA (pI (pA S o f g) o k c) o f i x = pI (pA S o f (upd g i.toNatClampNeg x)) o k c := by
  have h : sA (pI (pA S o f g) o k c) o f i x = pI (sA (pA S o f g) o f i x) o k c := rfl
  rw [h, sA_p]
theorem pI_pp (S : Mem) (o k : Nat) (c c' : Int32) : pI (pI S o k c) o k c' = pI S o k c' := by
  refine Prod.ext ?_ rfl
  funext o' k'
  show (if _ then _ else if _ then _ else _) = (if _ then _ else _)
  split <;> rfl
/-- n cells of a from place c on, over b -/
def cpF (c n : Nat) (a b : Nat → Int32) : Nat → Int32 := fun p => if c ≤ p ∧ p < c + n then a (p - c) else b p
theorem cpF_0 (c : Nat) (a b : Nat → Int32) : cpF c 0 a b = b := by funext p; unfold cpF; rw [if_neg (by omega)]
theorem cpF_s (c n : Nat) (a b : Nat → Int32) : upd (cpF c n a b) (c + n) (a n) = cpF c (n + 1) a b := by
  funext p
  rw [upd_at]
  unfold cpF
  by_cases h : p = c + n
  · subst h; rw [if_pos rfl, if_pos (by omega)]; congr 1; omega
  · rw [if_neg h]
    by_cases h2 : c ≤ p ∧ p < c + n
    · rw [if_pos h2, if_pos (by omega)]
    · rw [if_neg h2, if_neg (by omega)]
theorem cpF_in {c n : Nat} {a b : Nat → Int32} {k : Nat} (h : k < n) : cpF c n a b (c + k) = a k := by
  unfold cpF
  rw [if_pos (by omega)]; congr 1; omega
theorem cpF_out {c n : Nat} {a b : Nat → Int32} {p : Nat} (h : p < c ∨ c + n ≤ p) : cpF c n a b p = b p := by
  unfold cpF
  rw [if_neg (by omega)]
theorem pA_self (S : Mem) (o f : Nat) : pA S o f (S.2.1 o f) = S := by
  refine Prod.ext rfl (Prod.ext ?_ rfl)
  funext o' f'
  show (if _ then _ else _) = _
  split
  · rename_i h; rw [h.1, h.2]
  · rfl
theorem le40 {j : Nat} (h : j < 40) : ¬ (40 : Int32) ≤ nI j := by rw [n40, nI_leI (by omega) (by omega)]; omega
theorem le4040 : (40 : Int32) ≤ nI 40 := le_rf 40
theorem rg (x : Int32) {n : Nat} (hn : n < 2 ^ 30) : (∃ j, j < n ∧ x = nI j) ∨ ((∀ j, j < n → x ≠ nI j) ∧ (x < 0 ∨ (¬ x < 0 ∧ nI n ≤ x ∧ ¬ x < nI n))) := by
  by_cases h0 : x < 0
  · refine Or.inr ⟨fun j hj e => ?_, Or.inl h0⟩
    exact nI_pos (show j < 2 ^ 31 by omega) (e ▸ h0)
  · obtain ⟨j, hj, rfl⟩ := nI_of h0
    rcases Nat.lt_or_ge j n with q | q
    · exact Or.inl ⟨j, q, rfl⟩
    · refine Or.inr ⟨fun i hi e => ?_, Or.inr ⟨h0, nI_le q hj, nI_nlt q hj⟩⟩
      have := (nI_eq hj (by omega)).mp e
      omega
-- the reference's rows put away
theorem Mo_keepsRow (S : Mem) : f_Mo_keepsRow S = some (pA S 0 56 (cpF 0 40 (S.2.1 0 57) (S.2.1 0 56))) := by
  have := lq_2 f_Mo_keepsRow_b2 f_Mo_keepsRow_l2 (fun _ => rfl) nI (fun j => pA S 0 56 (cpF 0 j (S.2.1 0 57) (S.2.1 0 56))) 40 (some (pA S 0 56 (cpF 0 40 (S.2.1 0 57) (S.2.1 0 56)))) (fun k j hj => ?_) (fun k => ?_) 5000 (by decide)
  · rw [cpF_0, pA_self] at this; exact this
  · simp only [f_Mo_keepsRow_b2, if_neg (le40 hj), g40 hj, letS_e, nI_1]
    rw [sA_p, cl (by omega)]
    have e := cpF_s 0 j (S.2.1 0 57) (S.2.1 0 56)
    rw [Nat.zero_add] at e
    rw [← e]; rfl
  · simp only [f_Mo_keepsRow_b2, if_pos le4040]
theorem Mo_keeps51 (S : Mem) {u : Nat} (hu : u < 40) (e : S.1 0 60 = nI u) : f_Mo_keeps_l51 5000 0 S = (f_Mo_keepsRow (pI (pA S 0 61 (cpF (40 * u) 40 (S.2.1 0 56) (S.2.1 0 61))) 0 60 (nI (u + 1)))) := by
  have := lq_2 f_Mo_keeps_b51 f_Mo_keeps_l51 (fun _ => rfl) nI (fun j => pA S 0 61 (cpF (40 * u) j (S.2.1 0 56) (S.2.1 0 61))) 40 (f_Mo_keepsRow (pI (pA S 0 61 (cpF (40 * u) 40 (S.2.1 0 56) (S.2.1 0 61))) 0 60 (nI (u + 1)))) (fun k j hj => ?_) (fun k => ?_) 5000 (by decide)
  · rw [cpF_0, pA_self] at this; exact this
  · simp only [f_Mo_keeps_b51, if_neg (le40 hj), g40 hj, letS_e, nI_1, pA_1, e]
    rw [n40, iM, iA, gIn_n (show 40 * u + j < 1600 by omega) (by decide), sA_p, cl (show 40 * u + j < 4096 by omega), cl (show j < 4096 by omega), ← cpF_s]; rfl
  · simp only [f_Mo_keeps_b51, if_pos le4040, letS_e, pA_1, e, nI_1]
    rw [Mo_keepsRow]; rfl
theorem Mo_keeps11 (S : Mem) (e : S.1 0 60 = nI 40) : f_Mo_keeps_l11 5000 0 S = f_Mo_keeps_l51 5000 0 (pI (pA S 0 61 (cpF 0 1560 (fun p => S.2.1 0 61 (p + 40)) (S.2.1 0 61))) 0 60 (nI 39)) := by
  have := lq_2 f_Mo_keeps_b11 f_Mo_keeps_l11 (fun _ => rfl) nI (fun j => pA S 0 61 (cpF 0 j (fun p => S.2.1 0 61 (p + 40)) (S.2.1 0 61))) 1560 (f_Mo_keeps_l51 5000 0 (pI (pA S 0 61 (cpF 0 1560 (fun p => S.2.1 0 61 (p + 40)) (S.2.1 0 61))) 0 60 (nI 39))) (fun k j hj => ?_) (fun k => ?_) 5000 (by decide)
  · rw [cpF_0, pA_self] at this; exact this
  · have q : ¬ (1560 : Int32) ≤ nI j := by rw [show (1560 : Int32) = nI 1560 from rfl, nI_leI (by omega) (by omega)]; omega
    simp only [f_Mo_keeps_b11, if_neg q, letS_e, nI_1, gIn_n (show j < 1600 by omega) (by decide)]
    rw [n40, iA, gIn_n (show j + 40 < 1600 by omega) (by decide), sA_p, cl (show j + 40 < 4096 by omega), cl (show j < 4096 by omega), pA_2, if_pos ⟨rfl, rfl⟩, cpF_out (by omega)]
    have e2 := cpF_s 0 j (fun p => S.2.1 0 61 (p + 40)) (S.2.1 0 61)
    rw [Nat.zero_add] at e2
    rw [← e2]
  · simp only [f_Mo_keeps_b11, if_pos (show (1560 : Int32) ≤ nI 1560 from le_rf 1560), letS_e, pA_1, e, show nI 40 - 1 = nI 39 from nI_pred 39]
def updR (f : Nat → RW) (k : Nat) (x : RW) : Nat → RW := fun i => if i = k then x else f i
def push (U : UX) (r : RW) : UX := if U.1 = 40 then (40, updR (fun i => U.2 (i + 1)) 39 r) else (U.1 + 1, updR U.2 U.1 r)
theorem Mo_keeps {v : Nat} {T : TX} {F : LF} {r r' : RW} {U : UX} {H : HX} {N : NX} {B : BX} {P : Int32} {S : Mem} (h : MOK v T F r U H N B P S) (hr : MR r' S) : Ok (fun S' => MOK v T F r' (push U r) H N B P S' ∧ S'.2.1 0 57 = S.2.1 0 57 ∧ S'.1 0 58 = S.1 0 58) (f_Mo_keeps S) := by
  obtain ⟨h1, h2, ⟨e3, l3, h3⟩, h4, h5, h6, h7, h8⟩ := h
  unfold f_Mo_keeps f_Mo_keeps_b0
  rw [e3]
  by_cases q : U.1 = 40
  · rw [q, if_pos (by rfl), Mo_keeps11 S (by rw [e3, q]), Mo_keeps51 _ (u := 39) (by decide) rfl, Mo_keepsRow]
    refine Ok.i ⟨⟨h1.of rfl (fun f a b => ?_), ?_, ⟨?_, ?_, ?_⟩, h4, h5, h6, h7, h8⟩, rfl, rfl⟩
    · simp only [pA_2, pI_2]
      rw [if_neg (by omega), if_neg (by omega), if_neg (by omega)]
    · intro k hk
      have e := cpF_in (c := 0) (n := 40) (a := S.2.1 0 57) (b := S.2.1 0 56) hk
      rw [Nat.zero_add] at e
      exact e.trans (hr k hk)
    · unfold push; rw [if_pos q]; rfl
    · unfold push; rw [if_pos q]; exact Nat.le_refl 40
    · unfold push; rw [if_pos q]
      intro i hi k hk
      show cpF (40 * 39) 40 (S.2.1 0 56) (cpF 0 1560 (fun p => S.2.1 0 61 (p + 40)) (S.2.1 0 61)) (40 * i + k) = updR (fun i => U.2 (i + 1)) 39 r i k
      unfold updR
      by_cases qi : i = 39
      · rw [qi, cpF_in hk, if_pos rfl]; exact h2 k hk
      · rw [cpF_out (by have : i < 40 := hi; omega), if_neg qi]
        show _ = U.2 (i + 1) k
        rw [← h3 (i + 1) (by have : i < 40 := hi; omega) k hk]
        have e := cpF_in (c := 0) (n := 1560) (a := fun p => S.2.1 0 61 (p + 40)) (b := S.2.1 0 61) (k := 40 * i + k) (by have : i < 40 := hi; omega)
        rw [Nat.zero_add] at e
        rw [e]
        show S.2.1 0 61 (40 * i + k + 40) = _
        rw [show 40 * i + k + 40 = 40 * (i + 1) + k by omega]
  · have qe : ¬ nI U.1 = 40 := fun z => q ((nI_eq (by omega) (by decide)).mp z)
    rw [if_neg qe, Mo_keeps51 S (u := U.1) (by omega) e3, Mo_keepsRow]
    refine Ok.i ⟨⟨h1.of rfl (fun f a b => ?_), ?_, ⟨?_, ?_, ?_⟩, h4, h5, h6, h7, h8⟩, rfl, rfl⟩
    · simp only [pA_2, pI_2]
      rw [if_neg (by omega), if_neg (by omega)]
    · intro k hk
      have e := cpF_in (c := 0) (n := 40) (a := S.2.1 0 57) (b := S.2.1 0 56) hk
      rw [Nat.zero_add] at e
      exact e.trans (hr k hk)
    · unfold push; rw [if_neg q]; rfl
    · unfold push; rw [if_neg q]; show U.1 + 1 ≤ 40; omega
    · unfold push; rw [if_neg q]
      intro i hi k hk
      show cpF (40 * U.1) 40 (S.2.1 0 56) (S.2.1 0 61) (40 * i + k) = updR U.2 U.1 r i k
      unfold updR
      by_cases qi : i = U.1
      · rw [qi, cpF_in hk, if_pos rfl]; exact h2 k hk
      · have : i < U.1 + 1 := hi
        rw [cpF_out (by omega), if_neg qi]; exact h3 i (by omega) k hk
