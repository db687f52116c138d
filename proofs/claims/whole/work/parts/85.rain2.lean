/-! RAIN: ways, and which need not be gone. -/
theorem popN_st {x : Int32} {s : Nat} (hb : bt x s = true) : ∀ n, s < n → popN x s + 1 ≤ popN x n
  | 0, h => by omega
  | n + 1, h => by
    simp only [popN]
    rcases Nat.lt_or_ge s n with q | q
    · have := popN_st hb n q; omega
    · have : s = n := by omega
      subst this; rw [if_pos hb]; omega
theorem popN_up (x : Int32) {s : Nat} : ∀ n, s ≤ n → popN x s ≤ popN x n
  | 0, h => by have : s = 0 := by omega
               subst this; exact Nat.le_refl _
  | n + 1, h => by
    rcases Nat.lt_or_ge s (n + 1) with q | q
    · have := popN_up x n (show s ≤ n by omega)
      simp only [popN]; omega
    · have : s = n + 1 := by omega
      subst this; exact Nat.le_refl _
theorem popN_ex {x : Int32} {i : Nat} : ∀ n, i < popN x n → ∃ s, s < n ∧ bt x s = true ∧ popN x s = i
  | 0, h => absurd h (Nat.not_lt_zero _)
  | n + 1, h => by
    by_cases q : i < popN x n
    · obtain ⟨s, h1, h2⟩ := popN_ex n q
      exact ⟨s, by omega, h2⟩
    · simp only [popN] at h
      by_cases hb : bt x n = true
      · rw [if_pos hb] at h
        exact ⟨n, by omega, hb, by omega⟩
      · rw [if_neg hb] at h; omega
theorem sel_at {set : Int32} {s : Nat} (hs : s < 12) (hb : bt set s = true) : sel set (popN set s) = s := by
  unfold sel
  cases hf : (List.range 12).find? (fun u => bt set u && popN set u == popN set s) with
  | none =>
    have := List.find?_eq_none.mp hf s (List.mem_range.mpr hs)
    simp [hb] at this
  | some u =>
    have h1 := List.find?_some hf
    simp only [Bool.and_eq_true, beq_iff_eq] at h1
    show u = s
    rcases Nat.lt_trichotomy u s with q | q | q
    · have := popN_st h1.1 s q; omega
    · exact q
    · have := popN_st hb u q; omega
theorem sel_ok {set : Int32} {i : Nat} (hi : i < popN set 12) : sel set i < 12 ∧ bt set (sel set i) = true ∧ popN set (sel set i) = i := by
  obtain ⟨s, h1, h2, h3⟩ := popN_ex 12 hi
  have := sel_at h1 h2
  rw [h3] at this
  rw [this]
  exact ⟨h1, h2, h3⟩
theorem sel_ne {set : Int32} {i j : Nat} (hi : i < popN set 12) (hj : j < popN set 12) (h : i ≠ j) : sel set i ≠ sel set j := fun e => h (by rw [← (sel_ok hi).2.2, ← (sel_ok hj).2.2, e])
/-- a set of at most four secrets -/
def StK (T : TX) (set : Int32) : Prop := (∀ i, nS T ≤ i → i < 32 → bt set i = false) ∧ popN set 12 ≤ 4
theorem StK.se {T : TX} {set : Int32} (h : StK T set) {i : Nat} (hi : i < popN set 12) : sel set i < nS T := by
  have k := sel_ok hi
  rcases Nat.lt_or_ge (sel set i) (nS T) with q | q
  · exact q
  · have := h.1 _ q (by omega)
    rw [k.2.1] at this; exact absurd this (by decide)
theorem dgt_lt {T : TX} (k way i : Nat) : dgt T k way i < rbs T := Nat.mod_lt _ (by unfold rbs; omega)
theorem dgt_w {T : TX} {k way i : Nat} (h : ¬ dgt T k way i = 0) : dgt T k way i - 1 < nW T := by have := dgt_lt (T := T) k way i; unfold rbs at this; omega
theorem dig_t : ∀ B, B < 6 → ∀ K, K < 5 → ∀ x, x < B ^ K → ∀ i, i < K → (x / B ^ (K - 1 - i) % B = 0 ∨ x - (x / B ^ (K - 1 - i) % B) * B ^ (K - 1 - i) < x) ∧ ∀ j, j < K → (x - (x / B ^ (K - 1 - i) % B) * B ^ (K - 1 - i)) / B ^ (K - 1 - j) % B = if j = i then 0 else x / B ^ (K - 1 - j) % B := by decide +kernel
theorem rbX_ok {T : TX} {F : LF} {r : RW} {set : Int32} {way : Nat} (hT : TG T F) (hG : GR T r) (hS : StK T set) : ∀ i, i ≤ popN set 12 → GR T (rbX T r set way i).2 ∧ (∀ k, 12 ≤ k → (rbX T r set way i).2 k = r k) ∧ (∀ s, s < 8 → (∀ j, j < i → sel set j ≠ s) → (rbX T r set way i).2 (4 + s) = r (4 + s)) ∧ (rbX T r set way i).1 ≤ i
  | 0, _ => ⟨hG, fun _ _ => rfl, fun _ _ _ => rfl, Nat.le_refl _⟩
  | i + 1, hi => by
    have hN := hT.1
    have h4 := hN.1.2
    have h8 := hN.2.2.1.2
    obtain ⟨k1, k2, k3, k4⟩ := rbX_ok (way := way) hT hG hS i (by omega)
    unfold rbX
    by_cases q : dgt T (popN set 12) way i = 0 ∨ knB T (rbX T r set way i).2 (sel set i) = 0
    · rw [if_pos q]
      exact ⟨k1, k2, fun s hs hj => k3 s hs (fun j hj' => hj j (by omega)), by omega⟩
    · rw [if_neg q]
      have q1 : ¬ dgt T (popN set 12) way i = 0 := fun z => q (Or.inl z)
      have hs := hS.se (show i < popN set 12 by omega)
      have hw := dgt_w q1
      have e : ∀ k, k < 4 ∨ 12 ≤ k → upd (rbX T r set way i).2 (4 + sel set i) (nI (dgt T (popN set 12) way i - 1)) k = (rbX T r set way i).2 k := fun k hk => by rw [upd_at, if_neg (by omega)]
      have g := GR.cut hT (k1.1.i hN hs hw) (k1.2.1.o (fun k hk => e k (by omega))) (k1.2.2.2.o (fun k hk => e k (by omega)) hN.2.1.2)
      have ec : ∀ k, 4 ≤ k → ∀ q : RW, iter (cutR T) (nW T) q k = q k := fun k hk q => iter_ind (α := RW) (f := cutR T) (P := fun z : RW => z k = q k) _ _ rfl (fun j a hj ha => (cutR_o (by omega)).trans ha)
      refine ⟨g, fun k hk => ?_, fun s hs' hj => ?_, by show (rbX T r set way i).1 + 1 ≤ i + 1; omega⟩
      · show iter (cutR T) (nW T) _ k = r k
        rw [ec k (by omega), e k (by omega)]; exact k2 k hk
      · show iter (cutR T) (nW T) _ (4 + s) = r (4 + s)
        have := hj i (by omega)
        rw [ec _ (by omega), upd_at, if_neg (by omega)]
        exact k3 s hs' (fun j hj' => hj j (by omega))
theorem rbX_kn {T : TX} {F : LF} {r : RW} {set : Int32} {way : Nat} (hT : TG T F) (hG : GR T r) (hS : StK T set) {i : Nat} (hi : i ≤ popN set 12) (s : Nat) : knB T (rbX T r set way i).2 s = knB T r s := by
  have k := (rbX_ok (way := way) hT hG hS i hi).2.1
  have e : kn T (rbX T r set way i).2 s = kn T r s := orF_c _ (fun j hj => by rw [k (26 + j) (by omega)])
  unfold knB
  rw [e, k 33 (by omega)]
abbrev useP (T : TX) (r : RW) (s d : Nat) : Prop := ¬ knB T r s = 0 ∧ T 6 s = 0 ∧ ¬ r (4 + s) = nI d
abbrev ladP (T : TX) (r : RW) (set : Int32) (way : Nat) : Prop := ∀ i, i < popN set 12 → dgt T (popN set 12) way i = 0 ∨ useP T r (sel set i) (dgt T (popN set 12) way i - 1)
theorem rbLt_i (a b : Int32 × Int32 × Int32) : rbLt a b ↔ (a.1.toInt < b.1.toInt ∨ (a.1.toInt = b.1.toInt ∧ (a.2.1.toInt < b.2.1.toInt ∨ (a.2.1.toInt = b.2.1.toInt ∧ a.2.2.toInt < b.2.2.toInt)))) := by
  unfold rbLt
  have i1 : a.1 = b.1 ↔ a.1.toInt = b.1.toInt := Int32.toInt_inj.symm
  have i2 : a.2.1 = b.2.1 ↔ a.2.1.toInt = b.2.1.toInt := Int32.toInt_inj.symm
  by_cases q1 : a.1 = b.1
  · rw [if_pos q1]
    by_cases q2 : a.2.1 = b.2.1
    · rw [if_pos q2, Int32.lt_iff_toInt_lt]
      have := i1.mp q1; have := i2.mp q2; omega
    · rw [if_neg q2, Int32.lt_iff_toInt_lt]
      have := i1.mp q1
      have : ¬ a.2.1.toInt = b.2.1.toInt := fun z => q2 (i2.mpr z)
      omega
  · rw [if_neg q1, Int32.lt_iff_toInt_lt]
    have : ¬ a.1.toInt = b.1.toInt := fun z => q1 (i1.mpr z)
    omega
theorem rb_min {T : TX} {F : LF} {r : RW} {set : Int32} {n : Nat} : ∀ w w', w' ≤ w → ¬ rbLt (rbO T F r set n w') (rbB T F r set n w).2
  | 0, w', h => by
    have : w' = 0 := by omega
    subst this
    rw [rbLt_i]; simp only [rbB]; omega
  | w + 1, w', h => by
    have ih := rb_min (T := T) (F := F) (r := r) (set := set) (n := n) w
    unfold rbB
    by_cases q : rbLt (rbO T F r set n (w + 1)) (rbB T F r set n w).2
    · rw [if_pos q]
      show ¬ rbLt _ (rbO T F r set n (w + 1))
      rcases Nat.lt_or_ge w' (w + 1) with z | z
      · have k := ih w' (by omega)
        rw [rbLt_i] at k q ⊢; omega
      · have : w' = w + 1 := by omega
        subst this
        rw [rbLt_i]; omega
    · rw [if_neg q]
      rcases Nat.lt_or_ge w' (w + 1) with z | z
      · exact ih w' (by omega)
      · have : w' = w + 1 := by omega
        subst this; exact q
theorem rb_prune {T : TX} {F : LF} {r : RW} {set : Int32} {n way : Nat} (hT : TG T F) (hG : GR T r) (hS : StK T set) (hw : way < rbs T ^ popN set 12) (hl : ¬ ladP T r set way) : ∃ w', w' < way ∧ ¬ rbLt (rbO T F r set n way) (rbO T F r set n w') := by
  have hN := hT.1
  have h4 := hN.1.2
  have h8 := hN.2.2.1.2
  have hex : ∃ i, i < popN set 12 ∧ ¬ dgt T (popN set 12) way i = 0 ∧ ¬ useP T r (sel set i) (dgt T (popN set 12) way i - 1) := by
    refine Classical.byContradiction (fun z => hl (fun i hi => ?_))
    by_cases q : dgt T (popN set 12) way i = 0
    · exact Or.inl q
    · exact Or.inr (Classical.byContradiction (fun y => z ⟨i, hi, q, y⟩))
  obtain ⟨i0, hi0, hd, hu⟩ := hex
  obtain ⟨t1, t2⟩ := dig_t (rbs T) (by unfold rbs; omega) (popN set 12) (by have := hS.2; omega) way hw i0 hi0
  have hlt := t1.resolve_left hd
  refine ⟨_, hlt, ?_⟩
  generalize hw' : way - way / rbs T ^ (popN set 12 - 1 - i0) % rbs T * rbs T ^ (popN set 12 - 1 - i0) = way' at t2 hlt ⊢
  have dg : ∀ j, j < popN set 12 → dgt T (popN set 12) way' j = if j = i0 then 0 else dgt T (popN set 12) way j := t2
  have hcut : ∀ x y : RW, liE T x y → liE T (iter (cutR T) (nW T) x) (iter (cutR T) (nW T) y) := fun x y h => (iter_l (f := cutR T) (Q := fun _ => True) (nW T) _ _ h trivial (fun j x y hj _ hxy => ⟨trivial, cutR_l hxy (by omega)⟩)).1
  have rel : ∀ j, j ≤ popN set 12 → liE T (rbX T r set way' j).2 (rbX T r set way j).2 ∧ (rbX T r set way' j).1 ≤ (rbX T r set way j).1 ∧ (j ≤ i0 → rbX T r set way j = rbX T r set way' j) := by
    intro j
    induction j with
    | zero => intro _; exact ⟨liE.rf _ _, Nat.le_refl _, fun _ => rfl⟩
    | succ j ih =>
      intro hj
      obtain ⟨e1, e2, e3⟩ := ih (by omega)
      have dj := dg j (by omega)
      by_cases qj : j = i0
      · subst qj
        rw [if_pos rfl] at dj
        have ez := e3 (Nat.le_refl _)
        have z1 : rbX T r set way' (j + 1) = rbX T r set way' j := by
          show (if _ then _ else _) = _
          rw [if_pos (Or.inl dj)]
        rw [z1]
        have ok := rbX_ok (way := way') hT hG hS j (by omega)
        have kk := rbX_kn (way := way') hT hG hS (i := j) (by omega) (sel set j)
        show liE T _ (if _ then _ else _ : Nat × RW).2 ∧ _ ≤ (if _ then _ else _ : Nat × RW).1 ∧ _
        rw [ez]
        by_cases qk : knB T r (sel set j) = 0
        · rw [if_pos (Or.inr (kk.trans qk))]
          exact ⟨liE.rf _ _, Nat.le_refl _, fun z => by omega⟩
        · rw [if_neg (by rintro (z | z); exact hd z; exact qk (kk.symm.trans z))]
          refine ⟨?_, by show _ ≤ (rbX T r set way' j).1 + 1; omega, fun z => by omega⟩
          show liE T _ (iter (cutR T) (nW T) _)
          by_cases q6 : T 6 (sel set j) = 0
          · have qs : r (4 + sel set j) = nI (dgt T (popN set 12) way j - 1) := Classical.byContradiction (fun y => hu ⟨qk, q6, y⟩)
            have ei := ok.2.2.1 (sel set j) (by have := hS.se hi0; omega) (fun i hi => sel_ne (by omega) hi0 (by omega))
            rw [← qs, ← ei, upd_id, cut_id ok.1.2.2.1]
            exact liE.rf _ _
          · have := hcut _ _ ((liE.rf T (rbX T r set way' j).2).l q6 (by have := hS.se hi0; omega) (nI (dgt T (popN set 12) way j - 1)))
            rw [cut_id ok.1.2.2.1] at this
            exact this
      · rw [if_neg qj] at dj
        have kk := rbX_kn (way := way') hT hG hS (i := j) (by omega) (sel set j)
        have kk2 := rbX_kn (way := way) hT hG hS (i := j) (by omega) (sel set j)
        show liE T (if _ then _ else _ : Nat × RW).2 (if _ then _ else _ : Nat × RW).2 ∧ (if _ then _ else _ : Nat × RW).1 ≤ (if _ then _ else _ : Nat × RW).1 ∧ (_ → (if _ then _ else _ : Nat × RW) = (if _ then _ else _ : Nat × RW))
        rw [dj, kk, kk2]
        by_cases q : dgt T (popN set 12) way j = 0 ∨ knB T r (sel set j) = 0
        · rw [if_pos q, if_pos q]; exact ⟨e1, e2, fun z => e3 (by omega)⟩
        · rw [if_neg q, if_neg q]
          exact ⟨hcut _ _ (e1.u _ rfl), by show (rbX T r set way' j).1 + 1 ≤ (rbX T r set way j).1 + 1; omega, fun z => by rw [e3 (by omega)]⟩
  obtain ⟨l1, l2, -⟩ := rel (popN set 12) (Nat.le_refl _)
  have ok1 := rbX_ok (way := way') hT hG hS (popN set 12) (Nat.le_refl _)
  have ok2 := rbX_ok (way := way) hT hG hS (popN set 12) (Nat.le_refl _)
  have dl := days_l (F := F) (sd := T 0 6) hT ok1.1 l1 n
  have k4 := hS.2
  rw [rbLt_i]
  unfold rbO rbA
  dsimp only
  rw [dl.1 33 (by omega), thr_l dl, nI_toInt (by omega), nI_toInt (by omega)]
  omega
theorem rbB_skip {T : TX} {F : LF} {r : RW} {set : Int32} {n w : Nat} (hT : TG T F) (hG : GR T r) (hS : StK T set) (hw : w + 1 < rbs T ^ popN set 12) (hl : ¬ ladP T r set (w + 1)) : rbB T F r set n (w + 1) = rbB T F r set n w := by
  obtain ⟨w', h1, h2⟩ := rb_prune (n := n) hT hG hS hw hl
  have k := rb_min (T := T) (F := F) (r := r) (set := set) (n := n) w w' (by omega)
  rw [rbB, if_neg]
  intro q
  rw [rbLt_i] at q h2 k
  omega
