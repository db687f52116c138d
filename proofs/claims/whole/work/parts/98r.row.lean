/-! READ: the text read, as both hold it; the row with which it begins. -/
variable {tx : Nat} {S S' : Mem} {c : Nat → Nat} {l : NLt} {T : TX} {G : LwG} {F : LF}
theorem cT (hG : GT c T) (hL : cLe c) : nW T = c 0 ∧ nM T = c 1 ∧ nS T = c 2 ∧ nT T = c 3 := by
  obtain ⟨⟨a, b, d, e⟩, -⟩ := hG
  obtain ⟨h0, h1, h2, h3⟩ := hL
  unfold nW nM nS nT
  rw [a, b, d, e]
  exact ⟨cl (by omega), cl (by omega), cl (by omega), cl (by omega)⟩
theorem TG_of (hG : GT c T) (hL : cLe c) (h8 : L8 F) : TG T F := by
  obtain ⟨e0, e1, e2, e3⟩ := cT hG hL
  obtain ⟨⟨a, b, d, e⟩, g2, g3, g4, g5, g6, g7⟩ := hG
  obtain ⟨h0, h1, h2, h3⟩ := hL
  refine ⟨⟨⟨by rw [e0]; exact a, by omega⟩, ⟨by rw [e1]; exact b, by omega⟩, ⟨by rw [e2]; exact d, by omega⟩, by rw [e3]; exact e, by omega⟩, fun s hs => ?_, fun t ht => ?_, ⟨fun x hx => ?_, fun x hx => ?_, g6, g7⟩, h8⟩
  · rw [e2] at hs; exact ⟨(g4 s hs).1, (g4 s hs).2.1⟩
  · rw [e3] at ht
    obtain ⟨⟨x, hx, ex⟩, y, hy, ey⟩ := g5 t ht
    unfold fm to
    rw [ex, ey, cl (by omega), cl (by omega), e1]
    exact ⟨hx, rfl, hy, rfl⟩
  · rw [e1] at hx; exact (g3 x hx).2
  · rw [e0] at hx; exact g2 x hx
theorem lie_b {f : Nat → Int32} {n s : Nat} (hn : n ≤ 8) (hs : s < n) (hf : f s = 0 ∨ f s = 1) : bitOf (orF (fun s => if f s = 0 then 0 else bitM s) n) s = f s := by
  have key : bt (orF (fun s => if f s = 0 then 0 else bitM s) n) s = true ↔ ¬ f s = 0 := by
    rw [bt_orF]
    constructor
    · rintro ⟨j, hj, e⟩ z
      by_cases q : f j = 0
      · simp only [if_pos q] at e; rw [b_0] at e; exact absurd e (by decide)
      · simp only [if_neg q] at e
        rw [bt_bitM (by omega) (by omega)] at e
        have := of_decide_eq_true e
        rw [this] at z; exact q z
    · intro z
      refine ⟨s, hs, ?_⟩
      simp only [if_neg z]
      rw [bt_bitM (by omega) (by omega)]; simp
  rcases hf with q | q
  · rw [q]
    exact (bitOf_0 _ (by omega)).mpr (Bool.eq_false_iff.mpr (fun z => key.mp z q))
  · rw [q]
    exact (bitOf_1 _ (by omega)).mpr (key.mpr (by rw [q]; decide))
theorem kno_b {f : Nat → Int32} {n s a : Nat} (hn : n ≤ 8) (hs : s < n) : bitOf (orF (fun s => if bitOf (f s) a = 1 then bitM s else 0) n) s = bitOf (f s) a := by
  have key : bt (orF (fun s => if bitOf (f s) a = 1 then bitM s else 0) n) s = true ↔ bitOf (f s) a = 1 := by
    rw [bt_orF]
    constructor
    · rintro ⟨j, hj, e⟩
      by_cases q : bitOf (f j) a = 1
      · simp only [if_pos q] at e
        rw [bt_bitM (by omega) (by omega)] at e
        have := of_decide_eq_true e
        rw [this]; exact q
      · simp only [if_neg q] at e; rw [b_0] at e; exact absurd e (by decide)
    · intro z
      refine ⟨s, hs, ?_⟩
      simp only [if_pos z]
      rw [bt_bitM (by omega) (by omega)]; simp
  rcases bit01 (f s) a with q | q
  · rw [q]
    exact (bitOf_0 _ (by omega)).mpr (Bool.eq_false_iff.mpr (fun z => absurd (key.mp z) (by rw [q]; decide)))
  · rw [q]
    exact (bitOf_1 _ (by omega)).mpr (key.mpr q)
theorem CT_of (hI : CJ tx c l T G S) (hm : ∀ s, s < c 2 → S.2.1 tx 14 s = msV tx c S s) : CT T tx S := by
  obtain ⟨-, hL, hP, hG, -⟩ := hI
  obtain ⟨e0, e1, e2, e3⟩ := cT hG hL
  obtain ⟨⟨a, b, d, e⟩, g2, g3, g4, g5, g6, g7⟩ := hG
  obtain ⟨p1, p2, p3, p4, p5, p6, p7, p8⟩ := hP
  obtain ⟨h0, h1, h2, h3⟩ := hL
  unfold CT
  rw [e0, e1, e2, e3]
  refine ⟨⟨by rw [a]; exact p1.1, by rw [b]; exact p1.2.1, by rw [d]; exact p1.2.2.1, by rw [e]; exact p1.2.2.2⟩, p2, fun s hs => ?_, p4, fun x hx => ⟨(p5 x hx).1, (p5 x hx).2, ?_⟩, fun s hs => ⟨p7 s hs, ?_⟩, p8⟩
  · rw [p3]; exact lie_b h2 hs (g4 s hs).2.1
  · rw [p6 x (by omega)]; unfold kT; rw [e2]
  · rw [hm s hs, b]
    unfold msV
    rw [p7 s hs]
    have : sumF (fun m => bitOf (S.2.1 tx 12 m) s) (c 1) = bits (T 7 s) := by
      rw [sumF_c (c 1) (g := fun m => bitOf (T 7 s) m) (fun m hmm => by rw [p6 m (by omega)]; exact kno_b h2 hs)]
      unfold bits
      obtain ⟨k, hk⟩ : ∃ k, 12 = c 1 + k := ⟨12 - c 1, by omega⟩
      rw [hk]
      exact (sumF_z k (fun j x1 x2 => (bitOf_0 _ (by omega)).mpr ((g4 s hs).2.2 j x1 (by omega)))).symm
    rw [this]
/-- the row with which a text begins, its water not yet cut -/
def rB (T : TX) : RW := fun i => if i < 4 then (if i < nW T then T 2 i else 0) else if i < 12 then -2 else if i < 19 then (if i - 12 < nM T then T 3 (i - 12) else 0) else if i < 26 then 0 else if i < 33 then (if i - 26 < nM T then kT T (i - 26) else 0) else if i = 33 then bitM (nM T) - 1 else 0
theorem rB_w {w : Nat} (h : w < nW T) (h4 : nW T ≤ 4) : rB T w = T 2 w := by unfold rB; rw [if_pos (by omega), if_pos h]
theorem rB_s {s : Nat} (h : s < 8) : rB T (4 + s) = -2 := by unfold rB; rw [if_neg (by omega), if_pos (by omega)]
theorem rB_h {a : Nat} (h : a < nM T) (h7 : nM T ≤ 7) : rB T (12 + a) = T 3 a := by
  unfold rB; rw [if_neg (by omega), if_neg (by omega), if_pos (by omega), if_pos (by omega)]; congr 1; omega
theorem rB_t {a : Nat} (h : a < 7) : rB T (19 + a) = 0 := by unfold rB; rw [if_neg (by omega), if_neg (by omega), if_neg (by omega), if_pos (by omega)]
theorem rB_k {a : Nat} (h : a < nM T) (h7 : nM T ≤ 7) : rB T (26 + a) = kT T a := by
  unfold rB; rw [if_neg (by omega), if_neg (by omega), if_neg (by omega), if_neg (by omega), if_pos (by omega), if_pos (by omega)]; congr 1; omega
theorem rB_33 : rB T 33 = bitM (nM T) - 1 := rfl
theorem rB_z {i : Nat} (h : 34 ≤ i) : rB T i = 0 := by unfold rB; rw [if_neg (by omega), if_neg (by omega), if_neg (by omega), if_neg (by omega), if_neg (by omega), if_neg (by omega)]
theorem all_b : ∀ n, n ≤ 7 → ∀ i, i < 32 → n ≤ i → bt (bitM n - 1) i = false := by decide +kernel
theorem rB_I (hG : GT c T) (hL : cLe c) : RI T (rB T) ∧ WI T (rB T) ∧ TI T (rB T) := by
  obtain ⟨e0, e1, e2, e3⟩ := cT hG hL
  obtain ⟨⟨a, b, d, e⟩, g2, g3, g4, g5, g6, g7⟩ := hG
  obtain ⟨h0, h1, h2, h3⟩ := hL
  refine ⟨⟨fun i x1 x2 => ?_, fun x hx i x1 x2 => ?_, fun i _ _ => ?_, fun s hs => Or.inl (rB_s (by omega)), fun x hx => ?_⟩, fun x hx => ?_, fun x hx => ?_⟩
  · rw [rB_33]; exact all_b _ (by omega) i x2 x1
  · rw [rB_k hx (by omega)]
    refine Bool.eq_false_iff.mpr (fun z => ?_)
    unfold kT at z
    obtain ⟨j, hj, ej⟩ := (bt_orF i (nS T)).mp z
    by_cases q : bitOf (T 7 j) x = 1
    · simp only [if_pos q] at ej
      rw [bt_bitM (by omega) x2] at ej
      have := of_decide_eq_true ej
      omega
    · simp only [if_neg q] at ej; rw [b_0] at ej; exact absurd ej (by decide)
  · rw [rB_z (by omega)]; exact b_0 i
  · obtain ⟨⟨y, hy, ey⟩, -⟩ := g3 x (by omega)
    unfold hm
    rw [rB_h hx (by omega), ey, cl (by omega), e0]
    exact ⟨hy, rfl⟩
  · obtain ⟨-, y, hy, ey⟩ := g2 x (by omega)
    exact ⟨y, by omega, by rw [rB_w hx (by omega), ey]⟩
  · obtain ⟨y, y1, y2, ey⟩ := g6
    exact ⟨0, by omega, rB_t (by omega), fun _ => by rw [ey]; exact nI_lt (by omega) (by omega)⟩
