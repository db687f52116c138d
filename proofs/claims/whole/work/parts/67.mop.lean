/-! THE REFERENCE, its small operations. -/
theorem Mo_undo_n {v : Nat} {T : TX} {F : LF} {r : RW} {U : UX} {H : HX} {N : NX} {B : BX} {P : Int32} {S : Mem} (h : MOK v T F r U H N B P S) (h0 : U.1 = 0) : f_Mo_undo S = some (0, S) := by
  unfold f_Mo_undo f_Mo_undo_b0
  rw [h.2.2.1.1, h0, if_pos (by rfl)]
theorem Mo_undo21 (S : Mem) {u : Nat} (hu : u < 40) (e : S.1 0 60 = nI u) : f_Mo_undo_l21 5000 0 S = some (1, pA S 0 56 (cpF 0 40 (fun p => S.2.1 0 61 (40 * u + p)) (S.2.1 0 56))) := by
  have := lq_2 f_Mo_undo_b21 f_Mo_undo_l21 (fun _ => rfl) nI (fun j => pA S 0 56 (cpF 0 j (fun p => S.2.1 0 61 (40 * u + p)) (S.2.1 0 56))) 40 (some (1, pA S 0 56 (cpF 0 40 (fun p => S.2.1 0 61 (40 * u + p)) (S.2.1 0 56)))) (fun k j hj => ?_) (fun k => ?_) 5000 (by decide)
  · rw [cpF_0, pA_self] at this; exact this
  · simp only [f_Mo_undo_b21, if_neg (le40 hj), g40 hj, letS_e, nI_1, pA_1, e]
    rw [n40, iM, iA, gIn_n (show 40 * u + j < 1600 by omega) (by decide), sA_p, cl (show 40 * u + j < 4096 by omega), cl (show j < 4096 by omega)]
    have e2 := cpF_s 0 j (fun p => S.2.1 0 61 (40 * u + p)) (S.2.1 0 56)
    rw [Nat.zero_add] at e2
    rw [← e2]; rfl
  · simp only [f_Mo_undo_b21, if_pos le4040]
theorem Mo_undo_y {v : Nat} {T : TX} {F : LF} {r : RW} {U : UX} {H : HX} {N : NX} {B : BX} {P : Int32} {S : Mem} (h : MOK v T F r U H N B P S) {u : Nat} (h0 : U.1 = u + 1) : Ok (fun z : Int32 × Mem => z.1 = 1 ∧ MOK v T F (U.2 u) (u, U.2) H N B P z.2) (f_Mo_undo S) := by
  obtain ⟨h1, h2, ⟨e3, l3, h3⟩, h4, h5, h6, h7, h8⟩ := h
  have qe : ¬ nI U.1 = 0 := nI_ne0 (by omega) (by omega)
  unfold f_Mo_undo f_Mo_undo_b0
  rw [e3, if_neg qe, letS_e, h0, nI_pred, Mo_undo21 _ (u := u) (by omega) rfl]
  refine Ok.i ⟨rfl, h1.of rfl (fun f a b => ?_), ?_, ⟨rfl, by show u ≤ 40; omega, ?_⟩, h4, h5, h6, h7, h8⟩
  · simp only [pA_2, pI_2]
    rw [if_neg (by omega)]
  · intro k hk
    have e := cpF_in (c := 0) (n := 40) (a := fun p => S.2.1 0 61 (40 * u + p)) (b := S.2.1 0 56) hk
    rw [Nat.zero_add] at e
    exact e.trans (h3 u (by omega) k hk)
  · intro i hi k hk
    exact h3 i (by have : i < u := hi; omega) k hk
theorem in_c {x : Int32} {n : Nat} {m : Int32} (hm : nI n - 1 = m) (hn : n < 2 ^ 30) (h : ∀ j, j < n → x ≠ nI j) : f_Mo_in x 0 m = some 0 := by rw [← hm]; exact in_no h hn
theorem in_d {j : Nat} {n : Nat} {m : Int32} (hm : nI n - 1 = m) (hn : n < 2 ^ 30) (h : j < n) : f_Mo_in (nI j) 0 m = some 1 := by rw [← hm]; exact in_yes rfl h hn
theorem Mo_hold_n {x : Int32} {S : Mem} (h : ∀ j, j < 3 → x ≠ nI j) : f_Mo_hold x S = some (0, S) := by
  unfold f_Mo_hold f_Mo_hold_b0
  rw [in_c (n := 3) (by decide) (by decide) h, bind_e, if_pos rfl]
theorem Mo_hold20 (S : Mem) {s : Nat} (hs : s < 3) : f_Mo_hold_l20 5000 (nI s) 0 S = some (1, pA S 0 73 (cpF (40 * s) 40 (S.2.1 0 56) (S.2.1 0 73))) := by
  have := lq_3 f_Mo_hold_b20 f_Mo_hold_l20 (fun _ => rfl) (fun _ => nI s) nI (fun j => pA S 0 73 (cpF (40 * s) j (S.2.1 0 56) (S.2.1 0 73))) 40 (some (1, pA S 0 73 (cpF (40 * s) 40 (S.2.1 0 56) (S.2.1 0 73)))) (fun k j hj => ?_) (fun k => ?_) 5000 (by decide)
  · rw [cpF_0, pA_self] at this; exact this
  · simp only [f_Mo_hold_b20, if_neg (le40 hj), g40 hj, letS_e, nI_1]
    rw [n40, iM, iA, gIn_n (show 40 * s + j < 120 by omega) (by decide), sA_p, cl (by omega), cl (show j < 4096 by omega), ← cpF_s]; rfl
  · simp only [f_Mo_hold_b20, if_pos le4040]
theorem nar1 : vp_nar .boolean 1 = 1 := by decide +kernel
theorem nar0 : vp_nar .boolean 0 = 0 := by decide +kernel
theorem g3 {α : Type} {v : Nat} {k : Option α} (h : v < 3) : gIn (nI v) 3 k = k := gIn_n h (by decide)
def updB (f : Nat → Bool) (k : Nat) (x : Bool) : Nat → Bool := fun i => if i = k then x else f i
theorem Mo_hold_y {v : Nat} {T : TX} {F : LF} {r : RW} {U : UX} {H : HX} {N : NX} {B : BX} {P : Int32} {S : Mem} (h : MOK v T F r U H N B P S) {s : Nat} (hs : s < 3) : Ok (fun z : Int32 × Mem => z.1 = 1 ∧ MOK v T F r U (updB H.1 s true, updR H.2 s r) N B P z.2) (f_Mo_hold (nI s) S) := by
  obtain ⟨h1, h2, h3, h4, h5, h6, h7, h8⟩ := h
  unfold f_Mo_hold f_Mo_hold_b0
  rw [in_d (n := 3) (by decide) (by decide) hs, bind_e, if_neg (by decide), g3 hs, letS_e, nar1, Mo_hold20 _ hs]
  refine Ok.i ⟨rfl, h1.of rfl (fun f a b => ?_), h2, h3, ?_, h5, h6, h7, h8⟩
  · rw [pA_2, if_neg (by omega), sA_2, if_neg (by omega)]
  · intro i hi
    show upd (S.2.1 0 72) (nI s).toNatClampNeg 1 i = _ ∧ (_ → ∀ k, k < 40 → cpF (40 * s) 40 (S.2.1 0 56) (S.2.1 0 73) (40 * i + k) = updR H.2 s r i k)
    rw [cl (by omega), upd_at]
    unfold updB updR
    by_cases q : i = s
    · subst q
      refine ⟨by rw [if_pos rfl]; simp, fun _ k hk => ?_⟩
      rw [cpF_in hk, if_pos rfl]; exact h2 k hk
    · refine ⟨by rw [if_neg q, (h4 i hi).1]; simp [q], fun hb k hk => ?_⟩
      rw [cpF_out (by omega), if_neg q]
      exact (h4 i hi).2 (by simpa [q] using hb) k hk
theorem Mo_restore_n {x : Int32} {S : Mem} (h : ∀ j, j < 3 → x ≠ nI j) : f_Mo_restore x S = some (0, S) := by
  unfold f_Mo_restore f_Mo_restore_b0
  rw [in_c (n := 3) (by decide) (by decide) h, bind_e, if_pos rfl]
theorem Mo_restore_e {v : Nat} {T : TX} {F : LF} {r : RW} {U : UX} {H : HX} {N : NX} {B : BX} {P : Int32} {S : Mem} (h : MOK v T F r U H N B P S) {s : Nat} (hs : s < 3) (he : H.1 s = false) : f_Mo_restore (nI s) S = some (0, S) := by
  unfold f_Mo_restore f_Mo_restore_b0
  rw [in_d (n := 3) (by decide) (by decide) hs, bind_e, if_neg (by decide), g3 hs, cl (by omega), (h.2.2.2.1 s hs).1, he]
  rfl
theorem Mo_restore22 (S : Mem) {s : Nat} (hs : s < 3) : f_Mo_restore_l22 5000 (nI s) 0 S = some (1, pI (pA S 0 56 (cpF 0 40 (fun p => S.2.1 0 73 (40 * s + p)) (S.2.1 0 56))) 0 60 0) := by
  have := lq_3 f_Mo_restore_b22 f_Mo_restore_l22 (fun _ => rfl) (fun _ => nI s) nI (fun j => pA S 0 56 (cpF 0 j (fun p => S.2.1 0 73 (40 * s + p)) (S.2.1 0 56))) 40 (some (1, pI (pA S 0 56 (cpF 0 40 (fun p => S.2.1 0 73 (40 * s + p)) (S.2.1 0 56))) 0 60 0)) (fun k j hj => ?_) (fun k => ?_) 5000 (by decide)
  · rw [cpF_0, pA_self] at this; exact this
  · simp only [f_Mo_restore_b22, if_neg (le40 hj), g40 hj, letS_e, nI_1]
    rw [n40, iM, iA, gIn_n (show 40 * s + j < 120 by omega) (by decide), sA_p, cl (show 40 * s + j < 4096 by omega), cl (show j < 4096 by omega)]
    have e2 := cpF_s 0 j (fun p => S.2.1 0 73 (40 * s + p)) (S.2.1 0 56)
    rw [Nat.zero_add] at e2
    rw [← e2]; rfl
  · simp only [f_Mo_restore_b22, if_pos le4040, letS_e]
theorem Mo_restore_y {v : Nat} {T : TX} {F : LF} {r : RW} {U : UX} {H : HX} {N : NX} {B : BX} {P : Int32} {S : Mem} (h : MOK v T F r U H N B P S) {s : Nat} (hs : s < 3) (he : H.1 s = true) : Ok (fun z : Int32 × Mem => z.1 = 1 ∧ MOK v T F (H.2 s) (0, U.2) H N B P z.2) (f_Mo_restore (nI s) S) := by
  obtain ⟨h1, h2, h3, h4, h5, h6, h7, h8⟩ := h
  unfold f_Mo_restore f_Mo_restore_b0
  rw [in_d (n := 3) (by decide) (by decide) hs, bind_e, if_neg (by decide), g3 hs, cl (by omega), (h4 s hs).1, he, if_neg (by decide), Mo_restore22 S hs]
  refine Ok.i ⟨rfl, h1.of rfl (fun f a b => ?_), ?_, ⟨rfl, Nat.zero_le _, fun i hi => absurd hi (by show ¬ i < 0; omega)⟩, h4, h5, h6, h7, h8⟩
  · simp only [pA_2, pI_2]
    rw [if_neg (by omega)]
  · intro k hk
    have e := cpF_in (c := 0) (n := 40) (a := fun p => S.2.1 0 73 (40 * s + p)) (b := S.2.1 0 56) hk
    rw [Nat.zero_add] at e
    exact e.trans ((h4 s hs).2 he k hk)
theorem Mo_forget {v : Nat} {T : TX} {F : LF} {r : RW} {U : UX} {H : HX} {N : NX} {B : BX} {P : Int32} {S : Mem} (h : MOK v T F r U H N B P S) : Ok (fun z : Int32 × Mem => z.1 = nI N.1 ∧ MOK v T F r U H (0, N.2) B P z.2) (f_Mo_forget S) := by
  obtain ⟨h1, h2, h3, h4, h5, h6, h7, h8⟩ := h
  unfold f_Mo_forget f_Mo_forget_b0
  rw [letS_e, letS_e]
  exact Ok.i ⟨h5.1, h1.of rfl (fun f a b => rfl), h2, h3, h4, ⟨rfl, Nat.zero_le _, fun i hi => absurd hi (by show ¬ i < 0; omega)⟩, h6, h7, h8⟩
theorem gZ_0 {α : Type} {k : Option α} : gZ 0 k = k := if_pos (Or.inl rfl)
theorem gZ_1 {α : Type} {k : Option α} : gZ 1 k = k := if_pos (Or.inr rfl)
theorem Mo_isWell_y {v : Nat} {T : TX} {F : LF} {S : Mem} (hN : TN T) (h : TM v T F S) {w : Nat} (hw : w < nW T) : f_Mo_isWell (nI w) S = some 1 := by
  obtain ⟨⟨hv, e, ⟨e1, -⟩, -⟩, -⟩ := h
  unfold f_Mo_isWell f_Mo_isWell_b0
  rw [e, g2 hv, cl (by omega), e1, hN.1.1, in_yes rfl hw (by have := hN.1.2; omega), bind_e, gZ_1]
theorem Mo_isWell_n {v : Nat} {T : TX} {F : LF} {S : Mem} (hN : TN T) (h : TM v T F S) {x : Int32} (hx : ∀ j, j < nW T → x ≠ nI j) : f_Mo_isWell x S = some 0 := by
  obtain ⟨⟨hv, e, ⟨e1, -⟩, -⟩, -⟩ := h
  unfold f_Mo_isWell f_Mo_isWell_b0
  rw [e, g2 hv, cl (by omega), e1, hN.1.1, in_no hx (by have := hN.1.2; omega), bind_e, gZ_0]
theorem Mo_isMan_y {v : Nat} {T : TX} {F : LF} {S : Mem} (hN : TN T) (h : TM v T F S) {w : Nat} (hw : w < nM T) : f_Mo_isMan (nI w) S = some 1 := by
  obtain ⟨⟨hv, e, ⟨-, e1, -⟩, -⟩, -⟩ := h
  unfold f_Mo_isMan f_Mo_isMan_b0
  rw [e, g2 hv, cl (by omega), e1, hN.2.1.1, in_yes rfl hw (by have := hN.2.1.2; omega), bind_e, gZ_1]
theorem Mo_isMan_n {v : Nat} {T : TX} {F : LF} {S : Mem} (hN : TN T) (h : TM v T F S) {x : Int32} (hx : ∀ j, j < nM T → x ≠ nI j) : f_Mo_isMan x S = some 0 := by
  obtain ⟨⟨hv, e, ⟨-, e1, -⟩, -⟩, -⟩ := h
  unfold f_Mo_isMan f_Mo_isMan_b0
  rw [e, g2 hv, cl (by omega), e1, hN.2.1.1, in_no hx (by have := hN.2.1.2; omega), bind_e, gZ_0]
theorem Mo_isSecret_y {v : Nat} {T : TX} {F : LF} {S : Mem} (hN : TN T) (h : TM v T F S) {w : Nat} (hw : w < nS T) : f_Mo_isSecret (nI w) S = some 1 := by
  obtain ⟨⟨hv, e, ⟨-, -, e1, -⟩, -⟩, -⟩ := h
  unfold f_Mo_isSecret f_Mo_isSecret_b0
  rw [e, g2 hv, cl (by omega), e1, hN.2.2.1.1, in_yes rfl hw (by have := hN.2.2.1.2; omega), bind_e, gZ_1]
theorem Mo_isSecret_n {v : Nat} {T : TX} {F : LF} {S : Mem} (hN : TN T) (h : TM v T F S) {x : Int32} (hx : ∀ j, j < nS T → x ≠ nI j) : f_Mo_isSecret x S = some 0 := by
  obtain ⟨⟨hv, e, ⟨-, -, e1, -⟩, -⟩, -⟩ := h
  unfold f_Mo_isSecret f_Mo_isSecret_b0
  rw [e, g2 hv, cl (by omega), e1, hN.2.2.1.1, in_no hx (by have := hN.2.2.1.2; omega), bind_e, gZ_0]
theorem shl_p : ∀ n, n ≤ 12 → (1 : Int32) <<< (nI n &&& 31) = nI (2 ^ n) := by decide +kernel
theorem p2_12 : ∀ n, n ≤ 12 → 1 ≤ 2 ^ n ∧ 2 ^ n ≤ 4096 := by decide +kernel
def updN (N : NX) (x1 x2 x3 : Int32) : NX := (N.1 + 1, fun k i => if i = N.1 then (if k = 0 then x1 else if k = 1 then x2 else x3) else N.2 k i)
theorem Mo_note_n {v : Nat} {T : TX} {F : LF} {r : RW} {U : UX} {H : HX} {N : NX} {B : BX} {P : Int32} {S : Mem} (hN : TN T) (h : MOK v T F r U H N B P S) {x1 x2 x3 : Int32} (hx : N.1 = 20 ∨ (∀ j, j < nW T → x1 ≠ nI j) ∨ (∀ j, j < 2 ^ nS T → x2 ≠ nI j) ∨ (∀ j, j < 10000 → x3 ≠ nI j)) : f_Mo_note x1 x2 x3 S = some (-1, S) := by
  obtain ⟨h1, h2, h3, h4, ⟨e5, l5, -⟩, h6, h7, h8⟩ := h
  have hS := hN.2.2.1.2
  unfold f_Mo_note f_Mo_note_b0
  rw [e5]
  by_cases q0 : N.1 = 20
  · rw [q0, if_pos (by rfl)]
  rw [if_neg (show ¬ nI N.1 = (20 : Int32) from fun z => q0 ((nI_eq (by omega) (by decide)).mp z))]
  rcases rg x1 (n := nW T) (by have := hN.1.2; omega) with ⟨w, hw, rfl⟩ | ⟨q1, -⟩
  case inr => rw [Mo_isWell_n hN h1 q1, bind_e, if_pos rfl]
  rw [Mo_isWell_y hN h1 hw, bind_e, if_neg (by decide), h1.1.2.1, g2 h1.1.1, cl (by have := h1.1.1; omega), h1.1.2.2.1.2.2.1, hN.2.2.1.1, shl_p _ (by omega)]
  rcases rg x2 (n := 2 ^ nS T) (by have := p2_12 (nS T) (by omega); omega) with ⟨s, hs, rfl⟩ | ⟨q2, -⟩
  case inr => rw [in_no q2 (by have := p2_12 (nS T) (by omega); omega), bind_e, if_pos rfl]
  rw [in_yes rfl hs (by have := p2_12 (nS T) (by omega); omega), bind_e, if_neg (by decide)]
  rcases rg x3 (n := 10000) (by decide) with ⟨d, hd, rfl⟩ | ⟨q3, -⟩
  case inr => rw [in_c (n := 10000) (by decide) (by decide) q3, bind_e, if_pos rfl]
  rcases hx with hx | hx | hx | hx
  · exact absurd hx q0
  · exact absurd rfl (hx w hw)
  · exact absurd rfl (hx s hs)
  · exact absurd rfl (hx d hd)
theorem Mo_note_y {v : Nat} {T : TX} {F : LF} {r : RW} {U : UX} {H : HX} {N : NX} {B : BX} {P : Int32} {S : Mem} (hN : TN T) (h : MOK v T F r U H N B P S) {w s d : Nat} (h0 : N.1 < 20) (hw : w < nW T) (hs : s < 2 ^ nS T) (hd : d < 10000) : Ok (fun z : Int32 × Mem => z.1 = nI N.1 ∧ MOK v T F r U H (updN N (nI w) (nI s) (nI d)) B P z.2) (f_Mo_note (nI w) (nI s) (nI d) S) := by
  obtain ⟨h1, h2, h3, h4, ⟨e5, l5, h5⟩, h6, h7, h8⟩ := h
  have hS := hN.2.2.1.2
  have gn : ∀ {α : Type} {k : Option α}, gIn (nI N.1) 20 k = k := gIn_n h0 (by decide)
  unfold f_Mo_note f_Mo_note_b0
  rw [e5, if_neg (show ¬ nI N.1 = (20 : Int32) from fun z => absurd ((nI_eq (by omega) (by decide)).mp z) (show ¬ N.1 = 20 by omega)), Mo_isWell_y hN h1 hw, bind_e, if_neg (by decide), h1.1.2.1, g2 h1.1.1, cl (by have := h1.1.1; omega), h1.1.2.2.1.2.2.1, hN.2.2.1.1, shl_p _ (by omega), in_yes rfl hs (by have := p2_12 (nS T) (by omega); omega), bind_e, if_neg (by decide), in_d (n := 10000) (by decide) (by decide) hd, bind_e, if_neg (by decide)]
  simp only [sA_1, e5, gn, letS_e, nI_1]
  refine Ok.i ⟨?_, h1.of rfl (fun f a b => ?_), h2, h3, h4, ⟨rfl, by show N.1 + 1 ≤ 20; omega, ?_⟩, h6, h7, h8⟩
  · show nI (N.1 + 1) - 1 = nI N.1
    exact nI_pred _
  · simp only [pI_2, sA_2]
    rw [if_neg (by omega), if_neg (by omega), if_neg (by omega)]
  · intro i hi
    show upd (S.2.1 0 69) (nI N.1).toNatClampNeg (nI w) i = _ ∧ upd (S.2.1 0 70) (nI N.1).toNatClampNeg (nI s) i = _ ∧ upd (S.2.1 0 71) (nI N.1).toNatClampNeg (nI d) i = _
    rw [cl (by omega), upd_at, upd_at, upd_at]
    unfold updN
    by_cases q : i = N.1
    · simp [q]
    · have : i < N.1 + 1 := hi
      simp only [if_neg q]
      exact h5 i (by omega)
-- the tape
def byt (x : Int32) (k : Nat) : Int32 := vp_nar .byte ((x >>> ((24 - 8 * nI k) &&& 31)).toInt8.toInt32)
def app (B : BX) (x : Int32) : BX := (B.1 + 4, cpF B.1 4 (byt x) B.2)
theorem sh_d : ∀ j, j < 4 → ¬ (24 : Int32) - 8 * nI j < 0 ∧ (24 : Int32) - 8 * nI j + (-8) = 24 - 8 * nI (j + 1) := by decide +kernel
theorem Mo_put {S : Mem} {L : Nat} (e : S.1 0 2 = nI L) (hL : L + 4 ≤ 2000) (x : Int32) : f_Mo_put x S = some (pI (pA S 0 1 (cpF L 4 (byt x) (S.2.1 0 1))) 0 2 (nI (L + 4))) := by
  have := lq_3 f_Mo_put_b3 f_Mo_put_l3 (fun _ => rfl) (fun _ => x) (fun j => 24 - 8 * nI j) (fun j => pI (pA S 0 1 (cpF L j (byt x) (S.2.1 0 1))) 0 2 (nI (L + j))) 4 (some (pI (pA S 0 1 (cpF L 4 (byt x) (S.2.1 0 1))) 0 2 (nI (L + 4)))) (fun k j hj => ?_) (fun k => ?_) 5000 (by decide)
  · rw [cpF_0, pA_self] at this
    have e0 : pI S 0 2 (nI (L + 0)) = S := by
      refine Prod.ext ?_ rfl
      funext o k
      show (if _ then _ else _) = _
      split
      · rename_i z; rw [z.1, z.2, e]; rfl
      · rfl
    rw [e0] at this
    exact this
  · have e1 : (pI (pA S 0 1 (cpF L j (byt x) (S.2.1 0 1))) 0 2 (nI (L + j))).1 0 2 = nI (L + j) := rfl
    simp only [f_Mo_put_b3, if_neg (sh_d j hj).1, e1, gIn_n (show L + j < 2000 by omega) (by decide), letS_e, (sh_d j hj).2]
    rw [sA_pp, cl (by omega), pI_pp]
    show k x _ (pI _ 0 2 (nI (L + j) + 1)) = _
    rw [nI_1, show vp_nar .byte ((x >>> (24 - 8 * nI j &&& 31)).toInt8.toInt32) = byt x j from rfl, cpF_s]; rfl
  · simp only [f_Mo_put_b3]
    rw [if_pos (by decide)]
theorem mT_app {B : BX} {S : Mem} {o f k : Nat} {x : Int32} (h : mT B (S.1 o k) (S.2.1 o f)) (hL : B.1 + 4 ≤ 2000) : mT (app B x) ((pI (pA S o f (cpF B.1 4 (byt x) (S.2.1 o f))) o k (nI (B.1 + 4))).1 o k) ((pI (pA S o f (cpF B.1 4 (byt x) (S.2.1 o f))) o k (nI (B.1 + 4))).2.1 o f) := by
  rw [pI_1, if_pos ⟨rfl, rfl⟩, pI_2, pA_2, if_pos ⟨rfl, rfl⟩]
  refine ⟨rfl, hL, fun i hi => ?_⟩
  have hi : i < B.1 + 4 := hi
  show cpF _ _ _ _ _ = cpF _ _ _ _ _
  unfold cpF
  by_cases q : B.1 ≤ i ∧ i < B.1 + 4
  · rw [if_pos q, if_pos q]
  · rw [if_neg q, if_neg q]; exact h.2.2 i (by omega)
theorem Mo_puts {v : Nat} {T : TX} {F : LF} {r : RW} {U : UX} {H : HX} {N : NX} {B : BX} {P : Int32} {S : Mem} (h : MOK v T F r U H N B P S) (hL : B.1 + 4 ≤ 2000) (x : Int32) : Ok (fun S' => MOK v T F r U H N (app B x) P S') (f_Mo_put x S) := by
  obtain ⟨h1, h2, h3, h4, h5, h6, h7, h8⟩ := h
  rw [Mo_put h6.1 hL]
  refine Ok.i ⟨h1.of rfl (fun f a b => ?_), h2, h3, h4, h5, mT_app h6 hL, h7, h8⟩
  simp only [pA_2, pI_2]
  rw [if_neg (by omega)]
def app5 (B : BX) (x1 x2 x3 x4 x5 : Int32) : BX := app (app (app (app (app B x1) x2) x3) x4) x5
theorem Mo_feed_y {v : Nat} {T : TX} {F : LF} {r : RW} {U : UX} {H : HX} {N : NX} {B : BX} {P : Int32} {S : Mem} (h : MOK v T F r U H N B P S) (hL : B.1 + 20 ≤ 2000) (x1 x2 x3 x4 x5 : Int32) : Ok (fun z : Int32 × Mem => z.1 = nI (B.1 + 20) ∧ MOK v T F r U H N (app5 B x1 x2 x3 x4 x5) P z.2) (f_Mo_feed x1 x2 x3 x4 x5 S) := by
  unfold f_Mo_feed f_Mo_feed_b0
  rw [h.2.2.2.2.2.1.1, show (20 : Int32) = nI 20 from rfl, iA, if_pos (show nI (B.1 + 20) ≤ (2000 : Int32) from nI_le (b := 2000) hL (by decide))]
  refine (Mo_puts h (by omega) x1).b (fun q1 k1 => (Mo_puts k1 (by show B.1 + 4 + 4 ≤ 2000; omega) x2).b (fun q2 k2 => (Mo_puts k2 (by show B.1 + 4 + 4 + 4 ≤ 2000; omega) x3).b (fun q3 k3 => (Mo_puts k3 (by show B.1 + 4 + 4 + 4 + 4 ≤ 2000; omega) x4).b (fun q4 k4 => (Mo_puts k4 (by show B.1 + 4 + 4 + 4 + 4 + 4 ≤ 2000; omega) x5).b (fun q5 k5 => Ok.i ⟨k5.2.2.2.2.2.1.1, k5⟩)))))
theorem Mo_feed_n {v : Nat} {T : TX} {F : LF} {r : RW} {U : UX} {H : HX} {N : NX} {B : BX} {P : Int32} {S : Mem} (h : MOK v T F r U H N B P S) (hL : ¬ B.1 + 20 ≤ 2000) (x1 x2 x3 x4 x5 : Int32) : f_Mo_feed x1 x2 x3 x4 x5 S = some (-1, S) := by
  unfold f_Mo_feed f_Mo_feed_b0
  rw [h.2.2.2.2.2.1.1, show (20 : Int32) = nI 20 from rfl, iA, if_neg]
  exact le_nI hL (by have := h.2.2.2.2.2.1.2.1; omega) (by decide)
theorem Mo_back_y {v : Nat} {T : TX} {F : LF} {r : RW} {U : UX} {H : HX} {N : NX} {B : BX} {P : Int32} {S : Mem} (h : MOK v T F r U H N B P S) {n : Nat} (hn : n < B.1 + 1) : Ok (fun z : Int32 × Mem => z.1 = nI (B.1 - n) ∧ MOK v T F r U H N (B.1 - n, B.2) P z.2) (f_Mo_back (nI n) S) := by
  obtain ⟨h1, h2, h3, h4, h5, ⟨e6, l6, h6⟩, h7, h8⟩ := h
  unfold f_Mo_back f_Mo_back_b0
  rw [if_neg (nI_pos (by omega)), e6, if_pos (nI_le (by omega) (by omega)), letS_e, pk_sub (by omega)]
  exact Ok.i ⟨rfl, h1.of rfl (fun f a b => rfl), h2, h3, h4, h5, ⟨rfl, by show B.1 - n ≤ 2000; omega, fun i hi => h6 i (by have : i < B.1 - n := hi; omega)⟩, h7, h8⟩
theorem Mo_back_n {v : Nat} {T : TX} {F : LF} {r : RW} {U : UX} {H : HX} {N : NX} {B : BX} {P : Int32} {S : Mem} (h : MOK v T F r U H N B P S) {x : Int32} (hx : ∀ j, j < B.1 + 1 → x ≠ nI j) : f_Mo_back x S = some (-1, S) := by
  obtain ⟨h1, h2, h3, h4, h5, ⟨e6, l6, h6⟩, h7, h8⟩ := h
  unfold f_Mo_back f_Mo_back_b0
  rw [e6]
  by_cases q : x < 0
  · rw [if_pos q]
  · rw [if_neg q, if_neg]
    intro z
    obtain ⟨j, hj, rfl⟩ := nI_of q
    exact hx j (by have := (nI_leI hj (by omega)).mp z; omega) rfl
-- how many
def CN (T : TX) (r : RW) (U : UX) (H : HX) (N : NX) (B : BX) (x : Int32) : Int32 :=
  if x = 0 then T 0 0 else if x = 1 then T 0 1 else if x = 2 then T 0 2 else if x = 3 then T 0 3
  else if x = 4 then r 35 else if x = 5 then r 33 else if x = 6 then r 34 else if x = 7 then r 36
  else if x = 8 then nI B.1 else if x = 9 then nI U.1 else if x = 10 then nI N.1
  else if x = 11 then (if H.1 0 then 1 else 0) + (if H.1 1 then 1 else 0) + (if H.1 2 then 1 else 0)
  else if x = 12 then sumF r (nW T) else if x = 13 then orF (fun s => if T 6 s = 0 then 0 else bitM s) (nS T) else -1
theorem Mo_count208 {v : Nat} {T : TX} {F : LF} {r : RW} {S : Mem} (hN : TN T) (h : TM v T F S) (hr : mW r (S.2.1 0 56)) : f_Mo_count_l208 S 5000 0 0 = some (sumF r (nW T)) := by
  obtain ⟨⟨hv, e, ⟨e1, -⟩, -⟩, -⟩ := h
  have h4 := hN.1.2
  refine lq_2 (f_Mo_count_b208 S) (f_Mo_count_l208 S) (fun _ => rfl) (sumF r) nI (nW T) _ (fun k j hj => ?_) (fun k => ?_) 5000 (by omega)
  · simp only [f_Mo_count_b208, e, g2 hv, cl (show v < 4096 by omega), e1, hN.1.1, if_neg (le_nI (show ¬ nW T ≤ j by omega) (by omega) (by omega)), g40 (show j < 40 by omega), letS_e, nI_1, cl (show j < 4096 by omega), hr j (by omega)]
    rfl
  · simp only [f_Mo_count_b208, e, g2 hv, cl (show v < 4096 by omega), e1, hN.1.1, if_pos (le_rf _)]
theorem Mo_count242 {v : Nat} {T : TX} {F : LF} {S : Mem} (hN : TN T) (h : TM v T F S) : f_Mo_count_l242 S 5000 0 0 = some (orF (fun s => if T 6 s = 0 then 0 else bitM s) (nS T)) := by
  obtain ⟨⟨hv, e, ⟨-, -, e1, -⟩, -, -, -, hs, -⟩, -⟩ := h
  have h8 := hN.2.2.1.2
  refine lq_2 (f_Mo_count_b242 S) (f_Mo_count_l242 S) (fun _ => rfl) (orF (fun s => if T 6 s = 0 then 0 else bitM s)) nI (nS T) _ (fun k j hj => ?_) (fun k => ?_) 5000 (by omega)
  · simp only [f_Mo_count_b242, e, g2 hv, cl (show v < 4096 by omega), e1, hN.2.2.1.1, if_neg (le_nI (show ¬ nS T ≤ j by omega) (by omega) (by omega)), m8, g16 (show 8 * v + j < 16 by omega), cl (show 8 * v + j < 4096 by omega), (hs j (by omega)).2.1, letS_e, nI_1]
    by_cases q : T 6 j = 0
    · rw [if_pos q, orF_0 (f := fun s => if T 6 s = 0 then 0 else bitM s) (by simp only [if_pos q])]
    · rw [if_neg q]
      simp only [orF, if_neg q]
      rfl
  · simp only [f_Mo_count_b242, e, g2 hv, cl (show v < 4096 by omega), e1, hN.2.2.1.1, if_pos (le_rf _)]
theorem Mo_count11 {H : HX} {S : Mem} (h : mH H (S.2.1 0 72) (S.2.1 0 73)) : (gIn 0 3 (if (S.2.1 0 72 (0 : Int32).toNatClampNeg) = 0 then f_Mo_count_b173 S 0 else f_Mo_count_b173 S 1)) = some ((if H.1 0 then 1 else 0) + (if H.1 1 then 1 else 0) + (if H.1 2 then 1 else 0)) := by
  have h0 := (h 0 (by decide)).1
  have h1 := (h 1 (by decide)).1
  have h2 := (h 2 (by decide)).1
  have a0 : ∀ {α : Type} {k : Option α}, gIn 0 3 k = k := gIn_l 0 0 rfl (by decide) (by decide)
  have a1 : ∀ {α : Type} {k : Option α}, gIn 1 3 k = k := gIn_l 1 1 rfl (by decide) (by decide)
  have a2 : ∀ {α : Type} {k : Option α}, gIn 2 3 k = k := gIn_l 2 2 rfl (by decide) (by decide)
  unfold f_Mo_count_b173 f_Mo_count_b187 f_Mo_count_b202
  rw [a0, a1, a1, a2, a2, ic_0, ic_1, ic_2, h0, h1, h2]
  cases H.1 0 <;> cases H.1 1 <;> cases H.1 2 <;> rfl
theorem Mo_count {v : Nat} {T : TX} {F : LF} {r : RW} {U : UX} {H : HX} {N : NX} {B : BX} {P : Int32} {S : Mem} (hN : TN T) (h : MOK v T F r U H N B P S) (x : Int32) : f_Mo_count x S = some (CN T r U H N B x) := by
  obtain ⟨h1, h2, h3, h4, h5, h6, h7, h8⟩ := h
  have hv : v < 2 := h1.1.1
  unfold f_Mo_count f_Mo_count_b0
  rw [h1.1.2.1, g2 hv, g2 hv, g2 hv, g2 hv, cl (show v < 4096 by omega), h1.1.2.2.1.1, h1.1.2.2.1.2.1, h1.1.2.2.1.2.2.1, h1.1.2.2.1.2.2.2, g33, g34, g35, g36, ic_33, ic_34, ic_35, ic_36, h2 33 (by decide), h2 34 (by decide), h2 35 (by decide), h2 36 (by decide), h6.1, h3.1, h5.1, Mo_count11 h4, Mo_count208 hN h1 h2, Mo_count242 hN h1]
  unfold CN
  simp only [apply_ite (some : Int32 → Option Int32)]
theorem Mo_place {v : Nat} {T : TX} {F : LF} {r : RW} {U : UX} {H : HX} {N : NX} {B : BX} {P : Int32} {S : Mem} (h : MOK v T F r U H N B P S) : f_Mo_place S = some P := congrArg some h.2.2.2.2.2.2.1
