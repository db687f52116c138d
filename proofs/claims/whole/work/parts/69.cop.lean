/-! THE CLASS, its small operations. -/
theorem gCp_n {α : Type} {a b n n0 n1 : Nat} {k : Option α} (h0 : a + n ≤ n0) (h1 : b + n ≤ n1) (q0 : n0 < 2 ^ 31) (q1 : n1 < 2 ^ 31) : gCp (nI a) (nI b) (nI n) n0 n1 k = k := by
  unfold gCp
  rw [nI_clamp (by omega), nI_clamp (by omega), nI_clamp (by omega), if_neg]
  intro z
  rcases z with z | z | z | z | z
  · exact nI_pos (by omega) z
  · exact nI_pos (by omega) z
  · exact nI_pos (by omega) z
  · omega
  · omega
theorem pA_pp (S : Mem) (o f : Nat) (g g' : Nat → Int32) : pA (pA S o f g) o f g' = pA S o f g' := by
  refine Prod.ext rfl (Prod.ext ?_ rfl)
  funext o' f'
  show (if _ then _ else if _ then _ else _) = (if _ then _ else _)
  split <;> rfl
theorem sCp_p (S : Mem) (o f o2 f2 : Nat) (g : Nat → Int32) (a b n : Int32) (h : o ≠ o2) : sCp (pA S o2 f2 g) o f o2 f2 a b n = pA S o2 f2 (va_cpy (S.2.1 o f) g a.toNatClampNeg b.toNatClampNeg n.toNatClampNeg) := by
  unfold sCp
  rw [pA_pp, pA_2, if_neg (fun z => h z.1), pA_2, if_pos ⟨rfl, rfl⟩]
theorem sA_d (S : Mem) (o f : Nat) (i x : Int32) : sA S o f i x = pA S o f (upd (S.2.1 o f) i.toNatClampNeg x) := rfl
theorem rw_len {rw : Nat} (h : rw = 10 ∨ rw = 11) : rwLen rw < 2 ^ 30 := by rcases h with rfl | rfl <;> decide
theorem Rw_save {rw : Nat} (hrw : rw = 10 ∨ rw = 11) {i : Nat} (hi : 37 * i + 37 ≤ rwLen rw) (S : Mem) : ∃ g, f_Rw_save rw 4 (nI i) S = some (pA S rw 0 g) ∧ (∀ p, p < 37 * i ∨ 37 * i + 37 ≤ p → g p = S.2.1 rw 0 p) ∧ ∀ T r, CB T r 4 S → TN T → cR T r (fun k => g (37 * i + k)) := by
  have hl := rw_len hrw
  have e37 : nI i * 37 = nI (37 * i) := by rw [show (37 : Int32) = nI 37 from rfl, iM, Nat.mul_comm]
  have hne : (4 : Nat) ≠ rw := by omega
  have gi : ∀ {α : Type} {k : Option α} (j : Nat), j < 37 → gIn (nI (37 * i + j)) (rwLen rw) k = k := fun j hj => gIn_n (by omega) (by omega)
  have g0 : ∀ {α : Type} {k : Option α}, gIn (nI (37 * i)) (rwLen rw) k = k := gIn_n (by omega) (by omega)
  unfold f_Rw_save f_Rw_save_b0
  rw [letS_e, e37, if_neg (nI_pos (by omega)), show (37 : Int32) = nI 37 from rfl, iA, if_pos (show nI (37 * i + 37) ≤ Int32.ofNat (rwLen rw) from nI_le hi (by omega)), g0, letS_e]
  rw [show (1 : Int32) = nI 1 from rfl, show (2 : Int32) = nI 2 from rfl, show (3 : Int32) = nI 3 from rfl, show (4 : Int32) = nI 4 from rfl, show (7 : Int32) = nI 7 from rfl, show (8 : Int32) = nI 8 from rfl, show (0 : Int32) = nI 0 from rfl]
  simp only [iA, letS_e, Nat.add_assoc, Nat.reduceAdd]
  rw [gi 1 (by decide), gi 2 (by decide), gi 3 (by decide), gCp_n (by decide) (by omega) (by decide) (by omega), gCp_n (by decide) (by omega) (by decide) (by omega), gCp_n (by decide) (by omega) (by decide) (by omega), gCp_n (by decide) (by omega) (by decide) (by omega), gCp_n (by decide) (by omega) (by decide) (by omega)]
  rw [sA_d S, sA_p, sA_p, sA_p, sCp_p _ _ _ _ _ _ _ _ _ hne, sCp_p _ _ _ _ _ _ _ _ _ hne, sCp_p _ _ _ _ _ _ _ _ _ hne, sCp_p _ _ _ _ _ _ _ _ _ hne, sCp_p _ _ _ _ _ _ _ _ _ hne]
  simp only [nI_clamp (show 37 * i < 2 ^ 31 by omega), nI_clamp (show 37 * i + 1 < 2 ^ 31 by omega), nI_clamp (show 37 * i + 2 < 2 ^ 31 by omega), nI_clamp (show 37 * i + 3 < 2 ^ 31 by omega), nI_clamp (show 37 * i + 4 < 2 ^ 31 by omega), nI_clamp (show 37 * i + 8 < 2 ^ 31 by omega), nI_clamp (show 37 * i + 15 < 2 ^ 31 by omega), nI_clamp (show 37 * i + 22 < 2 ^ 31 by omega), nI_clamp (show 37 * i + 29 < 2 ^ 31 by omega), nI_clamp (show 0 < 2 ^ 31 by decide), nI_clamp (show 4 < 2 ^ 31 by decide), nI_clamp (show 7 < 2 ^ 31 by decide), nI_clamp (show 8 < 2 ^ 31 by decide), pA_1]
  refine ⟨_, rfl, fun p hp => ?_, fun T r hB hN => ?_⟩
  · rw [pk_cpy_out (by omega), pk_cpy_out (by omega), pk_cpy_out (by omega), pk_cpy_out (by omega), pk_cpy_out (by omega), upd_at, if_neg (by omega), upd_at, if_neg (by omega), upd_at, if_neg (by omega), upd_at, if_neg (by omega)]
  · obtain ⟨⟨b1, b2, b3, b4⟩, b5, b6, b7⟩ := hB
    have q4 := hN.1.2
    have q7 := hN.2.1.2
    have q8 := hN.2.2.1.2
    refine ⟨⟨?_, ?_, ?_, ?_⟩, fun w hw => ?_, fun a ha => ⟨?_, ?_, ?_⟩, fun s hs => ?_⟩ <;> dsimp only
    · rw [pk_cpy_out (by omega), pk_cpy_out (by omega), pk_cpy_out (by omega), pk_cpy_out (by omega), pk_cpy_out (by omega), upd_at, if_neg (by omega), upd_at, if_neg (by omega), upd_at, if_neg (by omega), upd_at, if_pos (by omega), b1]
    · rw [pk_cpy_out (by omega), pk_cpy_out (by omega), pk_cpy_out (by omega), pk_cpy_out (by omega), pk_cpy_out (by omega), upd_at, if_neg (by omega), upd_at, if_neg (by omega), upd_at, if_pos (by omega), b2]
    · rw [pk_cpy_out (by omega), pk_cpy_out (by omega), pk_cpy_out (by omega), pk_cpy_out (by omega), pk_cpy_out (by omega), upd_at, if_neg (by omega), upd_at, if_pos (by omega), b3]
    · rw [pk_cpy_out (by omega), pk_cpy_out (by omega), pk_cpy_out (by omega), pk_cpy_out (by omega), pk_cpy_out (by omega), upd_at, if_pos (by omega), b4]
    · rw [pk_cpy_out (by omega), pk_cpy_out (by omega), pk_cpy_out (by omega), pk_cpy_out (by omega), pk_cpy_in (by omega) (by omega), show 0 + (37 * i + (4 + w) - (37 * i + 4)) = w by omega, b5 w hw]
    · rw [pk_cpy_out (by omega), pk_cpy_out (by omega), pk_cpy_out (by omega), pk_cpy_in (by omega) (by omega), show 0 + (37 * i + (8 + a) - (37 * i + 8)) = a by omega, (b6 a ha).1]
    · rw [pk_cpy_out (by omega), pk_cpy_out (by omega), pk_cpy_in (by omega) (by omega), show 0 + (37 * i + (15 + a) - (37 * i + 15)) = a by omega, (b6 a ha).2.1]
    · rw [pk_cpy_out (by omega), pk_cpy_in (by omega) (by omega), show 0 + (37 * i + (22 + a) - (37 * i + 22)) = a by omega, (b6 a ha).2.2]
    · rw [pk_cpy_in (by omega) (by omega), show 0 + (37 * i + (29 + s) - (37 * i + 29)) = s by omega, b7 s hs]
theorem Rw_load {rw : Nat} (hrw : rw = 10 ∨ rw = 11) {i : Nat} (hi : 37 * i + 37 ≤ rwLen rw) {S : Mem} {T : TX} {r : RW} (hN : TN T) (hc : cR T r (fun k => S.2.1 rw 0 (37 * i + k))) : Ok (fun S' => Fq 4 S S' ∧ CB T r 4 S') (f_Rw_load rw 4 (nI i) S) := by
  have hl := rw_len hrw
  have e37 : nI i * 37 = nI (37 * i) := by rw [show (37 : Int32) = nI 37 from rfl, iM, Nat.mul_comm]
  have hne : ¬ rw = 4 := by omega
  have gi : ∀ {α : Type} {k : Option α} (j : Nat), j < 37 → gIn (nI (37 * i + j)) (rwLen rw) k = k := fun j hj => gIn_n (by omega) (by omega)
  have g0 : ∀ {α : Type} {k : Option α}, gIn (nI (37 * i)) (rwLen rw) k = k := gIn_n (by omega) (by omega)
  unfold f_Rw_load f_Rw_load_b0
  rw [letS_e, e37, if_neg (nI_pos (by omega)), show (37 : Int32) = nI 37 from rfl, iA, if_pos (show nI (37 * i + 37) ≤ Int32.ofNat (rwLen rw) from nI_le hi (by omega)), g0, letS_e]
  rw [show (1 : Int32) = nI 1 from rfl, show (2 : Int32) = nI 2 from rfl, show (3 : Int32) = nI 3 from rfl, show (4 : Int32) = nI 4 from rfl, show (7 : Int32) = nI 7 from rfl, show (8 : Int32) = nI 8 from rfl, show (0 : Int32) = nI 0 from rfl]
  simp only [iA, letS_e, Nat.add_assoc, Nat.reduceAdd]
  rw [gi 1 (by decide), gi 2 (by decide), gi 3 (by decide), gCp_n (by omega) (by decide) (by omega) (by decide), gCp_n (by omega) (by decide) (by omega) (by decide), gCp_n (by omega) (by decide) (by omega) (by decide), gCp_n (by omega) (by decide) (by omega) (by decide), gCp_n (by omega) (by decide) (by omega) (by decide)]
  refine Ok.i ⟨((((((((((Fq.rf 4 S).p 0 _).p 1 _).p 2 _).p 3 _).c rw 0 4 _ _ _).c rw 0 5 _ _ _).c rw 0 6 _ _ _).c rw 0 7 _ _ _).c rw 0 8 _ _ _), ?_⟩
  obtain ⟨⟨b1, b2, b3, b4⟩, b5, b6, b7⟩ := hc
  dsimp only at b1 b2 b3 b4 b5 b6 b7
  have q4 := hN.1.2
  have q7 := hN.2.1.2
  have q8 := hN.2.2.1.2
  unfold CB
  simp only [sCp_1, sCp_2, pI_2, pI_1, hne, true_and, false_and, and_false, and_true, if_false, if_true, Nat.reduceEqDiff, nI_clamp (show 37 * i < 2 ^ 31 by omega), nI_clamp (show 37 * i + 1 < 2 ^ 31 by omega), nI_clamp (show 37 * i + 2 < 2 ^ 31 by omega), nI_clamp (show 37 * i + 3 < 2 ^ 31 by omega), nI_clamp (show 37 * i + 4 < 2 ^ 31 by omega), nI_clamp (show 37 * i + 8 < 2 ^ 31 by omega), nI_clamp (show 37 * i + 15 < 2 ^ 31 by omega), nI_clamp (show 37 * i + 22 < 2 ^ 31 by omega), nI_clamp (show 37 * i + 29 < 2 ^ 31 by omega), nI_clamp (show 0 < 2 ^ 31 by decide), nI_clamp (show 4 < 2 ^ 31 by decide), nI_clamp (show 7 < 2 ^ 31 by decide), nI_clamp (show 8 < 2 ^ 31 by decide)]
  refine ⟨⟨b1, b2, b3, b4⟩, fun w hw => ?_, fun a ha => ⟨?_, ?_, ?_⟩, fun s hs => ?_⟩
  · rw [pk_cpy_in (by omega) (by omega), show 37 * i + 4 + (w - 0) = 37 * i + (4 + w) by omega, b5 w hw]
  · rw [pk_cpy_in (by omega) (by omega), show 37 * i + 8 + (a - 0) = 37 * i + (8 + a) by omega, (b6 a ha).1]
  · rw [pk_cpy_in (by omega) (by omega), show 37 * i + 15 + (a - 0) = 37 * i + (15 + a) by omega, (b6 a ha).2.1]
  · rw [pk_cpy_in (by omega) (by omega), show 37 * i + 22 + (a - 0) = 37 * i + (22 + a) by omega, (b6 a ha).2.2]
  · rw [pk_cpy_in (by omega) (by omega), show 37 * i + 29 + (s - 0) = 37 * i + (29 + s) by omega, b7 s hs]
theorem cR.c {T : TX} {r : RW} {g g' : Nat → Int32} (hN : TN T) (h : cR T r g) (e : ∀ k, k < 37 → g' k = g k) : cR T r g' := by
  obtain ⟨⟨b1, b2, b3, b4⟩, b5, b6, b7⟩ := h
  have q4 := hN.1.2
  have q7 := hN.2.1.2
  have q8 := hN.2.2.1.2
  refine ⟨⟨(e 0 (by omega)).trans b1, (e 1 (by omega)).trans b2, (e 2 (by omega)).trans b3, (e 3 (by omega)).trans b4⟩, fun w hw => (e _ (by omega)).trans (b5 w hw), fun a ha => ⟨(e _ (by omega)).trans (b6 a ha).1, (e _ (by omega)).trans (b6 a ha).2.1, (e _ (by omega)).trans (b6 a ha).2.2⟩, fun s hs => (e _ (by omega)).trans (b7 s hs)⟩
theorem CT.of {T : TX} {tx : Nat} {S S' : Mem} (h : CT T tx S) (e1 : S'.1 tx = S.1 tx) (e2 : ∀ f, 8 ≤ f → S'.2.1 tx f = S.2.1 tx f) : CT T tx S' := by
  unfold CT
  rw [e1, e2 8 (by omega), e2 9 (by omega), e2 10 (by omega), e2 11 (by omega), e2 12 (by omega), e2 13 (by omega), e2 14 (by omega), e2 15 (by omega), e2 16 (by omega)]
  exact h
theorem CXt.of {T : TX} {F : LF} {tx : Nat} {S S' : Mem} (h : CXt T F tx S) (e1 : ∀ o, 20 ≤ o → S'.1 o = S.1 o) (e2 : ∀ o f, 20 ≤ o → f ≠ 1 → S'.2.1 o f = S.2.1 o f) (e3 : S'.1 0 11 = S.1 0 11) (e4 : S'.1 0 12 = S.1 0 12) : CXt T F tx S' := by
  obtain ⟨⟨h0, h1, h1b⟩, h2, h3, h4, h5⟩ := h
  exact ⟨⟨h0, h1.of (e1 tx h0) (fun f hf => e2 tx f h0 (by omega)), h1b.lw (fun l _ _ => ⟨e1 _ (by omega), e2 _ _ (by omega) (by decide)⟩)⟩, h2, by rw [e1 tx h0]; exact h3, e3.trans h4, e4.trans h5⟩
theorem Co_keepForUndo {tx : Nat} {T : TX} {F : LF} {r : RW} {U : UX} {H : HX} {N : NX} {B : BX} {P : Int32} {S : Mem} (hN : TN T) (h : COK tx T F r U H N B P S) : Ok (fun S' => COK tx T F r (push U r) H N B P S') (f_Co_keepForUndo S) := by
  obtain ⟨⟨h1, ⟨o, ho, eo, ec, hu, hc⟩, h3, h4, h5, h6, h7⟩, hB, hM, hR⟩ := h
  have hs : (o + U.1) % 40 < 40 := Nat.mod_lt _ (by decide)
  obtain ⟨g, eg, g1, g2⟩ := Rw_save (rw := 10) (Or.inl rfl) (i := (o + U.1) % 40) (by show _ ≤ 1480; omega) S
  have gr := g2 T r hB hN
  unfold f_Co_keepForUndo f_Co_keepForUndo_b0
  rw [show ∀ k : Option Mem, gNz 40 k = k from fun k => if_neg (by decide), eo, ec, iA, n40, pk_rem (by omega) (by decide) (by decide), eg, bind_e]
  have e15 : (pA S 10 0 g).1 0 15 = nI U.1 := ec
  have e14 : (pA S 10 0 g).1 0 14 = nI o := eo
  rw [e15, e14]
  by_cases q : U.1 = 40
  · rw [q, if_pos (le_rf 40), show ∀ k : Option Mem, gNz (nI 40) k = k from fun k => if_neg (by decide), letS_e, nI_1, pk_rem (by omega) (by decide) (by decide)]
    refine Ok.i ⟨⟨h1.of (fun a ha => ?_) (fun a f ha hf => ?_) rfl rfl, ⟨(o + 1) % 40, Nat.mod_lt _ (by decide), rfl, ?_, ?_, ?_⟩, h3, h4, h5, h6, h7⟩, hB, hM, hR⟩
    · funext k; rw [pI_1, if_neg (by omega)]; rfl
    · rw [pI_2, pA_2, if_neg (by omega)]
    · unfold push; rw [if_pos q]; exact ec.trans (by rw [q])
    · unfold push; rw [if_pos q]; exact Nat.le_refl 40
    · unfold push; rw [if_pos q]
      intro i hi
      have hi : i < 40 := hi
      show cR T (updR (fun i => U.2 (i + 1)) 39 r i) (fun k => g (37 * (((o + 1) % 40 + i) % 40) + k))
      unfold updR
      by_cases qi : i = 39
      · rw [if_pos qi, show ((o + 1) % 40 + i) % 40 = (o + U.1) % 40 by omega]; exact gr
      · rw [if_neg qi]
        refine (hc (i + 1) (by omega)).c hN (fun k hk => ?_)
        rw [show ((o + 1) % 40 + i) % 40 = (o + (i + 1)) % 40 by omega, g1 _ (by omega)]
  · rw [if_neg (le_nI (show ¬ 40 ≤ U.1 by omega) (by decide) (by omega)), letS_e, nI_1]
    refine Ok.i ⟨⟨h1.of (fun a ha => ?_) (fun a f ha hf => ?_) rfl rfl, ⟨o, ho, eo, ?_, ?_, ?_⟩, h3, h4, h5, h6, h7⟩, hB, hM, hR⟩
    · funext k; rw [pI_1, if_neg (by omega)]; rfl
    · rw [pI_2, pA_2, if_neg (by omega)]
    · unfold push; rw [if_neg q]; rfl
    · unfold push; rw [if_neg q]; show U.1 + 1 ≤ 40; omega
    · unfold push; rw [if_neg q]
      intro i hi
      have hi : i < U.1 + 1 := hi
      show cR T (updR U.2 U.1 r i) (fun k => g (37 * ((o + i) % 40) + k))
      unfold updR
      by_cases qi : i = U.1
      · rw [if_pos qi, qi]; exact gr
      · rw [if_neg qi]
        refine (hc i (by omega)).c hN (fun k hk => ?_)
        rw [g1 _ (by omega)]
theorem Co_undo_n {tx : Nat} {T : TX} {F : LF} {r : RW} {U : UX} {H : HX} {N : NX} {B : BX} {P : Int32} {S : Mem} (h : COK tx T F r U H N B P S) (h0 : U.1 = 0) : f_Co_undo S = some (0, S) := by
  obtain ⟨⟨-, ⟨o, ho, eo, ec, -⟩, -⟩, -⟩ := h
  unfold f_Co_undo f_Co_undo_b0
  rw [ec, h0, if_pos (by rfl)]
set_option maxHeartbeats 100000 in
theorem Co_undo_y {tx : Nat} {T : TX} {F : LF} {r : RW} {U : UX} {H : HX} {N : NX} {B : BX} {P : Int32} {S : Mem} (hT : TG T F) (h : COK tx T F r U H N B P S) {u : Nat} (h0 : U.1 = u + 1) (hG : GR T (U.2 u)) : Ok (fun z : Int32 × Mem => z.1 = 1 ∧ COK tx T F (U.2 u) (u, U.2) H N B P z.2) (f_Co_undo S) := by
  obtain ⟨⟨h1, ⟨o, ho, eo, ec, hu, hc⟩, h3, h4, h5, h6, h7⟩, hB, hM, hR⟩ := h
  unfold f_Co_undo f_Co_undo_b0
  rw [ec, if_neg (nI_ne0 (by omega) (by omega)), letS_e, h0, nI_pred]
  have hs : (o + u) % 40 < 40 := Nat.mod_lt _ (by decide)
  have k1 : CR tx T F (u, U.2) H N B P (pI S 0 15 (nI u)) := by
    refine ⟨h1.of (fun a ha => ?_) (fun a f ha hf => rfl) rfl rfl, ⟨o, ho, eo, rfl, by show u ≤ 40; omega, fun i hi => hc i (by have : i < u := hi; omega)⟩, h3, h4, h5, h6, h7⟩
    funext k; rw [pI_1, if_neg (by omega)]
  have e14 : (pI S 0 15 (nI u)).1 0 14 = nI o := eo
  have e15 : (pI S 0 15 (nI u)).1 0 15 = nI u := rfl
  have ecs : (pI S 0 15 (nI u)).2.1 = S.2.1 := rfl
  generalize pI S 0 15 (nI u) = S1 at k1 e14 e15 ecs ⊢
  have gz : ∀ k : Option (Int32 × Mem), gNz 40 k = k := fun k => if_neg (by decide)
  rw [gz, e14, e15, iA, n40, pk_rem (by omega) (by decide) (by decide)]
  have hcu : cR T (U.2 u) (fun k => S1.2.1 10 0 (37 * ((o + u) % 40) + k)) := by rw [ecs]; exact hc u (by omega)
  refine (Rw_load (rw := 10) (Or.inl rfl) (i := (o + u) % 40) (by show _ ≤ 1480; omega) hT.1 hcu).b (fun q hq => ?_)
  refine (Co_changed hT hG.1 (k1.fq hq.1 (Or.inl rfl)) hq.2).b (fun q2 hq2 => Ok.i ⟨rfl, ?_⟩)
  rw [cut_id hG.2.2.1] at hq2
  exact hq2
theorem lt3 {s : Nat} (hs : s < 3) : nI s < (3 : Int32) := nI_lt (b := 3) hs (by decide)
theorem Co_hold_y {tx : Nat} {T : TX} {F : LF} {r : RW} {U : UX} {H : HX} {N : NX} {B : BX} {P : Int32} {S : Mem} (hN : TN T) (h : COK tx T F r U H N B P S) {s : Nat} (hs : s < 3) : Ok (fun z : Int32 × Mem => z.1 = 1 ∧ COK tx T F r U (updB H.1 s true, updR H.2 s r) N B P z.2) (f_Co_hold (nI s) S) := by
  obtain ⟨⟨h1, h2, ⟨e3, h3⟩, h4, h5, h6, h7⟩, hB, hM, hR⟩ := h
  obtain ⟨g, eg, g1, g2⟩ := Rw_save (rw := 11) (Or.inr rfl) (i := s) (by show _ ≤ 111; omega) S
  have gr := g2 T r hB hN
  unfold f_Co_hold f_Co_hold_b0
  rw [if_neg (nI_pos (by omega)), if_pos (lt3 hs), eg, bind_e, letS_e]
  refine Ok.i ⟨rfl, ⟨h1.of (fun a ha => ?_) (fun a f ha hf => ?_) rfl rfl, h2, ⟨?_, fun i hi hb => ?_⟩, h4, h5, h6, h7⟩, hB, hM, hR⟩
  · funext k; rw [pI_1, if_neg (by omega)]; rfl
  · rw [pI_2, pA_2, if_neg (by omega)]
  · show S.1 0 16 ||| bitM s = _
    rw [e3]
    refine b_ext (fun j hj => ?_)
    have hh : ∀ K : Nat → Bool, bt (orF (fun s => if K s then bitM s else 0) 3) j = decide (j < 3 ∧ K j = true) := fun K => by
      have := bt_orM (P := fun s => K s = true) (n := 3) (i := j) (by decide) hj
      rw [Bool.eq_iff_iff, this, decide_eq_true_iff]
    rw [b_or, hh, hh, bt_bitM (by omega) hj]
    unfold updB
    by_cases q : j = s
    · subst q; simp [hs]
    · simp [q]
  · show cR T (updR H.2 s r i) (fun k => g (37 * i + k))
    unfold updR
    by_cases q : i = s
    · rw [if_pos q, q]; exact gr
    · rw [if_neg q]
      refine (h3 i hi ?_).c hN (fun k hk => ?_)
      · have hb : updB H.1 s true i = true := hb
        unfold updB at hb; rwa [if_neg q] at hb
      · rw [g1 _ (by omega)]
theorem Co_hold_n {x : Int32} {S : Mem} (h : ∀ j, j < 3 → x ≠ nI j) : f_Co_hold x S = some (0, S) := by
  unfold f_Co_hold f_Co_hold_b0
  rcases rg x (n := 3) (by decide) with ⟨j, hj, e⟩ | ⟨-, q | ⟨q, q1, q2⟩⟩
  · exact absurd e (h j hj)
  · rw [if_pos q]
  · rw [if_neg q, if_neg (show ¬ x < (3 : Int32) from q2)]
theorem Co_restore_n {x : Int32} {S : Mem} (h : ∀ j, j < 3 → x ≠ nI j) : f_Co_restore x S = some (0, S) := by
  unfold f_Co_restore f_Co_restore_b0
  rcases rg x (n := 3) (by decide) with ⟨j, hj, e⟩ | ⟨-, q | ⟨q, q1, q2⟩⟩
  · exact absurd e (h j hj)
  · rw [if_pos q]
  · rw [if_neg q, if_pos (show (3 : Int32) ≤ x from q1)]
theorem held_b {H : HX} {s : Nat} (hs : s < 3) : bitOf (orF (fun s => if H.1 s then bitM s else 0) 3) s = if H.1 s then 1 else 0 := by
  rw [bitOf_bt _ (by omega)]
  have := bt_orM (P := fun s => H.1 s = true) (n := 3) (i := s) (by decide) (by omega)
  by_cases q : H.1 s = true
  · rw [if_pos (this.mpr ⟨hs, q⟩), if_pos q]
  · rw [if_neg (fun z => q (this.mp z).2), if_neg q]
theorem Co_restore_e {tx : Nat} {T : TX} {F : LF} {r : RW} {U : UX} {H : HX} {N : NX} {B : BX} {P : Int32} {S : Mem} (h : COK tx T F r U H N B P S) {s : Nat} (hs : s < 3) (he : H.1 s = false) : f_Co_restore (nI s) S = some (0, S) := by
  obtain ⟨⟨h1, h2, ⟨e3, h3⟩, -⟩, -⟩ := h
  unfold f_Co_restore f_Co_restore_b0
  have e : ((S.1 0 16) >>> (nI s &&& 31)) &&& 1 = 0 := by
    have := held_b (H := H) hs
    rw [he, ← e3] at this
    exact this
  rw [if_neg (nI_pos (by omega)), if_neg (show ¬ (3 : Int32) ≤ nI s from le_nI (show ¬ 3 ≤ s by omega) (by decide) (by omega)), if_pos e]
theorem Co_restore_y {tx : Nat} {T : TX} {F : LF} {r : RW} {U : UX} {H : HX} {N : NX} {B : BX} {P : Int32} {S : Mem} (hT : TG T F) (h : COK tx T F r U H N B P S) {s : Nat} (hs : s < 3) (he : H.1 s = true) (hG : GR T (H.2 s)) : Ok (fun z : Int32 × Mem => z.1 = 1 ∧ COK tx T F (H.2 s) (0, U.2) H N B P z.2) (f_Co_restore (nI s) S) := by
  obtain ⟨⟨h1, h2, ⟨e3, h3⟩, h4, h5, h6, h7⟩, hB, hM, hR⟩ := h
  have e : ¬ ((S.1 0 16) >>> (nI s &&& 31)) &&& 1 = 0 := by
    have := held_b (H := H) hs
    rw [he, ← e3] at this
    intro z
    have t : bitOf (S.1 0 16) s = 0 := z
    rw [this] at t
    exact absurd t (by decide)
  unfold f_Co_restore f_Co_restore_b0
  rw [if_neg (nI_pos (by omega)), if_neg (show ¬ (3 : Int32) ≤ nI s from le_nI (show ¬ 3 ≤ s by omega) (by decide) (by omega)), if_neg e]
  refine (Rw_load (rw := 11) (Or.inr rfl) (i := s) (by show _ ≤ 111; omega) hT.1 (r := H.2 s) (h3 s hs he)).b (fun q hq => ?_)
  have k0 : CR tx T F U H N B P q := (show CR tx T F U H N B P S from ⟨h1, h2, ⟨e3, h3⟩, h4, h5, h6, h7⟩).fq hq.1 (Or.inl rfl)
  obtain ⟨c1, c2, c3, c4, c5, c6, c7⟩ := k0
  unfold f_Co_forgetDone f_Co_forgetDone_b0
  rw [letS_e, letS_e, bind_e]
  have k1 : CR tx T F (0, U.2) H N B P (pI (pI q 0 14 0) 0 15 0) := by
    refine ⟨c1.of (fun a ha => ?_) (fun a f ha hf => rfl) rfl rfl, ⟨0, by decide, rfl, rfl, Nat.zero_le _, fun i hi => absurd hi (by show ¬ i < 0; omega)⟩, c3, c4, c5, c6, c7⟩
    funext k; rw [pI_1, if_neg (by omega), pI_1, if_neg (by omega)]
  have hB2 : CB T (H.2 s) 4 (pI (pI q 0 14 0) 0 15 0) := hq.2
  refine (Co_changed hT hG.1 k1 hB2).b (fun q2 hq2 => Ok.i ⟨rfl, ?_⟩)
  rw [cut_id hG.2.2.1] at hq2
  exact hq2
