/-! READ: the reference reads, up to the end of the tells. -/
variable {v u : Nat} {S S' S0 : Mem} {T T0 : TX} {F : LF} {r : RW} {U : UX} {H : HX} {N : NX} {B : BX} {P : Int32}
theorem nar_b {x : Int32} (h : ∃ y : Int8, x = y.toInt32) : vp_nar .byte x = x := by
  obtain ⟨y, rfl⟩ := h
  rw [vp_nar_byte]; simp
/-- what reading leaves of the side that lives -/
def RF (v : Nat) (S S' : Mem) : Prop := (∀ k, ¬ (frI k ∨ k = 2 ∨ k = 4 ∨ k = 10 ∨ k = 17 ∨ k = 19) → S'.1 0 k = S.1 0 k) ∧ (∀ f i, ¬ (f = 3 ∨ f = 5 ∨ f = 6 ∨ f = 7 ∨ f = 22 ∨ f = 23 ∨ f = 51) → (sdF f = 0 ∨ (sdF f * v ≤ i ∧ i < sdF f * v + sdF f)) → S'.2.1 0 f i = S.2.1 0 f i) ∧ ∀ f, f ≠ 8 → f ≠ 21 → S'.2.2 0 f = S.2.2 0 f
theorem RF.rf (v : Nat) (S : Mem) : RF v S S := ⟨fun _ _ => rfl, fun _ _ _ _ => rfl, fun _ _ _ => rfl⟩
theorem RF.tr {A B C : Mem} (h1 : RF v A B) (h2 : RF v B C) : RF v A C := ⟨fun k h => (h2.1 k h).trans (h1.1 k h), fun f i a b => (h2.2.1 f i a b).trans (h1.2.1 f i a b), fun f a b => (h2.2.2 f a b).trans (h1.2.2 f a b)⟩
theorem RF.i {k : Nat} (hk : frI k ∨ k = 2 ∨ k = 4 ∨ k = 10 ∨ k = 17 ∨ k = 19) (x : Int32) : RF v S (pI S 0 k x) := ⟨fun k' h' => by rw [pI_1, if_neg (fun z => h' (by rw [z.2]; exact hk))], fun _ _ _ _ => rfl, fun _ _ _ => rfl⟩
theorem LVm.rf2 (h : LVm v S S') : RF v S S' := ⟨fun k hk => h.1 k (fun z => hk (Or.inl z)), fun f i a b => h.2.1 f i (by omega) b, fun f _ a => h.2.2 f a⟩
theorem O2.rf2 (h : O2 S S') : RF v S S' := ⟨fun k hk => h.1 k (by omega), fun f i a _ => by rw [h.2.1 f (by omega) (by omega) (by omega)], fun f a _ => h.2.2 f a⟩
theorem MOK.kp (h : MOK v T F r U H N B P S) (hf : RF v S S') (e2 : S'.1 0 2 = 0) : MOK v T F r U H N (0, B.2) (S'.1 0 17) S' := by
  obtain ⟨⟨⟨hv, e18, ⟨a1, a2, a3, a4⟩, ⟨a5, a6, a7⟩, t1, t2, t3, t4⟩, hL⟩, h2, h3, h4, h5, h6, h7, h8⟩ := h
  have n18 : S'.1 0 18 = S.1 0 18 := hf.1 18 (by unfold frI; omega)
  have cv : (S.1 0 18).toNatClampNeg = v := by rw [e18]; exact cl (by omega)
  have c1 : ∀ f, sdF f = 1 → ¬ (f = 3 ∨ f = 5 ∨ f = 6 ∨ f = 7 ∨ f = 22 ∨ f = 23 ∨ f = 51) → S'.2.1 0 f v = S.2.1 0 f v := fun f hs hn => hf.2.1 f v hn (Or.inr (by rw [hs]; omega))
  have cz : ∀ f, sdF f = 0 → ¬ (f = 3 ∨ f = 5 ∨ f = 6 ∨ f = 7 ∨ f = 22 ∨ f = 23 ∨ f = 51) → S'.2.1 0 f = S.2.1 0 f := fun f hs hn => by funext i; exact hf.2.1 f i hn (Or.inl hs)
  have cm : ∀ f m, sdF f = m → ¬ (f = 3 ∨ f = 5 ∨ f = 6 ∨ f = 7 ∨ f = 22 ∨ f = 23 ∨ f = 51) → ∀ i, i < m → S'.2.1 0 f (m * v + i) = S.2.1 0 f (m * v + i) := fun f m hs hn i hi => hf.2.1 f _ hn (Or.inr (by rw [hs]; omega))
  have i1 : ∀ k, ¬ (frI k ∨ k = 2 ∨ k = 4 ∨ k = 10 ∨ k = 17 ∨ k = 19) → S'.1 0 k = S.1 0 k := hf.1
  refine ⟨⟨⟨hv, by rw [n18]; exact e18, ⟨?_, ?_, ?_, ?_⟩, ⟨?_, ?_, ?_⟩, fun w hw => ?_, fun w hw => ?_, fun w hw => ?_, fun w hw => ?_⟩, fun S2 k p m hl hk => hL S2 k p m (LwM.tr ⟨n18, fun f i hfi => ?_⟩ hl) hk⟩, ?_, ?_, ?_, ?_, ⟨e2, by show 0 ≤ 2000; omega, fun i hi => absurd hi (by show ¬ i < 0; omega)⟩, rfl, ?_⟩
  · rw [c1 24 (by decide) (by decide)]; exact a1
  · rw [c1 27 (by decide) (by decide)]; exact a2
  · rw [c1 30 (by decide) (by decide)]; exact a3
  · rw [c1 34 (by decide) (by decide)]; exact a4
  · rw [c1 37 (by decide) (by decide)]; exact a5
  · rw [c1 38 (by decide) (by decide)]; exact a6
  · rw [c1 39 (by decide) (by decide)]; exact a7
  · rw [cm 25 4 (by decide) (by decide) w hw, cm 26 4 (by decide) (by decide) w hw]; exact t1 w hw
  · rw [cm 28 7 (by decide) (by decide) w hw, cm 29 7 (by decide) (by decide) w hw]; exact t2 w hw
  · rw [cm 31 8 (by decide) (by decide) w hw, cm 32 8 (by decide) (by decide) w hw, cm 33 8 (by decide) (by decide) w hw]; exact t3 w hw
  · rw [cm 35 12 (by decide) (by decide) w hw, cm 36 12 (by decide) (by decide) w hw]; exact t4 w hw
  · rw [cv] at hfi
    have s40 : ∀ f, f = 40 ∨ f = 41 → sdF f = 3 := fun f hf => by rcases hf with rfl | rfl <;> decide
    have s43 : ∀ f, 43 ≤ f ∧ f ≤ 47 → sdF f = 130 := fun f hf => by
      rcases (show f = 43 ∨ f = 44 ∨ f = 45 ∨ f = 46 ∨ f = 47 by omega) with rfl | rfl | rfl | rfl | rfl <;> decide
    have s49 : ∀ f, f = 49 ∨ f = 50 → sdF f = 420 := fun f hf => by rcases hf with rfl | rfl <;> decide
    rcases hfi with ⟨x1, x2, x3⟩ | ⟨x1, x2, x3⟩ | ⟨x1, x2, x3⟩
    · exact hf.2.1 f i (by omega) (Or.inr (by rw [s40 f x1]; omega))
    · exact hf.2.1 f i (by omega) (Or.inr (by rw [s43 f x1]; omega))
    · exact hf.2.1 f i (by omega) (Or.inr (by rw [s49 f x1]; omega))
  · rw [cz 56 (by decide) (by decide)]; exact h2
  · rw [i1 60 (by unfold frI; omega), cz 61 (by decide) (by decide)]; exact h3
  · rw [cz 72 (by decide) (by decide), cz 73 (by decide) (by decide)]; exact h4
  · rw [i1 68 (by unfold frI; omega), cz 69 (by decide) (by decide), cz 70 (by decide) (by decide), cz 71 (by decide) (by decide)]; exact h5
  · rw [hf.2.2 9 (by decide) (by decide)]; exact h8
theorem Mo_plain (hu : u < 2) (S : Mem) : Ok (fun S' => S'.1 = S.1 ∧ S'.2.2 = S.2.2 ∧ LVm (1 - u) S S' ∧ (∀ f, ¬ (f = 24 ∨ f = 27 ∨ f = 30 ∨ f = 34 ∨ f = 37 ∨ f = 38 ∨ f = 39 ∨ f = 40 ∨ f = 41) → S'.2.1 0 f = S.2.1 0 f) ∧ (S'.2.1 0 24 u = 0 ∧ S'.2.1 0 27 u = 0 ∧ S'.2.1 0 30 u = 0 ∧ S'.2.1 0 34 u = 0 ∧ S'.2.1 0 37 u = 9 ∧ S'.2.1 0 38 u = 10 ∧ S'.2.1 0 39 u = 0) ∧ ∀ k, k < 3 → S'.2.1 0 40 (3 * u + k) = 0 ∧ S'.2.1 0 41 (3 * u + k) = 0) (f_Mo_plain (nI u) S) := by
  have cu : (nI u).toNatClampNeg = u := cl (by omega)
  have ev : 1 - (1 - u) = u := by omega
  have one : ∀ {M : Mem} (f : Nat) (x : Int32), sdF f = 1 → LVm (1 - u) M (sA M 0 f (nI u) x) := fun {M} f x hs => by
    have := LVm.s (S := M) (v := 1 - u) (f := f) (i := 0) (by omega) (by omega) (by omega) x
    rw [hs, ev, Nat.one_mul, Nat.add_zero] at this; exact this
  have three : ∀ {M : Mem} (f k : Nat) (x : Int32), sdF f = 3 → k < 3 → LVm (1 - u) M (sA M 0 f (nI (3 * u + k)) x) := fun {M} f k x hs hk => by
    have := LVm.s (S := M) (v := 1 - u) (f := f) (i := k) (by omega) (by omega) (by omega) x
    rw [hs, ev] at this; exact this
  unfold f_Mo_plain f_Mo_plain_b0
  simp only [g2 hu, letS_e]
  have L7 : LVm (1 - u) S (sA (sA (sA (sA (sA (sA (sA S 0 24 (nI u) 0) 0 27 (nI u) 0) 0 30 (nI u) 0) 0 34 (nI u) 0) 0 37 (nI u) 9) 0 38 (nI u) 10) 0 39 (nI u) 0) := ((((((one 24 0 (by decide)).tr (one 27 0 (by decide))).tr (one 30 0 (by decide))).tr (one 34 0 (by decide))).tr (one 37 9 (by decide))).tr (one 38 10 (by decide))).tr (one 39 0 (by decide))
  have V7 : (sA (sA (sA (sA (sA (sA (sA S 0 24 (nI u) 0) 0 27 (nI u) 0) 0 30 (nI u) 0) 0 34 (nI u) 0) 0 37 (nI u) 9) 0 38 (nI u) 10) 0 39 (nI u) 0).2.1 0 24 u = 0 ∧ (sA (sA (sA (sA (sA (sA (sA S 0 24 (nI u) 0) 0 27 (nI u) 0) 0 30 (nI u) 0) 0 34 (nI u) 0) 0 37 (nI u) 9) 0 38 (nI u) 10) 0 39 (nI u) 0).2.1 0 27 u = 0 ∧ (sA (sA (sA (sA (sA (sA (sA S 0 24 (nI u) 0) 0 27 (nI u) 0) 0 30 (nI u) 0) 0 34 (nI u) 0) 0 37 (nI u) 9) 0 38 (nI u) 10) 0 39 (nI u) 0).2.1 0 30 u = 0 ∧ (sA (sA (sA (sA (sA (sA (sA S 0 24 (nI u) 0) 0 27 (nI u) 0) 0 30 (nI u) 0) 0 34 (nI u) 0) 0 37 (nI u) 9) 0 38 (nI u) 10) 0 39 (nI u) 0).2.1 0 34 u = 0 ∧ (sA (sA (sA (sA (sA (sA (sA S 0 24 (nI u) 0) 0 27 (nI u) 0) 0 30 (nI u) 0) 0 34 (nI u) 0) 0 37 (nI u) 9) 0 38 (nI u) 10) 0 39 (nI u) 0).2.1 0 37 u = 9 ∧ (sA (sA (sA (sA (sA (sA (sA S 0 24 (nI u) 0) 0 27 (nI u) 0) 0 30 (nI u) 0) 0 34 (nI u) 0) 0 37 (nI u) 9) 0 38 (nI u) 10) 0 39 (nI u) 0).2.1 0 38 u = 10 ∧ (sA (sA (sA (sA (sA (sA (sA S 0 24 (nI u) 0) 0 27 (nI u) 0) 0 30 (nI u) 0) 0 34 (nI u) 0) 0 37 (nI u) 9) 0 38 (nI u) 10) 0 39 (nI u) 0).2.1 0 39 u = 0 := by simp [sA_2, cu, upd_at]
  have A7 : ∀ f, ¬ (f = 24 ∨ f = 27 ∨ f = 30 ∨ f = 34 ∨ f = 37 ∨ f = 38 ∨ f = 39 ∨ f = 40 ∨ f = 41) → (sA (sA (sA (sA (sA (sA (sA S 0 24 (nI u) 0) 0 27 (nI u) 0) 0 30 (nI u) 0) 0 34 (nI u) 0) 0 37 (nI u) 9) 0 38 (nI u) 10) 0 39 (nI u) 0).2.1 0 f = S.2.1 0 f := fun f hf => by
    rw [sA_2, if_neg (by omega), sA_2, if_neg (by omega), sA_2, if_neg (by omega), sA_2, if_neg (by omega), sA_2, if_neg (by omega), sA_2, if_neg (by omega), sA_2, if_neg (by omega)]
  have I7 : (sA (sA (sA (sA (sA (sA (sA S 0 24 (nI u) 0) 0 27 (nI u) 0) 0 30 (nI u) 0) 0 34 (nI u) 0) 0 37 (nI u) 9) 0 38 (nI u) 10) 0 39 (nI u) 0).1 = S.1 ∧ (sA (sA (sA (sA (sA (sA (sA S 0 24 (nI u) 0) 0 27 (nI u) 0) 0 30 (nI u) 0) 0 34 (nI u) 0) 0 37 (nI u) 9) 0 38 (nI u) 10) 0 39 (nI u) 0).2.2 = S.2.2 := ⟨rfl, rfl⟩
  generalize sA (sA (sA (sA (sA (sA (sA S 0 24 (nI u) 0) 0 27 (nI u) 0) 0 30 (nI u) 0) 0 34 (nI u) 0) 0 37 (nI u) 9) 0 38 (nI u) 10) 0 39 (nI u) 0 = S1 at L7 V7 A7 I7 ⊢
  refine lpN (P := fun m j => ∀ S2, S2.1 = S.1 → S2.2.2 = S.2.2 → LVm (1 - u) S S2 → (∀ f, ¬ (f = 40 ∨ f = 41) → S2.2.1 0 f = S1.2.1 0 f) → (∀ k, k < j → S2.2.1 0 40 (3 * u + k) = 0 ∧ S2.2.1 0 41 (3 * u + k) = 0) → Ok (fun S' => S'.1 = S.1 ∧ S'.2.2 = S.2.2 ∧ LVm (1 - u) S S' ∧ (∀ f, ¬ (f = 24 ∨ f = 27 ∨ f = 30 ∨ f = 34 ∨ f = 37 ∨ f = 38 ∨ f = 39 ∨ f = 40 ∨ f = 41) → S'.2.1 0 f = S.2.1 0 f) ∧ (S'.2.1 0 24 u = 0 ∧ S'.2.1 0 27 u = 0 ∧ S'.2.1 0 30 u = 0 ∧ S'.2.1 0 34 u = 0 ∧ S'.2.1 0 37 u = 9 ∧ S'.2.1 0 38 u = 10 ∧ S'.2.1 0 39 u = 0) ∧ ∀ k, k < 3 → S'.2.1 0 40 (3 * u + k) = 0 ∧ S'.2.1 0 41 (3 * u + k) = 0) (f_Mo_plain_l53 m (nI u) (nI j) S2)) 3 (fun m j hj ih S2 x1 x2 x3 x4 x5 => ?_) (fun m S2 x1 x2 x3 x4 x5 => ?_) 5000 0 (by omega) (by omega) S1 I7.1 I7.2 L7 (fun _ _ => rfl) (fun k hk => absurd hk (by omega))
  · show Ok _ (f_Mo_plain_b53 (f_Mo_plain_l53 m) (nI u) (nI j) S2)
    unfold f_Mo_plain_b53
    rw [if_neg (show ¬ (3 : Int32) ≤ nI j from le_nI (a := 3) (by omega) (by decide) (by omega)), m3, gIn_n (show 3 * u + j < 6 by omega) (by decide), letS_e, gIn_n (show 3 * u + j < 6 by omega) (by decide), letS_e, nI_1]
    have c3 : (nI (3 * u + j)).toNatClampNeg = 3 * u + j := cl (by omega)
    refine ih _ x1 x2 ((x3.tr (three 40 j 0 (by decide) hj)).tr (three 41 j 0 (by decide) hj)) (fun f hf => ?_) (fun k hk => ?_)
    · rw [sA_2, if_neg (by omega), sA_2, if_neg (by omega)]; exact x4 f hf
    · have e40 : ∀ M : Mem, (sA (sA M 0 40 (nI (3 * u + j)) 0) 0 41 (nI (3 * u + j)) 0).2.1 0 40 (3 * u + k) = upd (M.2.1 0 40) (3 * u + j) 0 (3 * u + k) := fun M => by rw [sA_2, if_neg (by omega), sA_2, if_pos ⟨rfl, rfl⟩, c3]
      have e41 : ∀ M : Mem, (sA (sA M 0 40 (nI (3 * u + j)) 0) 0 41 (nI (3 * u + j)) 0).2.1 0 41 (3 * u + k) = upd (M.2.1 0 41) (3 * u + j) 0 (3 * u + k) := fun M => by rw [sA_2, if_pos ⟨rfl, rfl⟩, sA_2, if_neg (by omega), c3]
      rw [e40, e41, upd_at, upd_at]
      by_cases q : k = j
      · rw [if_pos (by omega), if_pos (by omega)]; exact ⟨rfl, rfl⟩
      · rw [if_neg (by omega), if_neg (by omega)]; exact x5 k (by omega)
  · show Ok _ (f_Mo_plain_b53 (f_Mo_plain_l53 m) (nI u) (nI 3) S2)
    unfold f_Mo_plain_b53
    rw [if_pos (show (3 : Int32) ≤ nI 3 by decide)]
    refine Ok.i ⟨x1, x2, x3, fun f hf => ?_, ?_, x5⟩
    · rw [x4 f (by omega)]; exact A7 f hf
    · rw [x4 24 (by decide), x4 27 (by decide), x4 30 (by decide), x4 34 (by decide), x4 37 (by decide), x4 38 (by decide), x4 39 (by decide)]; exact V7
