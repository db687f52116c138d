/-! THE REFERENCE: rows copied, water cut. Fr: all but its scratch cells (row, variables, pile, broken, lots, knewOf, rain, may) is as it was. -/
def scI (k : Nat) : Prop := k = 55 ∨ k = 58 ∨ k = 67
def scA (k : Nat) : Prop := k = 53 ∨ k = 54 ∨ k = 57 ∨ k = 59 ∨ k = 66
def Fr (S S' : Mem) : Prop := (∀ k, ¬ scI k → S'.1 0 k = S.1 0 k) ∧ (∀ f, ¬ scA f → S'.2.1 0 f = S.2.1 0 f) ∧ S'.2.2 = S.2.2
theorem Fr.rf (S : Mem) : Fr S S := ⟨fun _ _ => rfl, fun _ _ => rfl, rfl⟩
theorem Fr.tr {A B C : Mem} (h1 : Fr A B) (h2 : Fr B C) : Fr A C := ⟨fun k h => (h2.1 k h).trans (h1.1 k h), fun k h => (h2.2.1 k h).trans (h1.2.1 k h), h2.2.2.trans h1.2.2⟩
theorem Fr.I {S : Mem} {k : Nat} {x : Int32} (h : scI k) : Fr S (pI S 0 k x) := ⟨fun k' h' => by rw [pI_1, if_neg]; intro z; exact h' (z.2 ▸ h), fun _ _ => rfl, rfl⟩
theorem Fr.A {S : Mem} {f : Nat} {g : Nat → Int32} (h : scA f) : Fr S (pA S 0 f g) := ⟨fun _ _ => rfl, fun f' h' => by rw [pA_2, if_neg]; intro z; exact h' (z.2 ▸ h), rfl⟩
theorem Fr.s {S : Mem} {f : Nat} {i x : Int32} (h : scA f) : Fr S (sA S 0 f i x) := Fr.A h
theorem Fr.tv {v : Nat} {T : TX} {S S' : Mem} (h : Fr S S') (hT : TV v T S) : TV v T S' := by
  obtain ⟨hv, e18, h1, h2, h3, h4, h5, h6⟩ := hT
  have f : ∀ k, ¬ scA k → S'.2.1 0 k = S.2.1 0 k := h.2.1
  unfold TV
  rw [h.1 18 (by unfold scI; decide), f 24 (by unfold scA; decide), f 27 (by unfold scA; decide), f 30 (by unfold scA; decide), f 34 (by unfold scA; decide), f 37 (by unfold scA; decide), f 38 (by unfold scA; decide), f 39 (by unfold scA; decide), f 25 (by unfold scA; decide), f 26 (by unfold scA; decide), f 28 (by unfold scA; decide), f 29 (by unfold scA; decide), f 31 (by unfold scA; decide), f 32 (by unfold scA; decide), f 33 (by unfold scA; decide), f 35 (by unfold scA; decide), f 36 (by unfold scA; decide)]
  exact ⟨hv, e18, h1, h2, h3, h4, h5, h6⟩
theorem MR_s {r : RW} {S : Mem} (h : MR r S) {i : Nat} (hi : i < 40) (x : Int32) : MR (upd r i x) (sA S 0 57 (nI i) x) := by
  intro k hk
  rw [sA_2, if_pos ⟨rfl, rfl⟩, cl (by omega), upd_at, upd_at, h k hk]
theorem MR_of {r : RW} {S S' : Mem} (h : MR r S) (e : S'.2.1 0 57 = S.2.1 0 57) : MR r S' := fun k hk => by rw [e]; exact h k hk
theorem Mo_copies {v : Nat} {T : TX} {S : Mem} {r : RW} (hT : TV v T S) (hr : ∀ k, k < 40 → S.2.1 0 56 k = r k) : Ok (fun S' => Fr S S' ∧ MR r S' ∧ S'.1 0 58 = T 0 6) (f_Mo_copies S) := by
  refine li_2 f_Mo_copies_b2 f_Mo_copies_l2 (fun _ => rfl) nI (fun j S' => Fr S S' ∧ ∀ k, k < j → S'.2.1 0 57 k = r k) 40 _ (fun k j y hj hI => ?_) (fun k y hI => ?_) 5000 (by decide) S ⟨Fr.rf _, fun k hk => by omega⟩
  · have h0 : ¬ (40 : Int32) ≤ nI j := by rw [n40]; exact le_nI (by omega) (by decide) (by omega)
    refine ⟨sA y 0 57 (nI j) (r j), ⟨hI.1.tr (Fr.s (by unfold scA; decide)), fun k hk => ?_⟩, ?_⟩
    · rw [sA_2, if_pos ⟨rfl, rfl⟩, cl (by omega), upd_at]
      by_cases e : k = j
      · rw [if_pos e, e]
      · rw [if_neg e]; exact hI.2 k (by omega)
    · simp only [f_Mo_copies_b2, if_neg h0, g40 hj, letS_e, cl (show j < 4096 by omega), hI.1.2.1 56 (by unfold scA; decide), hr j hj, nI_1]
  · obtain ⟨hv, e18, -, ⟨-, -, e39⟩, -⟩ := hI.1.tv hT
    have h0 : (40 : Int32) ≤ nI 40 := by decide
    simp only [f_Mo_copies_b2, if_pos h0, letS_e, e18, g2 hv, cl (show v < 4096 by omega), e39]
    exact Ok.i ⟨hI.1.tr (Fr.I (by unfold scI; decide)), fun k hk => hI.2 k hk, by rw [pI_1, if_pos ⟨rfl, rfl⟩]⟩
def cutR (T : TX) (w : Nat) (r : RW) : RW := if r w ≤ dp T r w then r else upd r w (dp T r w)
theorem cutR_p {T : TX} {w : Nat} {r : RW} (h : r w ≤ dp T r w) : cutR T w r = r := if_pos h
theorem cutR_n {T : TX} {w : Nat} {r : RW} (h : ¬ r w ≤ dp T r w) : cutR T w r = upd r w (dp T r w) := if_neg h
def iter {α : Type} (f : Nat → α → α) : Nat → α → α
  | 0, a => a
  | n + 1, a => f n (iter f n a)
theorem iter_s {α : Type} (f : Nat → α → α) (n : Nat) (a : α) : iter f (n + 1) a = f n (iter f n a) := rfl
theorem Mo_cutsWater {v : Nat} {T : TX} {S : Mem} {r : RW} (hN : TN T) (hT : TV v T S) (hr : MR r S) : Ok (fun S' => Fr S S' ∧ MR (iter (cutR T) (nW T) r) S' ∧ S'.1 = S.1) (f_Mo_cutsWater S) := by
  have hN0 := hN
  obtain ⟨⟨eW, hW⟩, -⟩ := hN
  refine li_2 f_Mo_cutsWater_b2 f_Mo_cutsWater_l2 (fun _ => rfl) nI (fun j S' => Fr S S' ∧ MR (iter (cutR T) j r) S' ∧ S'.1 = S.1) (nW T) _ (fun k j y hj hI => ?_) (fun k y hI => ?_) 5000 (by omega) S ⟨Fr.rf _, hr, rfl⟩
  · have hT2 := hI.1.tv hT
    obtain ⟨hv, e18, ⟨e24, -⟩, -⟩ := id hT2
    simp only [f_Mo_cutsWater_b2, e18, g2 hv, cl (show v < 4096 by omega), e24, eW, if_neg (le_nI (show ¬ nW T ≤ j by omega) (by omega) (by omega)), Mo_deepOf hN0 hT2 hI.2.1 (show j < 4 by omega), bind_e, g40 (show j < 40 by omega), cl (show j < 4096 by omega), hI.2.1 j (by omega), letS_e, nI_1]
    by_cases q : iter (cutR T) j r j ≤ dp T (iter (cutR T) j r) j
    · exact ⟨y, ⟨hI.1, by rw [iter_s, cutR_p q]; exact hI.2.1, hI.2.2⟩, by rw [if_pos q]⟩
    · exact ⟨sA y 0 57 (nI j) (dp T (iter (cutR T) j r) j), ⟨hI.1.tr (Fr.s (by unfold scA; decide)), by rw [iter_s, cutR_n q]; exact MR_s hI.2.1 (by omega) _, hI.2.2⟩, by rw [if_neg q]⟩
  · obtain ⟨hv, e18, ⟨e24, -⟩, -⟩ := hI.1.tv hT
    simp only [f_Mo_cutsWater_b2, e18, g2 hv, cl (show v < 4096 by omega), e24, eW, if_pos (le_rf _)]
    exact Ok.i hI
