/-! THE REFERENCE: n days; what days leave as it is -/
theorem iter_ind {α : Type} {f : Nat → α → α} {P : α → Prop} : ∀ (n : Nat) (a : α), P a → (∀ j a, j < n → P a → P (f j a)) → P (iter f n a)
  | 0, _, h, _ => h
  | n + 1, a, h, hs => hs n _ (by omega) (iter_ind n a h (fun j a hj => hs j a (by omega)))
theorem cutR_o {T : TX} {w : Nat} {r : RW} {i : Nat} (h : i ≠ w) : cutR T w r i = r i := by
  unfold cutR
  split
  · rfl
  · rw [upd_at, if_neg h]
/-- homes, where secrets are, cuts and whispers stay in a day -/
def same4 (r r' : RW) : Prop := ∀ i, (4 ≤ i ∧ i < 19) ∨ i = 34 ∨ i = 36 → r' i = r i
theorem same4.rf (r : RW) : same4 r r := fun _ _ => rfl
theorem same4.tr {a b c : RW} (h1 : same4 a b) (h2 : same4 b c) : same4 a c := fun i h => (h2 i h).trans (h1 i h)
theorem RH.s4 {T : TX} {r r' : RW} (h : RH T r) (e : same4 r r') (hM : nM T ≤ 7) : RH T r' := h.of (fun i h1 h2 => e i (Or.inl ⟨by omega, h2⟩)) hM
theorem dB_4 {T : TX} {F : LF} {r : RW} (hN : TN T) (hH : RH T r) : same4 r (dB T F r) := by
  have hM : nM T ≤ 7 := hN.2.1.2
  have hW : nW T ≤ 4 := hN.1.2
  have h1 : same4 r (iter (d1 T F) (nW T) r) := iter_ind (P := same4 r) _ _ (same4.rf r) (fun j a hj ha i hi => (d1_o (by omega)).trans (ha i hi))
  exact iter_ind (P := same4 r) _ _ h1 (fun j a hj ha i hi => (d2_h hM hW (hH.s4 ha hM) hj (by omega) (by omega) (by omega)).trans (ha i hi))
theorem dayR_4 {T : TX} {F : LF} {sd : Int32} {r : RW} (hN : TN T) (hH : RH T r) (hE : TE_ok T) : same4 r (dayR T F sd r) := by
  have hM : nM T ≤ 7 := hN.2.1.2
  have hW : nW T ≤ 4 := hN.1.2
  have h2 := dB_4 (F := F) hN hH
  have h3 : same4 r (iter (d3 T F sd (fun a => dB T F r (26 + a))) (nT T) (dB T F r)) := iter_ind (P := same4 r) _ _ h2 (fun j a hj ha i hi => (d3_o (by omega) (by have := (hE j hj).2.2.1; omega)).trans (ha i hi))
  have h4 : same4 r (dE T F sd (fun a => dB T F r (26 + a)) (dB T F r)) := iter_ind (P := same4 r) _ _ h3 (fun j a hj ha i hi => (cutR_o (by omega)).trans (ha i hi))
  intro i hi
  unfold dayR dZ
  rw [upd_at, if_neg (by omega)]
  exact h4 i hi
/-- n days -/
def days (T : TX) (F : LF) (sd : Int32) : Nat → RW → RW
  | 0, r => r
  | n + 1, r => dayR T F sd (days T F sd n r)
theorem days_s (T : TX) (F : LF) (sd : Int32) (n : Nat) (r : RW) : days T F sd (n + 1) r = dayR T F sd (days T F sd n r) := rfl
theorem days_H {T : TX} {F : LF} {sd : Int32} (hN : TN T) (hE : TE_ok T) : ∀ (n : Nat) (r : RW), RH T r → same4 r (days T F sd n r) ∧ RH T (days T F sd n r)
  | 0, r, h => ⟨same4.rf r, h⟩
  | n + 1, r, h => by
    obtain ⟨h1, h2⟩ := days_H hN hE n r h
    have h3 := dayR_4 (F := F) (sd := sd) hN h2 hE
    exact ⟨h1.tr h3, h2.s4 h3 hN.2.1.2⟩
theorem Mo_goes {v : Nat} {T : TX} {F : LF} {S : Mem} {r : RW} (hN : TN T) (hT : TV v T S) (hL : ML F S) (h8 : L8 F) (hr : MR r S) (hH : RH T r) (hE : TE_ok T) {n : Nat} (hn : n < 4096) : Ok (fun S' => FD S S' ∧ MR (days T F (S.1 0 58) n r) S') (f_Mo_goes (nI n) S) := by
  refine li_3 f_Mo_goes_b2 f_Mo_goes_l2 (fun _ => rfl) (fun _ => nI n) nI (fun j S' => FD S S' ∧ MR (days T F (S.1 0 58) j r) S') n _ (fun k j y hj hI => ?_) (fun k y hI => ?_) 5000 (by omega) S ⟨FD.rf _, hr⟩
  · obtain ⟨hF, hR⟩ := hI
    obtain ⟨z, ez, hz1, hz2⟩ := Mo_dayGoes hN (hF.1.tv hT) (hL.fr hF.1) h8 hR (days_H hN hE j r hH).2 hE
    simp only [f_Mo_goes_b2, if_neg (le_nI (show ¬ n ≤ j by omega) (by omega) (by omega)), ez, bind_e, nI_1]
    exact ⟨z, ⟨hF.tr hz1, by rw [days_s]; rw [hF.2] at hz2; exact hz2⟩, rfl⟩
  · simp only [f_Mo_goes_b2, if_pos (le_rf _)]
    exact Ok.i hI
