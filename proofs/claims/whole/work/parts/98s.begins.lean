/-! READ: the reference begins. -/
variable {u : Nat} {S S' : Mem} {T : TX}
def F57 (S S' : Mem) : Prop := S'.1 = S.1 ∧ (∀ f, f ≠ 57 → S'.2.1 0 f = S.2.1 0 f) ∧ S'.2.2 = S.2.2
theorem F57.rf (S : Mem) : F57 S S := ⟨rfl, fun _ _ => rfl, rfl⟩
theorem F57.s (h : F57 S S') (i x : Int32) : F57 S (sA S' 0 57 i x) := ⟨h.1, fun f hf => by rw [sA_2, if_neg (fun z => hf z.2)]; exact h.2.1 f hf, h.2.2⟩
theorem F57.fr (h : F57 S S') : Fr S S' := ⟨fun k _ => by rw [h.1], fun f hf => h.2.1 f (fun e => hf (by rw [e]; unfold scA; omega)), h.2.2⟩
theorem MR.e {r r' : RW} (h : MR r S) (e : ∀ k, k < 40 → r k = r' k) : MR r' S := fun k hk => (h k hk).trans (e k hk)
theorem Mo_begins (hN : TN T) (hT : TV u T S) : Ok (fun S' => Fr S S' ∧ MR (iter (cutR T) (nW T) (rB T)) S') (f_Mo_begins S) := by
  have h4 := hN.1.2
  have h7 := hN.2.1.2
  have h8 := hN.2.2.1.2
  have hT0 := hT
  obtain ⟨hv, e18, ⟨e24, e27, e30, e34⟩, ⟨e37, e38, e39⟩, t1, t2, t3, t4⟩ := hT
  have cu : (nI u).toNatClampNeg = u := cl (by omega)
  -- water
  have W : ∀ S1, F57 S S1 → MR (fun i => if i < 4 then 0 else rB T i) S1 → Ok (fun S' => Fr S S' ∧ MR (iter (cutR T) (nW T) (rB T)) S') (f_Mo_begins_l190 5000 0 S1) := by
    intro S1 f1 m1
    refine lpN (P := fun m j => ∀ S2, F57 S S2 → MR (fun i => if i < 4 ∧ ¬ i < j then 0 else rB T i) S2 → Ok (fun S' => Fr S S' ∧ MR (iter (cutR T) (nW T) (rB T)) S') (f_Mo_begins_l190 m (nI j) S2)) (nW T) (fun m j hj ih S2 f2 m2 => ?_) (fun m S2 f2 m2 => ?_) 5000 0 (by omega) (by omega) S1 f1 (m1.e (fun k _ => by
      by_cases q : k < 4
      · rw [if_pos q, if_pos ⟨q, by omega⟩]
      · rw [if_neg q, if_neg (fun z => q z.1)]))
    · show Ok _ (f_Mo_begins_b190 (f_Mo_begins_l190 m) (nI j) S2)
      unfold f_Mo_begins_b190
      rw [f2.1, e18, g2 hv, cu, f2.2.1 24 (by decide), e24, hN.1.1, if_neg (le_nI (by omega) (by omega) (by omega)), m4, gIn_n (show 4 * u + j < 8 by omega) (by decide), g40 (show j < 40 by omega), letS_e, cl (show 4 * u + j < 4096 by omega), f2.2.1 26 (by decide), (t1 j (by omega)).2, nI_1]
      refine ih _ (f2.s _ _) ((MR_s m2 (show j < 40 by omega) (T 2 j)).e (fun k hk => ?_))
      rw [upd_at]
      by_cases q : k = j
      · rw [if_pos q, q, if_neg (fun z => z.2 (by omega)), rB_w hj h4]
      · rw [if_neg q]
        by_cases q2 : k < 4 ∧ ¬ k < j
        · rw [if_pos q2, if_pos ⟨q2.1, by omega⟩]
        · rw [if_neg q2, if_neg (fun z => q2 ⟨z.1, by omega⟩)]
    · show Ok _ (f_Mo_begins_b190 (f_Mo_begins_l190 m) (nI (nW T)) S2)
      unfold f_Mo_begins_b190
      rw [f2.1, e18, g2 hv, cu, f2.2.1 24 (by decide), e24, hN.1.1, if_pos (le_rf _), g2 hv, letS_e]
      have m3 : MR (rB T) S2 := m2.e (fun k _ => by
        by_cases q2 : k < 4 ∧ ¬ k < nW T
        · rw [if_pos q2]; unfold rB; rw [if_pos q2.1, if_neg q2.2]
        · rw [if_neg q2])
      have fr3 : Fr S (pI S2 0 58 (S2.2.1 0 39 u)) := f2.fr.tr (Fr.I (by unfold scI; omega))
      refine (Mo_cutsWater hN (fr3.tv hT0) (MR_of m3 rfl)).b (fun S3 g => Ok.i ⟨fr3.tr g.1, g.2.1⟩)
  -- who is alive
  have A : ∀ m S1, F57 S S1 → MR (fun i => if i < 4 ∨ i = 33 then 0 else rB T i) S1 → Ok (fun S' => Fr S S' ∧ MR (iter (cutR T) (nW T) (rB T)) S') (f_Mo_begins_b91 m (nI (nS T)) S1) := by
    intro m S1 f1 m1
    unfold f_Mo_begins_b91
    rw [f1.1, e18, g2 hv, cu, f1.2.1 30 (by decide), e30, hN.2.2.1.1, if_pos (le_rf _), g2 hv, g33, letS_e, f1.2.1 27 (by decide), e27, hN.2.1.1]
    refine W _ (f1.s _ _) ((MR_s m1 (show 33 < 40 by decide) (bitM (nM T) - 1)).e (fun k hk => ?_))
    rw [upd_at]
    by_cases q : k = 33
    · rw [if_pos q, q, if_neg (by omega), rB_33]
    · rw [if_neg q]
      by_cases q2 : k < 4
      · rw [if_pos (Or.inl q2), if_pos q2]
      · rw [if_neg (by omega), if_neg q2]
  -- who knows
  have K : ∀ S1, F57 S S1 → MR (fun i => if i < 4 ∨ 26 ≤ i then 0 else rB T i) S1 → Ok (fun S' => Fr S S' ∧ MR (iter (cutR T) (nW T) (rB T)) S') (f_Mo_begins_l91 5000 0 S1) := by
    intro S1 f1 m1
    refine lpN (P := fun m j => ∀ S2, F57 S S2 → MR (fun i => if i < 4 ∨ 33 ≤ i then 0 else if 26 ≤ i then (if i - 26 < nM T then orF (fun s => if bitOf (T 7 s) (i - 26) = 1 then bitM s else 0) j else 0) else rB T i) S2 → Ok (fun S' => Fr S S' ∧ MR (iter (cutR T) (nW T) (rB T)) S') (f_Mo_begins_l91 m (nI j) S2)) (nS T) (fun m j hj ih S2 f2 m2 => ?_) (fun m S2 f2 m2 => ?_) 5000 0 (by omega) (by omega) S1 f1 (m1.e (fun k _ => by
      by_cases q : k < 4
      · rw [if_pos (Or.inl q), if_pos (Or.inl q)]
      · by_cases q2 : 26 ≤ k
        · rw [if_pos (Or.inr q2)]
          by_cases q3 : 33 ≤ k
          · rw [if_pos (Or.inr q3)]
          · rw [if_neg (by omega), if_pos q2]; split <;> rfl
        · rw [if_neg (by omega), if_neg (by omega), if_neg q2]))
    · show Ok _ (f_Mo_begins_b91 (f_Mo_begins_l91 m) (nI j) S2)
      unfold f_Mo_begins_b91
      rw [f2.1, e18, g2 hv, cu, f2.2.1 30 (by decide), e30, hN.2.2.1.1, if_neg (le_nI (by omega) (by omega) (by omega))]
      refine lpN (P := fun m' a => ∀ S3, F57 S S3 → MR (fun i => if i < 4 ∨ 33 ≤ i then 0 else if 26 ≤ i then (if i - 26 < nM T then orF (fun s => if bitOf (T 7 s) (i - 26) = 1 then bitM s else 0) (if i - 26 < a then j + 1 else j) else 0) else rB T i) S3 → Ok (fun S' => Fr S S' ∧ MR (iter (cutR T) (nW T) (rB T)) S') (f_Mo_begins_l106 (f_Mo_begins_l91 m) m' (nI j) (nI a) S3)) (nM T) (fun m' a ha ih' S3 f3 m3 => ?_) (fun m' S3 f3 m3 => ?_) 5000 0 (by omega) (by omega) S2 f2 (m2.e (fun k _ => by rw [if_neg (show ¬ k - 26 < 0 by omega)]))
      · show Ok _ (f_Mo_begins_b106 (f_Mo_begins_l91 m) (f_Mo_begins_l106 (f_Mo_begins_l91 m) m') (nI j) (nI a) S3)
        unfold f_Mo_begins_b106
        have e33 : S3.2.1 0 33 (8 * u + j) = T 7 j := by rw [f3.2.1 33 (by decide)]; exact (t3 j (by omega)).2.2
        rw [f3.1, e18, g2 hv, cu, f3.2.1 27 (by decide), e27, hN.2.1.1, if_neg (le_nI (by omega) (by omega) (by omega)), m8, gIn_n (show 8 * u + j < 16 by omega) (by decide), cl (show 8 * u + j < 4096 by omega), e33, a26, g40 (show 26 + a < 40 by omega), g40 (show 26 + a < 40 by omega), letS_e, cl (show 26 + a < 4096 by omega), nI_1]
        have old : S3.2.1 0 57 (26 + a) = orF (fun s => if bitOf (T 7 s) a = 1 then bitM s else 0) j := by
          rw [m3 (26 + a) (by omega)]
          simp only
          rw [if_neg (by omega), if_pos (by omega), if_pos (by omega), if_neg (by omega), show 26 + a - 26 = a by omega]
        have oth : ∀ k, k ≠ 26 + a → (if k < 4 ∨ 33 ≤ k then (0 : Int32) else if 26 ≤ k then (if k - 26 < nM T then orF (fun s => if bitOf (T 7 s) (k - 26) = 1 then bitM s else 0) (if k - 26 < a then j + 1 else j) else 0) else rB T k) = (if k < 4 ∨ 33 ≤ k then 0 else if 26 ≤ k then (if k - 26 < nM T then orF (fun s => if bitOf (T 7 s) (k - 26) = 1 then bitM s else 0) (if k - 26 < a + 1 then j + 1 else j) else 0) else rB T k) := fun k hk => by
          by_cases q : k < 4 ∨ 33 ≤ k
          · rw [if_pos q, if_pos q]
          · rw [if_neg q, if_neg q]
            by_cases q2 : 26 ≤ k
            · rw [if_pos q2, if_pos q2]
              by_cases q3 : k - 26 < a
              · rw [if_pos q3, if_pos (show k - 26 < a + 1 by omega)]
              · rw [if_neg q3, if_neg (show ¬ k - 26 < a + 1 by omega)]
            · rw [if_neg q2, if_neg q2]
        have new : (if 26 + a < 4 ∨ 33 ≤ 26 + a then (0 : Int32) else if 26 ≤ 26 + a then (if 26 + a - 26 < nM T then orF (fun s => if bitOf (T 7 s) (26 + a - 26) = 1 then bitM s else 0) (if 26 + a - 26 < a + 1 then j + 1 else j) else 0) else rB T (26 + a)) = orF (fun s => if bitOf (T 7 s) a = 1 then bitM s else 0) j ||| (if bitOf (T 7 j) a = 1 then bitM j else 0) := by
          rw [if_neg (by omega), if_pos (by omega), if_pos (by omega), if_pos (by omega), show 26 + a - 26 = a by omega]; rfl
        by_cases q : bitOf (T 7 j) a = 1
        · rw [if_pos (show ((T 7 j >>> (nI a &&& 31)) &&& 1) = 1 from q), old]
          refine ih' _ (f3.s _ _) ((MR_s m3 (show 26 + a < 40 by omega) _).e (fun k hk => ?_))
          rw [upd_at]
          by_cases qk : k = 26 + a
          · rw [if_pos qk]
            subst qk
            show _ = (if 26 + a < 4 ∨ 33 ≤ 26 + a then (0 : Int32) else _)
            rw [new, if_pos q]; rfl
          · rw [if_neg qk]; exact oth k qk
        · rw [if_neg (show ¬ ((T 7 j >>> (nI a &&& 31)) &&& 1) = 1 from q)]
          refine ih' _ f3 (m3.e (fun k hk => ?_))
          by_cases qk : k = 26 + a
          · have o2 := m3 (26 + a) (by omega)
            rw [old] at o2
            subst qk
            show (fun i => if i < 4 ∨ 33 ≤ i then (0 : Int32) else if 26 ≤ i then (if i - 26 < nM T then orF (fun s => if bitOf (T 7 s) (i - 26) = 1 then bitM s else 0) (if i - 26 < a then j + 1 else j) else 0) else rB T i) (26 + a) = (if 26 + a < 4 ∨ 33 ≤ 26 + a then (0 : Int32) else _)
            rw [new, if_neg q, or0, o2]
          · exact oth k qk
      · show Ok _ (f_Mo_begins_b106 (f_Mo_begins_l91 m) (f_Mo_begins_l106 (f_Mo_begins_l91 m) m') (nI j) (nI (nM T)) S3)
        unfold f_Mo_begins_b106
        rw [f3.1, e18, g2 hv, cu, f3.2.1 27 (by decide), e27, hN.2.1.1, if_pos (le_rf _), nI_1]
        refine ih _ f3 (m3.e (fun k hk => ?_))
        by_cases q : k < 4 ∨ 33 ≤ k
        · rw [if_pos q, if_pos q]
        · rw [if_neg q, if_neg q]
          by_cases q2 : 26 ≤ k
          · rw [if_pos q2, if_pos q2]
            by_cases q3 : k - 26 < nM T
            · rw [if_pos q3, if_pos q3, if_pos q3]
            · rw [if_neg q3, if_neg q3]
          · rw [if_neg q2, if_neg q2]
    · refine A _ S2 f2 (m2.e (fun k hk => ?_))
      by_cases q : k < 4
      · rw [if_pos (Or.inl q), if_pos (Or.inl q)]
      · by_cases q2 : 33 ≤ k
        · rw [if_pos (Or.inr q2)]
          by_cases q3 : k = 33
          · rw [if_pos (Or.inr q3)]
          · rw [if_neg (by omega), rB_z (by omega)]
        · rw [if_neg (show ¬ (k < 4 ∨ 33 ≤ k) by omega), if_neg (show ¬ (k < 4 ∨ k = 33) by omega)]
          by_cases q3 : 26 ≤ k
          · rw [if_pos q3]
            unfold rB
            rw [if_neg (show ¬ k < 4 by omega), if_neg (show ¬ k < 12 by omega), if_neg (show ¬ k < 19 by omega), if_neg (show ¬ k < 26 by omega), if_pos (show k < 33 by omega)]
            rfl
          · rw [if_neg q3]
  -- homes
  have H : ∀ S1, F57 S S1 → MR (fun i => if 4 ≤ i ∧ i < 12 then -2 else 0) S1 → Ok (fun S' => Fr S S' ∧ MR (iter (cutR T) (nW T) (rB T)) S') (f_Mo_begins_l47 5000 0 S1) := by
    intro S1 f1 m1
    refine lpN (P := fun m j => ∀ S2, F57 S S2 → MR (fun i => if 4 ≤ i ∧ i < 12 then -2 else if 12 ≤ i ∧ i < 12 + j then T 3 (i - 12) else 0) S2 → Ok (fun S' => Fr S S' ∧ MR (iter (cutR T) (nW T) (rB T)) S') (f_Mo_begins_l47 m (nI j) S2)) (nM T) (fun m j hj ih S2 f2 m2 => ?_) (fun m S2 f2 m2 => ?_) 5000 0 (by omega) (by omega) S1 f1 (m1.e (fun k _ => by rw [if_neg (show ¬ (12 ≤ k ∧ k < 12 + 0) by omega)]))
    · show Ok _ (f_Mo_begins_b47 (f_Mo_begins_l47 m) (nI j) S2)
      unfold f_Mo_begins_b47
      rw [f2.1, e18, g2 hv, cu, f2.2.1 27 (by decide), e27, hN.2.1.1, if_neg (le_nI (by omega) (by omega) (by omega)), m7, gIn_n (show 7 * u + j < 14 by omega) (by decide), a12, g40 (show 12 + j < 40 by omega), letS_e, cl (show 7 * u + j < 4096 by omega), f2.2.1 28 (by decide), (t2 j (by omega)).1, nI_1]
      refine ih _ (f2.s _ _) ((MR_s m2 (show 12 + j < 40 by omega) (T 3 j)).e (fun k hk => ?_))
      rw [upd_at]
      by_cases q : k = 12 + j
      · rw [if_pos q, if_neg (by omega), if_pos (by omega), q]; congr 1; omega
      · rw [if_neg q]
        by_cases q2 : 4 ≤ k ∧ k < 12
        · rw [if_pos q2, if_pos q2]
        · rw [if_neg q2, if_neg q2]
          by_cases q3 : 12 ≤ k ∧ k < 12 + j
          · rw [if_pos q3, if_pos (by omega)]
          · rw [if_neg q3, if_neg (by omega)]
    · show Ok _ (f_Mo_begins_b47 (f_Mo_begins_l47 m) (nI (nM T)) S2)
      unfold f_Mo_begins_b47
      rw [f2.1, e18, g2 hv, cu, f2.2.1 27 (by decide), e27, hN.2.1.1, if_pos (le_rf _)]
      refine K _ f2 (m2.e (fun k hk => ?_))
      by_cases q : k < 4 ∨ 26 ≤ k
      · rw [if_pos q, if_neg (by omega), if_neg (by omega)]
      · rw [if_neg q]
        unfold rB
        rw [if_neg (show ¬ k < 4 by omega)]
        by_cases q2 : k < 12
        · rw [if_pos (show 4 ≤ k ∧ k < 12 by omega), if_pos q2]
        · rw [if_neg (show ¬ (4 ≤ k ∧ k < 12) by omega), if_neg q2]
          by_cases q3 : k < 19
          · rw [if_pos q3]
            by_cases q4 : k - 12 < nM T
            · rw [if_pos (show 12 ≤ k ∧ k < 12 + nM T by omega), if_pos q4]
            · rw [if_neg (show ¬ (12 ≤ k ∧ k < 12 + nM T) by omega), if_neg q4]
          · rw [if_neg (show ¬ (12 ≤ k ∧ k < 12 + nM T) by omega), if_neg q3, if_pos (show k < 26 by omega)]
  -- secrets
  have Q : ∀ S1, F57 S S1 → MR (fun _ => 0) S1 → Ok (fun S' => Fr S S' ∧ MR (iter (cutR T) (nW T) (rB T)) S') (f_Mo_begins_l23 5000 0 S1) := by
    intro S1 f1 m1
    refine lpN (P := fun m j => ∀ S2, F57 S S2 → MR (fun i => if 4 ≤ i ∧ i < 4 + j then -2 else 0) S2 → Ok (fun S' => Fr S S' ∧ MR (iter (cutR T) (nW T) (rB T)) S') (f_Mo_begins_l23 m (nI j) S2)) 8 (fun m j hj ih S2 f2 m2 => ?_) (fun m S2 f2 m2 => ?_) 5000 0 (by omega) (by omega) S1 f1 (m1.e (fun k _ => by rw [if_neg (by omega)]))
    · show Ok _ (f_Mo_begins_b23 (f_Mo_begins_l23 m) (nI j) S2)
      unfold f_Mo_begins_b23
      rw [if_neg (show ¬ (8 : Int32) ≤ nI j from le_nI (a := 8) (by omega) (by decide) (by omega)), a4, g40 (show 4 + j < 40 by omega), letS_e, nI_1]
      refine ih _ (f2.s _ _) ((MR_s m2 (show 4 + j < 40 by omega) (-2)).e (fun k hk => ?_))
      rw [upd_at]
      by_cases q : k = 4 + j
      · rw [if_pos q, if_pos (by omega)]
      · rw [if_neg q]
        by_cases q3 : 4 ≤ k ∧ k < 4 + j
        · rw [if_pos q3, if_pos (by omega)]
        · rw [if_neg q3, if_neg (by omega)]
    · show Ok _ (f_Mo_begins_b23 (f_Mo_begins_l23 m) (nI 8) S2)
      unfold f_Mo_begins_b23
      rw [if_pos (show (8 : Int32) ≤ nI 8 by decide)]
      exact H _ f2 m2
  refine lpN (P := fun m j => ∀ S2, F57 S S2 → (∀ k, k < j → S2.2.1 0 57 k = 0) → Ok (fun S' => Fr S S' ∧ MR (iter (cutR T) (nW T) (rB T)) S') (f_Mo_begins_l2 m (nI j) S2)) 40 (fun m j hj ih S2 f2 m2 => ?_) (fun m S2 f2 m2 => ?_) 5000 0 (by omega) (by omega) S (F57.rf S) (fun k hk => absurd hk (by omega))
  · show Ok _ (f_Mo_begins_b2 (f_Mo_begins_l2 m) (nI j) S2)
    unfold f_Mo_begins_b2
    rw [if_neg (le40 hj), g40 hj, letS_e, nI_1]
    refine ih _ (f2.s _ _) (fun k hk => ?_)
    rw [sA_2, if_pos ⟨rfl, rfl⟩, cl (by omega), upd_at]
    by_cases q : k = j
    · rw [if_pos q]
    · rw [if_neg q]; exact m2 k (by omega)
  · show Ok _ (f_Mo_begins_b2 (f_Mo_begins_l2 m) (nI 40) S2)
    unfold f_Mo_begins_b2
    rw [if_pos le4040]
    exact Q _ f2 m2
