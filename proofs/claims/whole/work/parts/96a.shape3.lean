/-! READ: the shape of a text, the class's end of it. -/
theorem tk_le {kd : Nat → Int32} {k : Int32} (z : Nat × Nat) : z.2 ≤ (tk kd k z).2 := by
  unfold tk
  split
  · split
    · split
      · show z.2 ≤ z.2 + 1; omega
      · exact Nat.le_refl _
    · exact Nat.le_refl _
  · exact Nat.le_refl _
theorem tks_le {kd : Nat → Int32} : ∀ (l : List Int32) (z : Nat × Nat), z.2 ≤ (tks kd l z).2
  | [], _ => Nat.le_refl _
  | k :: l, z => Nat.le_trans (tk_le z) (tks_le l _)
theorem smF_le {kd : Nat → Int32} : ∀ (n o : Nat) (due : Bool) (t : Nat), t ≤ (smF kd n o due t).2
  | 0, _, _, _ => Nat.le_refl _
  | n + 1, o, true, t => by
    rw [smF_t]
    have h1 := smF_le (kd := kd) n (o + 1) true (t + 1)
    have h2 := smF_le (kd := kd) n o false (t + 1)
    have h3 := tk_le (kd := kd) (k := 40) (0, t)
    have h4 := tk_le (kd := kd) (k := kd t) (0, t)
    dsimp only at h3 h4
    split
    · split
      · split <;> omega
      · exact Nat.le_refl _
    · split
      · split <;> omega
      · exact Nat.le_refl _
  | n + 1, o, false, t => by
    rw [smF_n]
    have h1 := smF_le (kd := kd) n o true (t + 1)
    have h2 := smF_le (kd := kd) n (o - 1) false (t + 1)
    have h3 := tk_le (kd := kd) (k := 41) (0, t)
    have h4 := tk_le (kd := kd) (k := kd t) (0, t)
    dsimp only at h3 h4
    split
    · split <;> omega
    · split
      · exact Nat.le_refl _
      · split
        · split <;> omega
        · exact Nat.le_refl _
theorem smP_le {kd : Nat → Int32} (z : Nat × Nat) : z.2 ≤ (smP kd z).2 := by
  unfold smP
  split
  · exact smF_le _ _ _ _
  · exact Nat.le_refl _
theorem csP_le {kd : Nat → Int32} (z : Nat × Nat) : z.2 ≤ (csP kd z).2 :=
  Nat.le_trans (tk_le z) (Nat.le_trans (smP_le _) (Nat.le_trans (tk_le _) (Nat.le_trans (smP_le _) (Nat.le_trans (tk_le _) (Nat.le_trans (smP_le _) (tk_le _))))))
theorem fnP_le {kd : Nat → Int32} (z : Nat × Nat) : z.2 ≤ (fnP kd z).2 := Nat.le_trans (smP_le z) (tk_le _)
theorem lwF_le {kd : Nat → Int32} : ∀ (n : Nat) (z : Nat × Nat), z.2 ≤ (lwF kd n z).2
  | 0, z => by
    unfold lwF
    split
    · split
      · exact Nat.le_refl _
      · exact fnP_le z
    · exact Nat.le_refl _
  | n + 1, z => by
    unfold lwF
    split
    · split
      · exact Nat.le_trans (csP_le z) (lwF_le n _)
      · exact fnP_le z
    · exact Nat.le_refl _
theorem nmsF_le {kd : Nat → Int32} : ∀ (n : Nat) (z : Nat × Nat), z.2 ≤ (nmsF kd n z).2
  | 0, _ => Nat.le_refl _
  | n + 1, z => by
    unfold nmsF
    split
    · exact Nat.le_trans (tk_le z) (nmsF_le n _)
    · exact Nat.le_refl _
theorem bdP_le {kd : Nat → Int32} (k : Int32) (z : Nat × Nat) : z.2 ≤ (bdP kd k z).2 := by
  unfold bdP
  split
  · exact tks_le _ z
  · split
    · exact tks_le _ z
    · split
      · unfold seP
        refine Nat.le_trans (tks_le (kd := kd) [97, 48] z) (Nat.le_trans ?_ (Nat.le_trans (nmsF_le 402 _) (tk_le _)))
        unfold scP
        split
        · exact tk_le _
        · exact Nat.le_refl _
      · split
        · exact tks_le _ z
        · split
          · exact Nat.le_trans (tk_le z) (lwF_le 4 _)
          · exact tks_le _ z
theorem bdP_f {kd : Nat → Int32} {k : Int32} {z : Nat × Nat} (h : ¬ z.1 = 0) : bdP kd k z = z := by
  have e1 : seP kd z = z := by
    unfold seP scP
    rw [tks_f h, if_neg (fun y => h y.1), nms_f h, tk_f h]
  have e2 : lwP kd z = z := by
    unfold lwP
    rw [tk_f h]
    unfold lwF
    rw [if_neg h]
  unfold bdP
  rw [tks_f h, tks_f h, tks_f h, tks_f h, e1, e2]
  split
  · rfl
  · split
    · rfl
    · split
      · rfl
      · split
        · rfl
        · split <;> rfl
theorem tlP_gt {kd : Nat → Int32} {c : Nat → Nat} {t : Nat} (h : (tlP kd c t).1 = 0) : t < (tlP kd c t).2 := by
  unfold tlP at h ⊢
  split at h
  · exact absurd h (by show ¬ (1 : Nat) = 0; decide)
  · rename_i q1
    rw [if_neg q1]
    split at h
    · exact absurd h (by show ¬ (2 : Nat) = 0; decide)
    · rename_i q2
      rw [if_neg q2]
      by_cases q : (tk kd (kd t) (0, t)).1 = 0
      · have : (tk kd (kd t) (0, t)) = (0, t + 1) := by
          unfold tk at q ⊢
          rw [if_pos rfl, if_pos rfl] at q ⊢
          split at q
          · rename_i z; rw [if_pos z]
          · exact absurd q (by show ¬ (2 : Nat) = 0; decide)
        have := bdP_le (kd := kd) (kd t) (tk kd (kd t) (0, t))
        rename_i e
        rw [e] at this ⊢
        exact this
      · rw [bdP_f q] at h; exact absurd h q
theorem kr {k : Int32} (h1 : ¬ k < 128) (h2 : ¬ 137 < k) : ∃ m, 128 ≤ m ∧ m ≤ 137 ∧ k = nI m := by
  have h0 : ¬ k < 0 := fun z => h1 (Int32.lt_trans z (by decide))
  obtain ⟨m, hm, rfl⟩ := nI_of h0
  refine ⟨m, ?_, ?_, rfl⟩
  · rcases Nat.lt_or_ge m 128 with z | z
    · exact absurd (nI_lt (b := 128) z (by decide)) h1
    · exact z
  · rcases Nat.lt_or_ge 137 m with z | z
    · exact absurd (nI_lt (a := 137) z hm) h2
    · exact z
def cnS (c : Nat → Nat) (S : Mem) : Prop := ∀ i, i < 4 → S.2.1 2 4 i = nI (c i) ∧ c i ≤ 1000
theorem Sh_hasRoom {kd : Nat → Int32} {Q : Nat} {S : Mem} {c : Nat → Nat} {t : Nat} (hc : cnS c S) (h : Sy Q (0, t) S) (k1 : ¬ kd t < 128) (k2 : ¬ 137 < kd t) : Ok (fun y : Int32 × Mem => O3 S y.2 ∧ (∀ i, i < 4 → y.2.2.1 2 4 i = nI (cn1 kd c t i)) ∧ ((kd t ≤ 131 ∧ mostN (kd t) < c (srt (kd t)) + 1 ∧ y.1 = 0 ∧ Sy Q (2, t) y.2) ∨ (¬ (kd t ≤ 131 ∧ mostN (kd t) < c (srt (kd t)) + 1) ∧ y.1 = 1 ∧ Sy Q (0, t) y.2))) (f_Sh_hasRoom (kd t) S) := by
  obtain ⟨m, m1, m2, em⟩ := kr k1 k2
  unfold f_Sh_hasRoom f_Sh_hasRoom_b0
  rw [letS_e, em, show (128 : Int32) = nI 128 from rfl, pk_sub m1, if_neg (nI_pos (by omega))]
  have es : srt (nI m) = m - 128 := by unfold srt; rw [show (128 : Int32) = nI 128 from rfl, pk_sub m1, cl (by omega)]
  by_cases q4 : m - 128 < 4
  · have le1 : nI m ≤ (131 : Int32) := nI_le (b := 131) (by omega) (by decide)
    rw [if_pos (show nI (m - 128) < Int32.ofNat 4 from nI_lt (b := 4) q4 (by decide)), g4 q4, g4 q4, letS_e, g4 q4, cl (by omega), (hc _ q4).1, nI_1]
    have em2 : f_Sh_mostOf (nI m) = some (nI (mostN (nI m))) := by
      rcases (show m = 128 ∨ m = 129 ∨ m = 130 ∨ m = 131 by omega) with e | e | e | e <;> subst e <;> decide +kernel
    rw [em2, bind_e]
    have mb : mostN (nI m) ≤ 12 := by unfold mostN; split; omega; split; omega; split <;> omega
    have e30 : (sA S 2 4 (nI (m - 128)) (nI (c (m - 128) + 1))).2.1 2 4 (m - 128) = nI (c (m - 128) + 1) := by rw [sA_2, if_pos ⟨rfl, rfl⟩, cl (by omega), upd_at, if_pos rfl]
    rw [e30]
    have cells : ∀ i, i < 4 → (sA S 2 4 (nI (m - 128)) (nI (c (m - 128) + 1))).2.1 2 4 i = nI (cn1 kd c t i) := fun i hi => by
      rw [sA_2, if_pos ⟨rfl, rfl⟩, cl (by omega), upd_at]
      unfold cn1
      rw [em, es]
      by_cases z : i = m - 128
      · rw [if_pos z, if_pos ⟨by rw [← em]; exact k1, le1, z⟩, z]
      · rw [if_neg z, if_neg (fun y => z y.2.2)]; exact (hc i hi).1
    have cb := (hc _ q4).2
    have sy : Sy Q (0, t) (sA S 2 4 (nI (m - 128)) (nI (c (m - 128) + 1))) := h
    by_cases q5 : c (m - 128) + 1 ≤ mostN (nI m)
    · rw [if_pos (nI_le q5 (by omega))]
      exact Ok.i ⟨(O3.rf S).s 4 _ _, cells, Or.inr ⟨fun z => by rw [es] at z; omega, rfl, sy⟩⟩
    · rw [if_neg (le_nI q5 (by omega) (by omega))]
      unfold f_Sh_failed f_Sh_failed_b0
      rw [letS_e, bind_e, i00]
      refine Ok.i ⟨((O3.rf S).s 4 _ _).p 2 _, cells, Or.inl ⟨le1, by rw [es]; omega, rfl, ⟨rfl, sy.2.1, sy.2.2.1, by show 2 ≤ 2; omega⟩⟩⟩
  · have nle : ¬ nI m ≤ (131 : Int32) := le_nI (b := 131) (by omega) (by omega) (by decide)
    rw [if_neg (show ¬ nI (m - 128) < Int32.ofNat 4 from nI_nlt (b := 4) (by omega) (by omega))]
    refine Ok.i ⟨O3.rf S, fun i hi => ?_, Or.inr ⟨fun z => nle z.1, rfl, h⟩⟩
    unfold cn1
    rw [em, if_neg (fun y => nle y.2.1)]; exact (hc i hi).1
theorem Sh_body {kd : Nat → Int32} {pl vl : Nat → Nat} {Q : Nat} {S : Mem} (hQ : KQ kd Q) (hT : TC kd pl vl Q S) {k : Int32} {z : Nat × Nat} (hz : z.1 = 0) (h : Sy Q z S) : Sz Q S (bdP kd k z) (if k = 128 then
            Option.bind (f_Sh_areTaken 2 S) (fun q95 =>
            gZ q95.1 (some (q95.1, q95.2)))
          else if k = 129 then
            Option.bind (f_Sh_areTaken 3 S) (fun q102 =>
            gZ q102.1 (some (q102.1, q102.2)))
          else if k = 130 then
            Option.bind (f_Sh_isRestOfSecret S) (fun q107 =>
            gZ q107.1 (some (q107.1, q107.2)))
          else if k = 131 then
            Option.bind (f_Sh_areTaken 4 S) (fun q114 =>
            gZ q114.1 (some (q114.1, q114.2)))
          else if k = 132 then
            Option.bind (f_Sh_isLaw S) (fun q119 =>
            gZ q119.1 (some (q119.1, q119.2)))
          else if k = 133 then
            Option.bind (f_Sh_isLaw S) (fun q119 =>
            gZ q119.1 (some (q119.1, q119.2)))
          else if k = 134 then
            Option.bind (f_Sh_isLaw S) (fun q119 =>
            gZ q119.1 (some (q119.1, q119.2)))
          else 
            Option.bind (f_Sh_areTaken 5 S) (fun q126 =>
            gZ q126.1 (some (q126.1, q126.2)))) := by
  unfold bdP
  have w : ∀ {si : Nat} {l : List Int32}, Sz Q S (tks kd l (0, z.2)) (f_Sh_areTaken si S) → Sz Q S (tks kd l z) (Option.bind (f_Sh_areTaken si S) (fun q => gZ q.1 (some (q.1, q.2)))) := fun a => by
    rw [pz hz] at a; exact a.gz
  by_cases q1 : k = 128
  · rw [if_pos q1, if_pos q1]
    exact w (Sh_areTaken (si := 2) (l := [97, 48, 48, 59]) hQ hT (by decide) (by decide) (by decide) (by decide +kernel) (h.z hz))
  rw [if_neg q1, if_neg q1]
  by_cases q2 : k = 129
  · rw [if_pos q2, if_pos q2]
    exact w (Sh_areTaken (si := 3) (l := [97, 97, 48, 59]) hQ hT (by decide) (by decide) (by decide) (by decide +kernel) (h.z hz))
  rw [if_neg q2, if_neg q2]
  by_cases q3 : k = 130
  · rw [if_pos q3, if_pos q3]; exact (Sh_secret hQ hT hz h).gz
  rw [if_neg q3, if_neg q3]
  by_cases q4 : k = 131
  · rw [if_pos q4, if_pos q4]
    exact w (Sh_areTaken (si := 4) (l := [97, 97, 59]) hQ hT (by decide) (by decide) (by decide) (by decide +kernel) (h.z hz))
  rw [if_neg q4, if_neg q4]
  by_cases q5 : k = 132
  · rw [if_pos q5, if_pos (Or.inl q5)]; exact (Sh_law hQ hT hz h).gz
  rw [if_neg q5]
  by_cases q6 : k = 133
  · rw [if_pos q6, if_pos (Or.inr (Or.inl q6))]; exact (Sh_law hQ hT hz h).gz
  rw [if_neg q6]
  by_cases q7 : k = 134
  · rw [if_pos q7, if_pos (Or.inr (Or.inr q7))]; exact (Sh_law hQ hT hz h).gz
  rw [if_neg q7, if_neg (by rintro (z | z | z); exact q5 z; exact q6 z; exact q7 z)]
  exact w (Sh_areTaken (si := 5) (l := [48, 59]) hQ hT (by decide) (by decide) (by decide) (by decide +kernel) (h.z hz))
theorem Sh_isTell {kd : Nat → Int32} {pl vl : Nat → Nat} {Q : Nat} {S : Mem} {c : Nat → Nat} {t : Nat} (hQ : KQ kd Q) (hT : TC kd pl vl Q S) (hc : cnS c S) (h : Sy Q (0, t) S) : Ok (fun y : Int32 × Mem => y.1 = (if (tlP kd c t).1 = 0 then 1 else 0) ∧ O3 S y.2 ∧ Sy Q (tlP kd c t) y.2 ∧ ∀ i, i < 4 → y.2.2.1 2 4 i = nI (cn1 kd c t i)) (f_Sh_isTell S) := by
  have ht : t ≤ Q := h.2.2.1
  have e23 : S.1 2 3 = nI t := h.2.1
  unfold f_Sh_isTell f_Sh_isTell_b0 f_Sh_isTell_b26
  rw [e23, Tp_kindAt hQ.1 hT ht, bind_e]
  have bad : ∀ (_ : kd t < 128 ∨ 137 < kd t), Ok (fun y : Int32 × Mem => y.1 = (if ((1 : Nat), t).1 = 0 then 1 else 0) ∧ O3 S y.2 ∧ Sy Q (1, t) y.2 ∧ ∀ i, i < 4 → y.2.2.1 2 4 i = nI (cn1 kd c t i)) (Option.bind (f_Sh_failed 1 S) (fun q28 => gZ q28.1 (some (q28.1, q28.2)))) := fun q => by
    obtain ⟨y, e, y1, y2, y3, y4⟩ := (Sh_failed h (Or.inl rfl)).gz
    refine ⟨y, e, y1, y2, y3, fun i hi => ?_⟩
    rw [y4]
    unfold cn1
    rw [if_neg (fun z => ?_)]
    · exact (hc i hi).1
    · rcases q with q | q
      · exact z.1 q
      · exact absurd (Int32.lt_of_lt_of_le q z.2.1) (by decide)
  by_cases k1 : kd t < 128
  · rw [if_pos k1, show tlP kd c t = (1, t) from if_pos (Or.inl k1)]; exact bad (Or.inl k1)
  rw [if_neg k1]
  by_cases k2 : 137 < kd t
  · rw [if_neg (Int32.not_le.mpr k2), show tlP kd c t = (1, t) from if_pos (Or.inr k2)]; exact bad (Or.inr k2)
  rw [if_pos (Int32.not_lt.mp k2)]
  have k12 : ¬ (kd t < 128 ∨ 137 < kd t) := fun z => z.elim k1 k2
  refine (Sh_hasRoom hc h k1 k2).b (fun y hy => ?_)
  obtain ⟨y1, y2, y3⟩ := hy
  rcases y3 with ⟨a1, a2, a3, a4⟩ | ⟨a1, a3, a4⟩
  · rw [a3, i00, show tlP kd c t = (2, t) by unfold tlP; rw [if_neg k12, if_pos ⟨a1, a2⟩]]
    exact Ok.i ⟨rfl, y1, a4, y2⟩
  · rw [a3, i10, show tlP kd c t = bdP kd (kd t) (tk kd (kd t) (0, t)) by unfold tlP; rw [if_neg k12, if_neg a1]]
    have hk : ¬ (kd t = 0 ∨ kd t = 1) := by
      rintro (z | z)
      · exact k1 (by rw [z]; decide)
      · exact k1 (by rw [z]; decide)
    have T1 := hT.o3 y1
    have key : Sz Q y.2 (bdP kd (kd t) (tk kd (kd t) (0, t))) (Option.bind (f_Sh_isTaken (kd t) y.2) _) := (Sh_isTaken hQ T1 hk a4).b (fun e => bdP_f e) (fun S2 f1 e1 s1 _ => Sh_body (k := kd t) hQ (T1.o3 f1) e1 s1)
    obtain ⟨u, e, u1, u2, u3, u4⟩ := key
    exact ⟨u, e, u1, y1.tr u2, u3, fun i hi => by rw [u4]; exact y2 i hi⟩
theorem Sh_seek22 {kd : Nat → Int32} {pl vl : Nat → Nat} {Q : Nat} (hQ : KQ kd Q) : ∀ (n m i t : Nat) (c : Nat → Nat) (S : Mem), 400 - t < n → 401 - t < m → i ≤ t → TC kd pl vl Q S → cnS c S → (∀ j, j < 4 → c j + (400 - t) ≤ 600) → Sy Q (0, t) S → Ok (fun y : Int32 × Mem => y.1 = nI (skF kd n c t).1 ∧ O3 S y.2 ∧ y.2.1 2 0 = (if (skF kd n c t).1 = 0 then -1 else nI (pl (skF kd n c t).2))) (f_Sh_seek_l22 m 1 (nI i) S)
  | 0, _, _, _, _, _, h, _, _, _, _, _, _ => by omega
  | n + 1, 0, _, _, _, _, _, h, _, _, _, _, _ => by omega
  | n + 1, m + 1, i, t, c, S, hn, hm, hi, hT, hc, hcb, h => by
    have hq := hQ.1
    have ht : t ≤ Q := h.2.2.1
    have e23 : S.1 2 3 = nI t := h.2.1
    show Ok _ (f_Sh_seek_b22 (f_Sh_seek_l22 m) 1 (nI i) S)
    unfold f_Sh_seek_b22
    rw [if_neg (show ¬ (400 : Int32) < nI i from nI_nlt (a := 400) (by omega) (by decide)), i10, e23, Tp_kindAt hQ.1 hT ht, bind_e]
    -- the end
    have fin : ∀ (z : Nat × Nat) (S' : Mem), O3 S S' → Sy Q z S' → Ok (fun y : Int32 × Mem => y.1 = nI z.1 ∧ O3 S y.2 ∧ y.2.1 2 0 = (if z.1 = 0 then -1 else nI (pl z.2))) (f_Sh_seek_b58 S') := by
      intro z S' f1 s1
      unfold f_Sh_seek_b58 f_Sh_seek_b81
      rw [s1.1]
      by_cases q : z.1 = 0
      · rw [q, if_pos (by rfl), letS_e]
        exact Ok.i ⟨by rw [pI_1, if_neg (by omega), s1.1, q], f1.p 0 _, rfl⟩
      · rw [if_neg (nI_ne0 (by omega) (by have := s1.2.2.2; omega)), s1.2.1, Tp_placeAt hQ.1 (hT.o3 f1) s1.2.2.1, bind_e, letS_e]
        exact Ok.i ⟨by rw [pI_1, if_neg (by omega), s1.1], f1.p 0 _, by rw [if_neg q]; rfl⟩
    unfold skF
    by_cases q0 : kd t = 0
    · rw [if_pos q0, if_pos q0]; exact fin (0, t) S (O3.rf S) h
    rw [if_neg q0, if_neg q0]
    refine (Sh_isTell hQ hT hc h).b (fun y hy => ?_)
    obtain ⟨y1, y2, y3, y4⟩ := hy
    rw [letS_e, y1, nI_1]
    by_cases q1 : (tlP kd c t).1 = 0
    · have gt := tlP_gt q1
      have le := y3.2.2.1
      rw [if_pos q1, if_pos q1]
      have cb : ∀ j, j < 4 → cn1 kd c t j ≤ c j + 1 := fun j hj => by unfold cn1; split <;> omega
      obtain ⟨u, e, u1, u2, u3⟩ := Sh_seek22 hQ n m (i + 1) (tlP kd c t).2 (cn1 kd c t) y.2 (by omega) (by omega) (by omega) (hT.o3 y2) (fun j hj => ⟨y4 j hj, by have := cb j hj; have := hcb j hj; omega⟩) (fun j hj => by have := cb j hj; have := hcb j hj; omega) (y3.z q1)
      exact ⟨u, e, u1, y2.tr u2, u3⟩
    · rw [if_neg q1, if_neg q1, if_neg q1]
      cases m with
      | zero => omega
      | succ m =>
        show Ok _ (f_Sh_seek_b22 (f_Sh_seek_l22 m) 0 (nI (i + 1)) y.2)
        unfold f_Sh_seek_b22
        rw [i00]
        have := fin (tlP kd c t) y.2 y2 y3
        rw [if_neg q1] at this
        split <;> exact this
theorem Sh_seek {kd : Nat → Int32} {pl vl : Nat → Nat} {Q : Nat} {S : Mem} (hQ : KQ kd Q) (hT : TC kd pl vl Q S) : Ok (fun y : Int32 × Mem => y.1 = nI (skF kd 402 (fun _ => 0) 0).1 ∧ O3 S y.2 ∧ y.2.1 2 0 = (if (skF kd 402 (fun _ => 0) 0).1 = 0 then -1 else nI (pl (skF kd 402 (fun _ => 0) 0).2))) (f_Sh_seek S) := by
  unfold f_Sh_seek f_Sh_seek_b0
  rw [letS_e, letS_e, JArr_fill 2 4 4 (by decide), bind_e]
  have f1 : O3 S (pA (pI (pI S 2 3 0) 2 2 0) 2 4 (cpF 0 4 (fun _ => 0) ((pI (pI S 2 3 0) 2 2 0).2.1 2 4))) := by
    have := ((O3.rf S).p 3 0).p 2 0
    exact ⟨this.1, fun o f ho => by rw [pA_2, if_neg (fun z => ho z.1)]; exact this.2.1 o f ho, this.2.2⟩
  obtain ⟨u, e, u1, u2, u3⟩ := Sh_seek22 hQ 402 5000 0 0 (fun _ => 0) _ (by omega) (by omega) (by omega) (hT.o3 f1) (fun j hj => ⟨by
    show cpF 0 4 (fun _ => 0) _ j = _
    unfold cpF; rw [if_pos (by omega)]; rfl, by show 0 ≤ 1000; omega⟩) (fun j hj => by show 0 + (400 - 0) ≤ 600; omega) ⟨rfl, rfl, by show 0 ≤ Q; omega, by show 0 ≤ 2; omega⟩
  exact ⟨u, e, u1, f1.tr u2, u3⟩
