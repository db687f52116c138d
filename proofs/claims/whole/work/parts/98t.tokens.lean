/-! READ: what is known of the tokens of a tape. -/
variable {b : Nat → Int32} {L Q : Nat}
theorem last_ex (b : Nat → Int32) (L : Nat) : ∃ Q, lastP b L Q := by
  refine ⟨runF (fun i => ¬ stP b L i) 400 0, ?_, fun i hi => ?_, fun h => ?_⟩
  · have := (runF_b (Q := fun i => ¬ stP b L i) 400 0).2; omega
  · exact runF_in (Q := fun i => ¬ stP b L i) 400 0 i (by omega) hi
  · exact Classical.not_not.mp (runF_s (Q := fun i => ¬ stP b L i) (L := 400) 400 0 rfl h)
theorem kw_in : ∀ i, i < 22 → nI (128 + i) ∈ kinds ∧ ¬ nI (128 + i) = 48 ∧ ¬ nI (128 + i) = 97 := by decide +kernel
theorem kw_k (x : Nat) : kwN x ∈ kinds ∧ ¬ kwN x = 48 := by
  unfold kwN
  by_cases q : wIx x < 22
  · rw [if_pos q]; exact ⟨(kw_in _ q).1, (kw_in _ q).2.1⟩
  · rw [if_neg q]; exact ⟨by decide, by decide⟩
theorem sg_k {x : Int32} (h : isSg x) : x ∈ kinds ∧ ¬ x = 48 ∧ ¬ x = 97 := by
  rcases h with rfl | rfl | rfl | rfl | rfl | rfl | rfl | rfl | rfl <;> decide
theorem kd_k (p : Nat) : kdP b L p ∈ kinds := by
  unfold kdP
  split
  · decide
  · split
    · split
      · exact (kw_k _).1
      · decide
    · split
      · split <;> decide
      · split
        · rename_i h; exact (sg_k h).1
        · decide
theorem kd_48 (hg : byG b L) {p : Nat} (h : kdP b L p = 48) : vlP b L p ≤ 9999 := by
  unfold kdP at h
  unfold vlP
  by_cases q0 : L ≤ p
  · rw [if_pos q0]; omega
  · rw [if_neg q0] at h ⊢
    by_cases q1 : isLt (b p)
    · rw [if_pos q1] at h
      by_cases q2 : leP b L p - p ≤ 8
      · rw [if_pos q2] at h; exact absurd h (kw_k _).2
      · rw [if_neg q2] at h; exact absurd h (by decide)
    · rw [if_neg q1] at h ⊢
      by_cases q2 : isDg (b p)
      · rw [if_pos q2] at h ⊢
        by_cases q3 : deP b L p - p ≤ 4
        · have lt := dg_lt (b := b) (p := p) (deP b L p - p) (fun i hi => by
            have hi2 : p + i < deP b L p := by omega
            have bd := (runF_b (Q := fun i => isDg (b i)) (L - p) p).2
            have : p + i < L := by
              have : deP b L p ≤ p + (L - p) := bd
              omega
            obtain ⟨m, m1, m2, e⟩ := hg.d this (runF_in (Q := fun i => isDg (b i)) (L - p) p (p + i) (by omega) hi2)
            rw [e, cl (by omega)]; omega)
          have := pw10 _ q3
          omega
        · rw [if_neg q3] at h; exact absurd h (by decide)
      · rw [if_neg q2]; omega
theorem kd_97 (hg : byG b L) {p : Nat} (h : kdP b L p = 97) : vlP b L p < 2 ^ 62 := by
  unfold kdP at h
  unfold vlP
  by_cases q0 : L ≤ p
  · rw [if_pos q0]; omega
  · rw [if_neg q0] at h ⊢
    by_cases q1 : isLt (b p)
    · rw [if_pos q1] at h ⊢
      by_cases q2 : leP b L p - p ≤ 8
      · have lt := nm_lt (b := b) (p := p) (leP b L p - p) (fun i hi => by
          have hi2 : p + i < leP b L p := by omega
          have bd := (runF_b (Q := fun i => isLt (b i)) (L - p) p).2
          have : p + i < L := by
            have : leP b L p ≤ p + (L - p) := bd
            omega
          obtain ⟨m, m1, m2, e⟩ := hg.l this (runF_in (Q := fun i => isLt (b i)) (L - p) p (p + i) (by omega) hi2)
          unfold ltN
          rw [e, cl (by omega)]; omega)
        have := pw27 (leP b L p - p) (by omega)
        omega
      · rw [if_neg q2] at h; exact absurd h (by decide)
    · rw [if_neg q1] at h ⊢
      by_cases q2 : isDg (b p)
      · rw [if_pos q2] at h
        by_cases q3 : deP b L p - p ≤ 4
        · rw [if_pos q3] at h; exact absurd h (by decide)
        · rw [if_neg q3] at h; exact absurd h (by decide)
      · rw [if_neg q2]; omega
theorem EV_of (hL : L ≤ 2000) (hg : byG b L) (hQ : lastP b L Q) : EV (fun i => kdP b L (psP b L i)) (psP b L) (fun i => vlP b L (psP b L i)) Q := by
  refine ⟨hQ, fun i _ => kd_k _, ?_, fun i _ => Nat.le_trans (ps_ok b L i).1 hL, fun i _ h => kd_48 hg h, fun i _ h => kd_97 hg h⟩
  have one : ∀ i, i < Q → psP b L i < psP b L (i + 1) := fun i hi => by
    have hp := (ps_ok b L i).1
    have lt : psP b L i < L := Nat.lt_of_not_le (fun z => hQ.2.1 i hi (Or.inl (by unfold kdP; rw [if_pos z])))
    obtain ⟨n1, n2, n3⟩ := nx_ok (b := b) hp
    have := (nb_ok (b := b) n2).1
    show _ < nbP b L (nxP b L (psP b L i))
    have := n3 lt
    omega
  intro i j hij hj
  induction j with
  | zero => omega
  | succ j ih =>
    have := one j (by omega)
    by_cases q : i = j
    · rw [q]; exact this
    · have := ih (by omega) (by omega); omega
theorem TC_of {S : Mem} (h : ∀ i, i ≤ Q → tkC b L i (psP b L i) S) : TC (fun i => kdP b L (psP b L i)) (psP b L) (fun i => vlP b L (psP b L i)) Q S := fun i hi => h i hi
theorem TK_of {S : Mem} (h : ∀ i, i ≤ Q → tkM b L i (psP b L i) S) : TK (fun i => kdP b L (psP b L i)) (psP b L) (fun i => vlP b L (psP b L i)) Q S := fun i hi => h i hi
