/-! READ: the shape of a text, on: the class. -/
theorem Sy.t {Q : Nat} {z : Nat × Nat} {S : Mem} (h : Sy Q z S) (e : z.1 = 0) : S.1 2 3 = nI z.2 ∧ z.2 ≤ Q := ⟨h.2.1, h.2.2.1⟩
/-- a step of Sz from a state without fault -/
theorem Sz.st {Q : Nat} {S S' : Mem} {z w : Nat × Nat} {x : Option (Int32 × Mem)} (hz : z.1 = 0) (h : Sz Q S' (w) x) (f1 : O3 S S') (f3 : S'.2.1 2 4 = S.2.1 2 4) : Sz Q S w x := by
  obtain ⟨u, e, u1, u2, u3, u4⟩ := h
  exact ⟨u, e, u1, f1.tr u2, u3, u4.trans f3⟩
theorem Sz.e {Q : Nat} {S : Mem} {z w : Nat × Nat} {x : Option (Int32 × Mem)} (h : Sz Q S z x) (e : z = w) : Sz Q S w x := e ▸ h
theorem smF_t {kd : Nat → Int32} {n o t : Nat} : smF kd (n + 1) o true t = (if kd t = 40 then (if o + 1 ≤ 6 then (if (tk kd 40 (0, t)).1 = 0 then smF kd n (o + 1) true (t + 1) else tk kd 40 (0, t)) else (2, t)) else if isVl (kd t) then (if (tk kd (kd t) (0, t)).1 = 0 then smF kd n o false (t + 1) else tk kd (kd t) (0, t)) else (1, t)) := by rw [smF, if_pos rfl]
theorem smF_n {kd : Nat → Int32} {n o t : Nat} : smF kd (n + 1) o false t = (if isSn (kd t) then (if (tk kd (kd t) (0, t)).1 = 0 then smF kd n o true (t + 1) else tk kd (kd t) (0, t)) else if o = 0 then (0, t) else if kd t = 41 then (if (tk kd 41 (0, t)).1 = 0 then smF kd n (o - 1) false (t + 1) else tk kd 41 (0, t)) else (1, t)) := by rw [smF, if_neg (show ¬ (false : Bool) = true by decide)]
theorem Sh_isSum {kd : Nat → Int32} {pl vl : Nat → Nat} {Q : Nat} (hQ : KQ kd Q) : ∀ (n o : Nat) (due : Bool) (t i m : Nat) (S : Mem), TC kd pl vl Q S → 400 - t < n → i ≤ t → 400 - t < m → o ≤ 6 → Sy Q (0, t) S → Sz Q S (smF kd n o due t) (f_Sh_isSum_l6 m (nI o) (if due = true then 1 else 0) (nI i) S)
  | 0, _, _, _, _, _, _, _, h, _, _, _, _ => by omega
  | n + 1, o, due, t, i, 0, S, _, _, _, h, _, _ => by omega
  | n + 1, o, due, t, i, m + 1, S, hT, hn, hi, hm, ho, h => by
    have hq := hQ.1
    have ht : t ≤ Q := h.2.2.1
    show Sz Q S _ (f_Sh_isSum_b6 (f_Sh_isSum_l6 m) (nI o) (if due = true then 1 else 0) (nI i) S)
    unfold f_Sh_isSum_b6
    have e23 : S.1 2 3 = nI t := h.2.1
    rw [if_neg (show ¬ (400 : Int32) < nI i from nI_nlt (a := 400) (by omega) (by decide)), e23, Tp_kindAt hQ.1 hT ht, bind_e]
    -- the token taken
    have go : ∀ (k : Int32) (o' : Nat) (due' : Bool), kd t = k → ¬ (k = 0 ∨ k = 1) → o' ≤ 6 → Sz Q S (if (tk kd k (0, t)).1 = 0 then smF kd n o' due' (t + 1) else tk kd k (0, t)) (f_Sh_isSum_b109 (f_Sh_isSum_l6 m) (nI o') (if due' = true then 1 else 0) (nI i) k S) := by
      intro k o' due' ek hk ho'
      unfold f_Sh_isSum_b109
      refine (Sh_isTaken hQ hT hk h).b (fun hz => by rw [if_neg hz]) (fun S2 f1 hz f2 f3 => ?_)
      obtain ⟨-, c⟩ := tk_ok hQ hk ht
      rcases c with ⟨e, -, e2⟩ | ⟨e, -⟩ | ⟨e, -⟩
      · rw [if_pos hz, nI_1]
        rw [e] at f2
        exact Sh_isSum hQ n o' due' (t + 1) (i + 1) m S2.2 (hT.o3 f1) (by omega) (by omega) (by omega) ho' f2
      · rw [e] at hz; exact absurd hz (show ¬ (2 : Nat) = 0 by decide)
      · rw [e] at hz; exact absurd hz (show ¬ (1 : Nat) = 0 by decide)
    cases due with
    | true =>
      rw [smF_t, show (if (true : Bool) = true then (1 : Int32) else 0) = 1 from rfl, i10]
      by_cases q1 : kd t = 40
      · rw [if_pos q1, if_pos q1, nI_1]
        by_cases q2 : o + 1 ≤ 6
        · rw [if_pos (show nI (o + 1) ≤ (6 : Int32) from nI_le (b := 6) q2 (by decide)), if_pos q2, q1]
          exact go 40 (o + 1) true q1 (by decide) q2
        · rw [if_neg (show ¬ nI (o + 1) ≤ (6 : Int32) from le_nI (b := 6) q2 (by omega) (by decide)), if_neg q2]
          exact (Sh_failed h (Or.inr rfl)).gz
      · rw [if_neg q1, if_neg q1]
        have ev : f_Sh_isValue (kd t) = some (if isVl (kd t) then 1 else 0) := by
          unfold f_Sh_isValue f_Sh_isValue_b0
          by_cases y1 : kd t = 48
          · rw [if_pos y1, if_pos (Or.inl y1)]
          · rw [if_neg y1]
            by_cases y2 : kd t < 142
            · rw [if_pos y2, if_neg (by rintro (z | z); exact y1 z; exact z.1 y2)]
            · rw [if_neg y2]
              by_cases y3 : 149 < kd t
              · rw [if_pos y3, if_neg (by rintro (z | z); exact y1 z; exact z.2 y3)]
              · rw [if_neg y3, if_pos (Or.inr ⟨y2, y3⟩)]
        rw [ev, bind_e]
        by_cases q3 : isVl (kd t)
        · rw [if_pos q3, if_pos q3, i10]
          refine go (kd t) o false rfl ?_ ho
          rintro (z | z)
          · rw [z] at q3; exact absurd q3 (by decide)
          · rw [z] at q3; exact absurd q3 (by decide)
        · rw [if_neg q3, if_neg q3, i00]
          exact (Sh_failed h (Or.inl rfl)).gz
    | false =>
      have es : f_Sh_isSign (kd t) = some (if isSn (kd t) then 1 else 0) := by
        unfold f_Sh_isSign f_Sh_isSign_b0 isSn
        by_cases y1 : kd t = 43
        · simp [y1]
        by_cases y2 : kd t = 45
        · simp [y2]
        by_cases y3 : kd t = 42
        · simp [y3]
        by_cases y4 : kd t = 47
        · simp [y4]
        simp [y1, y2, y3, y4]
      rw [smF_n, show (if (false : Bool) = true then (1 : Int32) else 0) = 0 from rfl, i00, es, bind_e]
      by_cases q1 : isSn (kd t)
      · rw [if_pos q1, if_pos q1, i10]
        refine go (kd t) o true rfl ?_ ho
        rintro (z | z)
        · rw [z] at q1; exact absurd q1 (by decide)
        · rw [z] at q1; exact absurd q1 (by decide)
      · rw [if_neg q1, if_neg q1, i00]
        by_cases q2 : o = 0
        · rw [if_pos (show nI o = 0 by rw [q2]; rfl), if_pos q2]
          exact Ok.i ⟨rfl, O3.rf _, h, rfl⟩
        · rw [if_neg (nI_ne0 (by omega) (by omega)), if_neg q2]
          by_cases q3 : kd t = 41
          · rw [if_pos q3, if_pos q3, q3, show nI o + (-1) = nI (o - 1) by have := pk_m1 (o - 1); rwa [Nat.sub_add_cancel (by omega)] at this]
            exact go 41 (o - 1) false q3 (by decide) (by omega)
          · rw [if_neg q3, if_neg q3]
            exact (Sh_failed h (Or.inl rfl)).gz
theorem Sh_sum {kd : Nat → Int32} {pl vl : Nat → Nat} {Q : Nat} {S : Mem} (hQ : KQ kd Q) (hT : TC kd pl vl Q S) {z : Nat × Nat} (hz : z.1 = 0) (h : Sy Q z S) : Sz Q S (smP kd z) (f_Sh_isSum S) := by
  unfold smP
  rw [if_pos hz]
  exact Sh_isSum hQ 402 0 true z.2 0 5000 S hT (by omega) (by omega) (by omega) (by omega) (h.z hz)
theorem Sh_tk {kd : Nat → Int32} {pl vl : Nat → Nat} {Q : Nat} {S : Mem} (hQ : KQ kd Q) (hT : TC kd pl vl Q S) {k : Int32} (hk : ¬ (k = 0 ∨ k = 1)) {z : Nat × Nat} (hz : z.1 = 0) (h : Sy Q z S) : Sz Q S (tk kd k z) (f_Sh_isTaken k S) := by
  have := Sh_isTaken hQ hT hk (h.z hz)
  rw [pz hz] at this
  exact this
theorem smP_f {kd : Nat → Int32} {z : Nat × Nat} (h : ¬ z.1 = 0) : smP kd z = z := if_neg h
/-- at the end: as it is -/
theorem Sz.end {Q : Nat} {S : Mem} {z : Nat × Nat} {x : Option (Int32 × Mem)} (h : Sz Q S z x) : Sz Q S z (Option.bind x (fun q => if q.1 = 0 then some (0, q.2) else some (1, q.2))) := by
  obtain ⟨y, rfl, h1, h2⟩ := h
  refine ⟨y, ?_, h1, h2⟩
  rw [bind_e]
  by_cases q : z.1 = 0
  · rw [if_pos q] at h1
    rw [h1, i10, ← h1]
  · rw [if_neg q] at h1
    rw [h1, i00, ← h1]
theorem Sh_case {kd : Nat → Int32} {pl vl : Nat → Nat} {Q : Nat} {S : Mem} (hQ : KQ kd Q) (hT : TC kd pl vl Q S) {z : Nat × Nat} (hz : z.1 = 0) (h : Sy Q z S) : Sz Q S (csP kd z) (f_Sh_isCase S) := by
  unfold f_Sh_isCase f_Sh_isCase_b0 csP
  refine (Sh_tk (k := 139) hQ hT (by decide) hz h).b (fun e => by rw [smP_f e, tk_f e, smP_f e, tk_f e, smP_f e, tk_f e]) (fun S1 f1 e1 s1 _ => ?_)
  have T1 := hT.o3 f1
  refine (Sh_sum hQ T1 e1 s1).b (fun e => by rw [tk_f e, smP_f e, tk_f e, smP_f e, tk_f e]) (fun S2 f2 e2 s2 _ => ?_)
  have T2 := T1.o3 f2
  refine (Sh_tk (k := 60) hQ T2 (by decide) e2 s2).b (fun e => by rw [smP_f e, tk_f e, smP_f e, tk_f e]) (fun S3 f3 e3 s3 _ => ?_)
  have T3 := T2.o3 f3
  refine (Sh_sum hQ T3 e3 s3).b (fun e => by rw [tk_f e, smP_f e, tk_f e]) (fun S4 f4 e4 s4 _ => ?_)
  have T4 := T3.o3 f4
  refine (Sh_tk (k := 140) hQ T4 (by decide) e4 s4).b (fun e => by rw [smP_f e, tk_f e]) (fun S5 f5 e5 s5 _ => ?_)
  have T5 := T4.o3 f5
  refine (Sh_sum hQ T5 e5 s5).b (fun e => by rw [tk_f e]) (fun S6 f6 e6 s6 _ => ?_)
  exact (Sh_tk (k := 141) hQ (T5.o3 f6) (by decide) e6 s6).end
theorem Sh_fin {kd : Nat → Int32} {pl vl : Nat → Nat} {Q : Nat} {S : Mem} (hQ : KQ kd Q) (hT : TC kd pl vl Q S) {z : Nat × Nat} (hz : z.1 = 0) (h : Sy Q z S) : Sz Q S (fnP kd z) (f_Sh_isLaw_b61 S) := by
  unfold f_Sh_isLaw_b61 fnP
  refine (Sh_sum hQ hT hz h).b (fun e => by rw [tk_f e]) (fun S1 f1 e1 s1 _ => ?_)
  exact (Sh_tk (k := 59) hQ (hT.o3 f1) (by decide) e1 s1).end
theorem Sh_law13 {kd : Nat → Int32} {pl vl : Nat → Nat} {Q : Nat} (hQ : KQ kd Q) : ∀ (n i m : Nat) (z : Nat × Nat) (S : Mem), n + i = 4 → n < m → TC kd pl vl Q S → z.1 = 0 → Sy Q z S → Sz Q S (lwF kd n z) (f_Sh_isLaw_l13 m (nI i) S)
  | n, i, 0, z, S, _, h, _, _, _ => by omega
  | 0, i, m + 1, z, S, hi, hm, hT, hz, h => by
    have e4 : i = 4 := by omega
    subst e4
    show Sz Q S _ (f_Sh_isLaw_b13 (f_Sh_isLaw_l13 m) (nI 4) S)
    unfold f_Sh_isLaw_b13 lwF
    rw [if_neg (show ¬ (4 : Int32) < nI 4 by decide), h.2.1, Tp_kindAt hQ.1 hT h.2.2.1, bind_e, if_pos hz]
    by_cases q : kd z.2 = 139
    · rw [if_pos q, if_pos q, if_pos (by decide)]
      exact (Sh_failed (h.z hz) (Or.inr rfl)).gz
    · rw [if_neg q, if_neg q]
      exact Sh_fin hQ hT hz h
  | n + 1, i, m + 1, z, S, hi, hm, hT, hz, h => by
    show Sz Q S _ (f_Sh_isLaw_b13 (f_Sh_isLaw_l13 m) (nI i) S)
    unfold f_Sh_isLaw_b13 lwF
    rw [if_neg (show ¬ (4 : Int32) < nI i from nI_nlt (a := 4) (by omega) (by decide)), h.2.1, Tp_kindAt hQ.1 hT h.2.2.1, bind_e, if_pos hz]
    by_cases q : kd z.2 = 139
    · rw [if_pos q, if_pos q, if_neg (show ¬ nI i = (4 : Int32) from fun e => by have := (nI_eq (a := i) (b := 4) (by omega) (by decide)).mp e; omega)]
      refine (Sh_case hQ hT hz h).b (fun e => ?_) (fun S1 f1 e1 s1 _ => ?_)
      · cases n with
        | zero => unfold lwF; rw [if_neg e]
        | succ n => unfold lwF; rw [if_neg e]
      · rw [nI_1]
        exact Sh_law13 hQ n (i + 1) m _ S1.2 (by omega) (by omega) (hT.o3 f1) e1 s1
    · rw [if_neg q, if_neg q]
      exact Sh_fin hQ hT hz h
theorem Sh_law {kd : Nat → Int32} {pl vl : Nat → Nat} {Q : Nat} {S : Mem} (hQ : KQ kd Q) (hT : TC kd pl vl Q S) {z : Nat × Nat} (hz : z.1 = 0) (h : Sy Q z S) : Sz Q S (lwP kd z) (f_Sh_isLaw S) := by
  unfold f_Sh_isLaw f_Sh_isLaw_b0 lwP
  refine (Sh_tk (k := 61) hQ hT (by decide) hz h).b (fun e => by unfold lwF; rw [if_neg e]) (fun S1 f1 e1 s1 _ => ?_)
  exact Sh_law13 hQ 4 0 5000 _ S1.2 rfl (by omega) (hT.o3 f1) e1 s1
theorem nms_f {kd : Nat → Int32} {z : Nat × Nat} (h : ¬ z.1 = 0) : ∀ n, nmsF kd n z = z
  | 0 => rfl
  | n + 1 => by unfold nmsF; rw [if_neg (fun y => h y.1)]
theorem Sh_names {kd : Nat → Int32} {pl vl : Nat → Nat} {Q : Nat} (hQ : KQ kd Q) : ∀ (n i m t : Nat) (S : Mem), 400 - t < n → i ≤ t → 400 - t < m → TC kd pl vl Q S → Sy Q (0, t) S → Sz Q S (tk kd 59 (nmsF kd n (0, t))) (f_Sh_isRestOfSecret_l42 m (nI i) S)
  | 0, _, _, _, _, h, _, _, _, _ => by omega
  | n + 1, i, 0, t, S, _, _, h, _, _ => by omega
  | n + 1, i, m + 1, t, S, hn, hi, hm, hT, h => by
    have hq := hQ.1
    have ht : t ≤ Q := h.2.2.1
    have e23 : S.1 2 3 = nI t := h.2.1
    show Sz Q S _ (f_Sh_isRestOfSecret_b42 (f_Sh_isRestOfSecret_l42 m) (nI i) S)
    unfold f_Sh_isRestOfSecret_b42 f_Sh_isRestOfSecret_b82 nmsF
    rw [if_neg (show ¬ (400 : Int32) < nI i from nI_nlt (a := 400) (by omega) (by decide)), e23, Tp_kindAt hQ.1 hT ht, bind_e]
    by_cases q : kd t = 97
    · rw [if_pos q, if_pos ⟨rfl, q⟩]
      refine (Sh_isTaken (k := 97) hQ hT (by decide) h).b (fun e => by rw [nms_f e, tk_f e]) (fun S1 f1 e1 s1 _ => ?_)
      obtain ⟨-, c⟩ := tk_ok hQ (k := 97) (by decide) ht
      rcases c with ⟨e, -, e2⟩ | ⟨e, -⟩ | ⟨e, -⟩
      · rw [e] at s1 ⊢
        rw [nI_1]
        exact Sh_names hQ n (i + 1) m (t + 1) S1.2 (by omega) (by omega) (by omega) (hT.o3 f1) s1
      · rw [e] at e1; exact absurd e1 (show ¬ (2 : Nat) = 0 by decide)
      · rw [e] at e1; exact absurd e1 (show ¬ (1 : Nat) = 0 by decide)
    · rw [if_neg q, if_neg (fun z => q z.2)]
      exact (Sh_isTaken (k := 59) hQ hT (by decide) h).gz
theorem Sh_secret {kd : Nat → Int32} {pl vl : Nat → Nat} {Q : Nat} {S : Mem} (hQ : KQ kd Q) (hT : TC kd pl vl Q S) {z : Nat × Nat} (hz : z.1 = 0) (h : Sy Q z S) : Sz Q S (seP kd z) (f_Sh_isRestOfSecret S) := by
  unfold f_Sh_isRestOfSecret f_Sh_isRestOfSecret_b0 seP
  have a := Sh_areTaken (si := 6) (l := [97, 48]) hQ hT (by decide) (by decide) (by decide) (by decide +kernel) (h.z hz)
  rw [pz hz] at a
  refine a.b (fun e => by unfold scP; rw [if_neg (fun y => e y.1), nms_f e, tk_f e]) (fun S1 f1 e1 s1 _ => ?_)
  have T1 := hT.o3 f1
  rw [s1.2.1, Tp_kindAt hQ.1 T1 s1.2.2.1, bind_e]
  unfold scP
  by_cases q : kd (tks kd [97, 48] z).2 = 138
  · rw [if_pos q, if_pos ⟨e1, q⟩]
    refine (Sh_tk (k := 138) hQ T1 (by decide) e1 s1).b (fun e => by rw [nms_f e, tk_f e]) (fun S2 f2 e2 s2 _ => ?_)
    have := Sh_names hQ 402 0 5000 _ S2.2 (by omega) (by omega) (by omega) (T1.o3 f2) (s2.z e2)
    rw [pz e2] at this
    exact this
  · rw [if_neg q, if_neg (fun y => q y.2)]
    have := Sh_names hQ 402 0 5000 _ S1.2 (by omega) (by omega) (by omega) T1 (s1.z e1)
    rw [pz e1] at this
    exact this
