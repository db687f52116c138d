/-! READ: the reference's tells, joined. -/
variable {kd : Nat → Int32} {pl vl : Nat → Nat} {Q v cb b : Nat} {S0 : Mem} {c : Nat → Nat} {p : PS} {l : NLt} {T : TX} {S : Mem} {G : LwG}
theorem Mo_tellOne (E : EV kd pl vl Q) {t : Nat} {w : Nat × Nat} (h : LwS kd pl vl Q v S0 c l T b cb ((0, t), w) S) (hl : l.1 = c 0 + c 1 + c 2) (hb : b + 6 < 130 * (1 - v) + 130) (hG : lawsM (1 - v) b cb S G) (h4 : 4 * (b - 130 * (1 - v)) ≤ t) : Ok (tlQ kd pl vl Q v S0 c (tlP kd c t) (cn1 kd c t) (teD kd vl c l T G t w)) (f_Mo_tellOne S) := by
  have tQ : t ≤ Q := h.1.1.1
  have hq := E.1.1
  have hv := h.1.hv
  have cn := h.ry.cn
  have e19 := h.1.s19
  have e11 : S.1 0 11 = nI t := (h.1.1.2.2.1 rfl).2
  have e5 : S.2.1 0 5 t = mkK (kd t) := (h.1.2.2.2.2.2.2.1 t tQ).1
  have e13 : S.1 0 13 = 0 := h.1.f0 rfl
  have gt : (tlP kd c t).1 = 0 → t ≤ (tlP kd c t).2 := fun z => Nat.le_of_lt (tlP_gt z)
  have cv : (nI (1 - v)).toNatClampNeg = 1 - v := cl (by omega)
  unfold f_Mo_tellOne f_Mo_tellOne_b0
  rw [e11, gIn_n (show t < 403 by omega) (by decide), cl (show t < 4096 by omega), e5, e19, g2 (by omega), g2 (by omega), g2 (by omega), g2 (by omega), cv, cn.1.1, cn.2.1.1, cn.2.2.1.1, cn.2.2.2.1]
  unfold teD
  by_cases k1 : kd t = 128
  · rw [if_pos k1, k1, if_pos (show mkK 128 = 20 by decide)]
    exact (Mo_t128 E h hl k1).m (fun S' g => g.q hG h4 gt (cn1_y k1 (by decide) (by decide) (by decide)))
  rw [if_neg k1]
  by_cases k2 : kd t = 129
  · rw [if_pos k2, k2, if_neg (show ¬ mkK 129 = 20 by decide), if_pos (show mkK 129 = 21 by decide)]
    exact (Mo_t129 E h hl k2).m (fun S' g => g.q hG h4 gt (cn1_y k2 (by decide) (by decide) (by decide)))
  rw [if_neg k2]
  by_cases k3 : kd t = 130
  · rw [if_pos k3, k3, if_neg (show ¬ mkK 130 = 20 by decide), if_neg (show ¬ mkK 130 = 21 by decide), if_pos (show mkK 130 = 22 by decide)]
    exact (Mo_t130 E h hl k3).m (fun S' g => g.q hG h4 gt (cn1_y k3 (by decide) (by decide) (by decide)))
  rw [if_neg k3]
  by_cases k4 : kd t = 131
  · rw [if_pos k4, k4, if_neg (show ¬ mkK 131 = 20 by decide), if_neg (show ¬ mkK 131 = 21 by decide), if_neg (show ¬ mkK 131 = 22 by decide), if_pos (show mkK 131 = 24 by decide)]
    exact (Mo_t131 E h hl k4).m (fun S' g => g.q hG h4 gt (cn1_y k4 (by decide) (by decide) (by decide)))
  rw [if_neg k4]
  by_cases k5 : kd t = 135
  · rw [if_pos k5, k5, if_neg (show ¬ mkK 135 = 20 by decide), if_neg (show ¬ mkK 135 = 21 by decide), if_neg (show ¬ mkK 135 = 22 by decide), if_neg (show ¬ mkK 135 = 24 by decide), if_pos (show mkK 135 = 28 by decide)]
    exact (Mo_tnum (lo := 1) (hi := 99) (j := 4) (f := 37) E h (Or.inl rfl) k5 (by omega) (by omega) (by decide) (by decide) (by decide) (by decide)).m (fun S' g => g.q hl hG h4 gt (cn1_n k5 (by decide)))
  rw [if_neg k5]
  by_cases k6 : kd t = 136
  · rw [if_pos k6, k6, if_neg (show ¬ mkK 136 = 20 by decide), if_neg (show ¬ mkK 136 = 21 by decide), if_neg (show ¬ mkK 136 = 22 by decide), if_neg (show ¬ mkK 136 = 24 by decide), if_neg (show ¬ mkK 136 = 28 by decide), if_pos (show mkK 136 = 29 by decide)]
    exact (Mo_tnum (lo := 0) (hi := 99) (j := 5) (f := 38) E h (Or.inr (Or.inl rfl)) k6 (by omega) (by omega) (by decide) (by decide) (by decide) (by decide)).m (fun S' g => g.q hl hG h4 gt (cn1_n k6 (by decide)))
  rw [if_neg k6]
  by_cases k7 : kd t = 137
  · rw [if_pos k7, k7, if_neg (show ¬ mkK 137 = 20 by decide), if_neg (show ¬ mkK 137 = 21 by decide), if_neg (show ¬ mkK 137 = 22 by decide), if_neg (show ¬ mkK 137 = 24 by decide), if_neg (show ¬ mkK 137 = 28 by decide), if_neg (show ¬ mkK 137 = 29 by decide), if_pos (show mkK 137 = 30 by decide)]
    exact (Mo_tnum (lo := 0) (hi := 9999) (j := 6) (f := 39) E h (Or.inr (Or.inr rfl)) k7 (by omega) (by omega) (by decide) (by decide) (by decide) (by decide)).m (fun S' g => g.q hl hG h4 gt (cn1_n k7 (by decide)))
  rw [if_neg k7]
  have law : ∀ (K : Int32) (k : Nat), (K = 132 ∨ K = 133 ∨ K = 134) → kd t = K → k < 3 → srt K - 4 = k → ¬ K ≤ 131 → Ok (tlQ kd pl vl Q v S0 c (tlP kd c t) (cn1 kd c t) (w, l, T, updG G (srt (kd t) - 4) (lwB kd vl 4 (tk kd 61 (tk kd (kd t) (0, t))) []))) (f_Mo_tellOne_b304 (nI k) S) := fun K k hk hK hk3 es hn => by
    rw [hK, es]
    refine (Mo_tlaw E h hk hK hk3 hb hG h4).m (fun S' g => ?_)
    obtain ⟨b', j, r1, r2⟩ := g
    refine ⟨w, c, l, T, b', j, r1, hl, fun z => ?_⟩
    exact ⟨(cn1_n hK hn).symm, (r2 z).1, (r2 z).2, rfl, rfl, rfl⟩
  by_cases k8 : kd t = 132
  · rw [k8, if_neg (show ¬ mkK 132 = 20 by decide), if_neg (show ¬ mkK 132 = 21 by decide), if_neg (show ¬ mkK 132 = 22 by decide), if_neg (show ¬ mkK 132 = 24 by decide), if_neg (show ¬ mkK 132 = 28 by decide), if_neg (show ¬ mkK 132 = 29 by decide), if_neg (show ¬ mkK 132 = 30 by decide), gIn_n (show t < 403 by omega) (by decide), letS_e, if_neg (show ¬ mkK 132 - 25 < 0 by decide), gIn_n (show t < 403 by omega) (by decide), if_pos (show mkK 132 ≤ 27 by decide), show mkK 132 - 25 = nI 0 from by decide]
    have := law 132 0 (Or.inl rfl) k8 (by omega) (by decide) (by decide)
    rw [k8] at this; exact this
  by_cases k9 : kd t = 133
  · rw [k9, if_neg (show ¬ mkK 133 = 20 by decide), if_neg (show ¬ mkK 133 = 21 by decide), if_neg (show ¬ mkK 133 = 22 by decide), if_neg (show ¬ mkK 133 = 24 by decide), if_neg (show ¬ mkK 133 = 28 by decide), if_neg (show ¬ mkK 133 = 29 by decide), if_neg (show ¬ mkK 133 = 30 by decide), gIn_n (show t < 403 by omega) (by decide), letS_e, if_neg (show ¬ mkK 133 - 25 < 0 by decide), gIn_n (show t < 403 by omega) (by decide), if_pos (show mkK 133 ≤ 27 by decide), show mkK 133 - 25 = nI 1 from by decide]
    have := law 133 1 (Or.inr (Or.inl rfl)) k9 (by omega) (by decide) (by decide)
    rw [k9] at this; exact this
  by_cases k10 : kd t = 134
  · rw [k10, if_neg (show ¬ mkK 134 = 20 by decide), if_neg (show ¬ mkK 134 = 21 by decide), if_neg (show ¬ mkK 134 = 22 by decide), if_neg (show ¬ mkK 134 = 24 by decide), if_neg (show ¬ mkK 134 = 28 by decide), if_neg (show ¬ mkK 134 = 29 by decide), if_neg (show ¬ mkK 134 = 30 by decide), gIn_n (show t < 403 by omega) (by decide), letS_e, if_neg (show ¬ mkK 134 - 25 < 0 by decide), gIn_n (show t < 403 by omega) (by decide), if_pos (show mkK 134 ≤ 27 by decide), show mkK 134 - 25 = nI 2 from by decide]
    have := law 134 2 (Or.inr (Or.inr rfl)) k10 (by omega) (by decide) (by decide)
    rw [k10] at this; exact this
  have hno : ¬ (128 ≤ kd t ∧ kd t ≤ 137) := by
    have all : ∀ k, k ∈ kinds → 128 ≤ k ∧ k ≤ 137 → k = 128 ∨ k = 129 ∨ k = 130 ∨ k = 131 ∨ k = 135 ∨ k = 136 ∨ k = 137 ∨ k = 132 ∨ k = 133 ∨ k = 134 := by decide +kernel
    intro z
    rcases all _ (E.2.1 t tQ) z with y | y | y | y | y | y | y | y | y | y
    · exact k1 y
    · exact k2 y
    · exact k3 y
    · exact k4 y
    · exact k5 y
    · exact k6 y
    · exact k7 y
    · exact k8 y
    · exact k9 y
    · exact k10 y
  obtain ⟨n1, n2, n3, n4, n5, n6, n7, n8, n9⟩ := oth_k _ (E.2.1 t tQ) hno
  rw [if_neg n1, if_neg n2, if_neg n3, if_neg n4, if_neg n5, if_neg n6, if_neg n7, gIn_n (show t < 403 by omega) (by decide), letS_e]
  have et : tlP kd c t = (1, t) := by unfold tlP; rw [if_pos n9]
  have bad : Ok (tlQ kd pl vl Q v S0 c (tlP kd c t) (cn1 kd c t) (w, l, T, updG G (srt (kd t) - 4) (lwB kd vl 4 (tk kd 61 (tk kd (kd t) (0, t))) []))) (f_Mo_tellOne_b299 (mkK (kd t) - 25) S) := by
    unfold f_Mo_tellOne_b299
    refine (show Ok _ (f_Mo_fail 1 S) from h.fail (e := 1) E (Or.inl rfl) rfl).b (fun S1 g1 => ?_)
    unfold f_Mo_tellOne_b304
    rw [if_neg (g1.1.1.f1 (show ¬ (1 : Nat) = 0 by decide)).1, et]
    exact Ok.i ⟨w, c, l, T, b, cb, g1.1, hl, fun z => absurd z (show ¬ (1 : Nat) = 0 by decide)⟩
  by_cases y : mkK (kd t) - 25 < 0
  · rw [if_pos y]; exact bad
  · rw [if_neg y, gIn_n (show t < 403 by omega) (by decide), if_neg (n8 y)]; exact bad
