/-! READ: the reference's tells, whichever. -/
variable {kd : Nat → Int32} {pl vl : Nat → Nat} {Q v cb b : Nat} {S0 : Mem} {c : Nat → Nat} {p : PS} {l : NLt} {T : TX} {S : Mem} {G : LwG}
/-- what a tell at token t leaves: what is wrong, names, text, laws -/
def teD (kd : Nat → Int32) (vl : Nat → Nat) (c : Nat → Nat) (l : NLt) (T : TX) (G : LwG) (t : Nat) (w : Nat × Nat) : (Nat × Nat) × NLt × TX × LwG :=
  if kd t = 128 then ((wlS kd vl l (tk kd 128 (0, t), w)).2, notS l (vl (t + 1)) 0 (c 0), upd2 (upd2 (upd2 T 1 (c 0) (nI (vl (t + 2)))) 2 (c 0) (nI (vl (t + 3)))) 0 0 (nI (c 0 + 1)), G)
  else if kd t = 129 then ((mnS kd vl l (tk kd 129 (0, t), w)).2, notS l (vl (t + 1)) 1 (c 1), upd2 (upd2 (upd2 T 3 (c 1) (odV vl l 0 (nwS kd vl l (tk kd 129 (0, t), w)))) 4 (c 1) (nI (vl (t + 3)))) 0 1 (nI (c 1 + 1)), G)
  else if kd t = 130 then ((seS kd vl l (tk kd 130 (0, t), w)).2, notS l (vl (t + 1)) 2 (c 2), upd2 (upd2 (upd2 (upd2 T 5 (c 2) (nI (vl (t + 2)))) 6 (c 2) (seL kd vl l (tk kd 130 (0, t), w))) 7 (c 2) (seK kd vl l (tk kd 130 (0, t), w)).2) 0 2 (nI (c 2 + 1)), G)
  else if kd t = 131 then ((tiS kd vl l (tk kd 131 (0, t), w)).2, l, upd2 (upd2 (upd2 T 8 (c 3) (odV vl l 1 (tk kd 131 (0, t), w))) 9 (c 3) (odV vl l 1 (odS kd vl l 1 (tk kd 131 (0, t), w)))) 0 3 (nI (c 3 + 1)), G)
  else if kd t = 135 then ((nbS kd vl 1 99 (tk kd 135 (0, t), w)).2, l, upd2 T 0 4 (nI (vl (t + 1))), G)
  else if kd t = 136 then ((nbS kd vl 0 99 (tk kd 136 (0, t), w)).2, l, upd2 T 0 5 (nI (vl (t + 1))), G)
  else if kd t = 137 then ((nbS kd vl 0 9999 (tk kd 137 (0, t), w)).2, l, upd2 T 0 6 (nI (vl (t + 1))), G)
  else (w, l, T, updG G (srt (kd t) - 4) (lwB kd vl 4 (tk kd 61 (tk kd (kd t) (0, t))) []))
/-- behind a tell -/
def tlQ (kd : Nat → Int32) (pl vl : Nat → Nat) (Q v : Nat) (S0 : Mem) (c : Nat → Nat) (z : Nat × Nat) (cn : Nat → Nat) (d : (Nat × Nat) × NLt × TX × LwG) (S' : Mem) : Prop :=
  ∃ w' c' l' T' b' j, LwS kd pl vl Q v S0 c' l' T' b' j (z, w') S' ∧ l'.1 = c' 0 + c' 1 + c' 2 ∧ (z.1 = 0 → c' = cn ∧ lawsM (1 - v) b' j S' d.2.2.2 ∧ 4 * (b' - 130 * (1 - v)) ≤ z.2 ∧ w' = d.1 ∧ l' = d.2.1 ∧ T' = d.2.2.1)
theorem tlR.q {j : Nat} {z w : Nat × Nat} {L' : NLt} {T2 : TX} {S' : Mem} (h : tlR kd pl vl Q v S0 S c b cb j z w L' T2 S') (hG : lawsM (1 - v) b cb S G) {t : Nat} (h4 : 4 * (b - 130 * (1 - v)) ≤ t) (ht : z.1 = 0 → t ≤ z.2) {cn : Nat → Nat} (hc : cn = cjN j c) : tlQ kd pl vl Q v S0 c z cn (w, L', T2, G) S' := by
  obtain ⟨w', c', l', T', h1, h2, h3, h5⟩ := h
  refine ⟨w', c', l', T', b, cb, h1, h3, fun q => ?_⟩
  obtain ⟨a1, a2, a3, a4⟩ := h5 q
  exact ⟨by rw [a2, hc], hG.lk h2, Nat.le_trans h4 (ht q), a1, a3, a4⟩
theorem tlN.q {z w : Nat × Nat} {T2 : TX} {S' : Mem} (h : tlN kd pl vl Q v S0 S c l b cb z w T2 S') (hl : l.1 = c 0 + c 1 + c 2) (hG : lawsM (1 - v) b cb S G) {t : Nat} (h4 : 4 * (b - 130 * (1 - v)) ≤ t) (ht : z.1 = 0 → t ≤ z.2) {cn : Nat → Nat} (hc : cn = c) : tlQ kd pl vl Q v S0 c z cn (w, l, T2, G) S' := by
  obtain ⟨w', T', h1, h2, h5⟩ := h
  refine ⟨w', c, l, T', b, cb, h1, hl, fun q => ?_⟩
  obtain ⟨a1, a2⟩ := h5 q
  exact ⟨hc.symm, hG.lk h2, Nat.le_trans h4 (ht q), a1, rfl, a2⟩
theorem cn1_y {t j : Nat} {K : Int32} (h1 : kd t = K) (h2 : ¬ K < 128) (h3 : K ≤ 131) (hj : srt K = j) : cn1 kd c t = cjN j c := by
  funext i
  unfold cn1 cjN
  rw [h1, hj]
  by_cases q : i = j
  · rw [if_pos ⟨h2, h3, q⟩, if_pos q]
  · rw [if_neg (fun w => q w.2.2), if_neg q]
theorem cn1_n {t : Nat} {K : Int32} (h1 : kd t = K) (h3 : ¬ K ≤ 131) : cn1 kd c t = c := by
  funext i
  unfold cn1
  rw [h1, if_neg (fun w => h3 w.2.1)]
theorem oth_k : ∀ k, k ∈ kinds → ¬ (128 ≤ k ∧ k ≤ 137) → ¬ mkK k = 20 ∧ ¬ mkK k = 21 ∧ ¬ mkK k = 22 ∧ ¬ mkK k = 24 ∧ ¬ mkK k = 28 ∧ ¬ mkK k = 29 ∧ ¬ mkK k = 30 ∧ (¬ mkK k - 25 < 0 → ¬ mkK k ≤ 27) ∧ (k < 128 ∨ 137 < k) := by decide +kernel
