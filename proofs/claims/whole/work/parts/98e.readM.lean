/-! READ: the reference reads all tells. -/
variable {kd : Nat → Int32} {pl vl : Nat → Nat} {Q v : Nat} {S0 : Mem} {p : PS} {l : NLt}
theorem wrS_k {k tok : Nat} (h : ¬ p.2.1 = 0) : wrS k tok p = p := if_neg (fun z => h z.2)
theorem bdS_k {lo hi : Nat} (h : ¬ p.2.1 = 0) : (bdS kd vl lo hi p).2 = p.2 := by
  unfold bdS
  show (if _ then (wrS 5 p.1.2 p).2 else p.2) = p.2
  rw [wrS_k h]; split <;> rfl
theorem nwS_k (h : ¬ p.2.1 = 0) : (nwS kd vl l p).2 = p.2 := by
  unfold nwS
  show (if _ then (wrS 3 p.1.2 (tk kd 97 p.1, p.2)).2 else p.2) = p.2
  rw [wrS_k (p := (tk kd 97 p.1, p.2)) h]; split <;> rfl
theorem odS_k {s : Nat} (h : ¬ p.2.1 = 0) : (odS kd vl l s p).2 = p.2 := by
  unfold odS
  show (if _ then (wrS 4 p.1.2 (tk kd 97 p.1, p.2)).2 else p.2) = p.2
  rw [wrS_k (p := (tk kd 97 p.1, p.2)) h]; split <;> rfl
theorem knF_k : ∀ (n : Nat) (p : PS) (b : Int32), ¬ p.2.1 = 0 → (knF kd vl l n p b).1.2 = p.2
  | 0, p, b, h => rfl
  | n + 1, p, b, h => by
    have h2 : ¬ (odS kd vl l 1 p).2.1 = 0 := by rw [odS_k h]; exact h
    unfold knF
    split
    · split
      · split
        · rw [knF_k n _ _ (by rw [wrS_k h2]; exact h2), wrS_k h2, odS_k h]
        · rw [knF_k n _ _ h2, odS_k h]
      · rw [knF_k n _ _ h2, odS_k h]
    · rfl
theorem wlS_k (h : ¬ p.2.1 = 0) : (wlS kd vl l p).2 = p.2 := by
  unfold wlS
  have h1 : ¬ (nwS kd vl l p).2.1 = 0 := by rw [nwS_k h]; exact h
  show (bdS kd vl 0 999 (bdS kd vl 0 999 (nwS kd vl l p))).2 = p.2
  rw [bdS_k (by rw [bdS_k h1]; exact h1), bdS_k h1, nwS_k h]
theorem mnS_k (h : ¬ p.2.1 = 0) : (mnS kd vl l p).2 = p.2 := by
  unfold mnS
  have h1 : ¬ (nwS kd vl l p).2.1 = 0 := by rw [nwS_k h]; exact h
  show (bdS kd vl 0 99 (odS kd vl l 0 (nwS kd vl l p))).2 = p.2
  rw [bdS_k (by rw [odS_k h1]; exact h1), odS_k h1, nwS_k h]
theorem seS_k (h : ¬ p.2.1 = 0) : (seS kd vl l p).2 = p.2 := by
  unfold seS seK seA
  have h1 : ¬ (nwS kd vl l p).2.1 = 0 := by rw [nwS_k h]; exact h
  have h2 : ¬ (bdS kd vl 1 99 (nwS kd vl l p)).2.1 = 0 := by rw [bdS_k h1]; exact h1
  have h3 : (scS kd (bdS kd vl 1 99 (nwS kd vl l p))).2 = (bdS kd vl 1 99 (nwS kd vl l p)).2 := by unfold scS; split <;> rfl
  show (knF kd vl l 402 (scS kd (bdS kd vl 1 99 (nwS kd vl l p))) 0).1.2 = p.2
  rw [knF_k _ _ _ (by rw [h3]; exact h2), h3, bdS_k h1, nwS_k h]
theorem tiS_k (h : ¬ p.2.1 = 0) : (tiS kd vl l p).2 = p.2 := by
  unfold tiS tiW
  have h1 : ¬ (odS kd vl l 1 p).2.1 = 0 := by rw [odS_k h]; exact h
  have h2 : ¬ (odS kd vl l 1 (odS kd vl l 1 p)).2.1 = 0 := by rw [odS_k h1]; exact h1
  rw [wrS_k h2]
  show (if _ then odS kd vl l 1 (odS kd vl l 1 p) else odS kd vl l 1 (odS kd vl l 1 p)).2 = p.2
  rw [ite_self, odS_k h1, odS_k h]
theorem teD_k {c : Nat → Nat} {T : TX} {G : LwG} {t : Nat} {w : Nat × Nat} (h : ¬ w.1 = 0) : (teD kd vl c l T G t w).1 = w := by
  unfold teD
  repeat' split
  · exact wlS_k (p := (tk kd 128 (0, t), w)) h
  · exact mnS_k (p := (tk kd 129 (0, t), w)) h
  · exact seS_k (p := (tk kd 130 (0, t), w)) h
  · exact tiS_k (p := (tk kd 131 (0, t), w)) h
  · exact bdS_k (p := (tk kd 135 (0, t), w)) h
  · exact bdS_k (p := (tk kd 136 (0, t), w)) h
  · exact bdS_k (p := (tk kd 137 (0, t), w)) h
  · rfl
abbrev DX : Type := (Nat × Nat) × NLt × TX × LwG
/-- all tells from token t on -/
def rdF (kd : Nat → Int32) (vl : Nat → Nat) : Nat → (Nat → Nat) → DX → Nat → (Nat → Nat) × DX
  | 0, c, d, _ => (c, d)
  | n + 1, c, d, t => if kd t = 0 then (c, d) else if (tlP kd c t).1 = 0 then rdF kd vl n (cn1 kd c t) (teD kd vl c d.2.1 d.2.2.1 d.2.2.2 t d.1) (tlP kd c t).2 else (c, d)
theorem rdF_k : ∀ (n : Nat) (c : Nat → Nat) (d : DX) (t : Nat), ¬ d.1.1 = 0 → (rdF kd vl n c d t).2.1 = d.1
  | 0, c, d, t, h => rfl
  | n + 1, c, d, t, h => by
    unfold rdF
    split
    · rfl
    · split
      · rw [rdF_k n _ _ _ (by rw [teD_k h]; exact h), teD_k h]
      · rfl
theorem Mo_read112 (E : EV kd pl vl Q) {R : Int32 × Mem → Prop} : ∀ (n m t : Nat) (c : Nat → Nat) (l : NLt) (T : TX) (G : LwG) (b cb : Nat) (w : Nat × Nat) (S : Mem), LwS kd pl vl Q v S0 c l T b cb ((0, t), w) S → l.1 = c 0 + c 1 + c 2 → lawsM (1 - v) b cb S G → 4 * (b - 130 * (1 - v)) ≤ t → Q + 1 - t ≤ n → Q + 2 - t ≤ m → (∀ S' w' c' l' T' b' j, LwS kd pl vl Q v S0 c' l' T' b' j (skF kd n c t, w') S' → ((skF kd n c t).1 = 0 → ∃ G', lawsM (1 - v) b' j S' G' ∧ rdF kd vl n c (w, l, T, G) t = (c', w', l', T', G')) → Ok R (f_Mo_read_b134 S')) → Ok R (f_Mo_read_l112 m S) := by
  intro n
  induction n with
  | zero =>
    intro m t c l T G b cb w S h _ _ _ h5
    have : t ≤ Q := h.1.1.1
    omega
  | succ n ih =>
    intro m t c l T G b cb w S h hl hG h4 h5 h6 hR
    have tQ : t ≤ Q := h.1.1.1
    have hq := E.1.1
    have hv := h.1.hv
    obtain ⟨m, rfl⟩ : ∃ k, m = k + 1 := ⟨m - 1, by omega⟩
    show Ok R (f_Mo_read_b112 (f_Mo_read_l112 m) S)
    unfold f_Mo_read_b112
    have e13 : S.1 0 13 = 0 := h.1.f0 rfl
    have eis : f_Mo_is 0 S = some (if (0 : Nat) = 0 ∧ kd t = 0 then 1 else 0) := Mo_is (k := 0) E.1.1 E.2.1 h.1.2.2.2.2.2.2.1 h.1.1 (by decide)
    rw [if_pos e13, eis, bind_e]
    by_cases q : kd t = 0
    · rw [show (if (0 : Nat) = 0 ∧ kd t = 0 then (1 : Int32) else 0) = 1 from if_pos ⟨rfl, q⟩, i10]
      have es : skF kd (n + 1) c t = (0, t) := by unfold skF; rw [if_pos q]
      refine hR S w c l T b cb (by rw [es]; exact h) (fun _ => ⟨G, hG, ?_⟩)
      unfold rdF; rw [if_pos q]
    · rw [show (if (0 : Nat) = 0 ∧ kd t = 0 then (1 : Int32) else 0) = 0 from if_neg (fun z => q z.2), i00]
      refine (Mo_tellOne E h hl (by omega) hG h4).b (fun S1 g => ?_)
      obtain ⟨w1, c1, l1, T1, b1, j1, g1, g2, g3⟩ := g
      by_cases z : (tlP kd c t).1 = 0
      · obtain ⟨a1, a2, a3, a4, a5, a6⟩ := g3 z
        have gt := tlP_gt z
        have ez : tlP kd c t = (0, (tlP kd c t).2) := Prod.ext z rfl
        rw [ez] at g1
        have tQ1 : (tlP kd c t).2 ≤ Q := g1.1.1.1
        refine ih m (tlP kd c t).2 c1 l1 T1 (teD kd vl c l T G t w).2.2.2 b1 j1 w1 S1 g1 g2 a2 a3 (by omega) (by omega) (fun S' w' c' l' T' b' j x1 x2 => ?_)
        have es : skF kd (n + 1) c t = skF kd n c1 (tlP kd c t).2 := by rw [skF, if_neg q, if_pos z, a1]
        refine hR S' w' c' l' T' b' j (by rw [es]; exact x1) (fun y => ?_)
        rw [es] at y
        obtain ⟨G', r1, r2⟩ := x2 y
        refine ⟨G', r1, ?_⟩
        rw [rdF, if_neg q, if_pos z]
        rw [a1, a4, a5, a6] at r2
        exact r2
      · have es : skF kd (n + 1) c t = tlP kd c t := by rw [skF, if_neg q, if_neg z]
        obtain ⟨m, rfl⟩ : ∃ k, m = k + 1 := ⟨m - 1, by omega⟩
        show Ok R (f_Mo_read_b112 (f_Mo_read_l112 m) S1)
        unfold f_Mo_read_b112
        rw [if_neg (g1.1.f1 z).2.1]
        exact hR S1 w1 c1 l1 T1 b1 j1 (by rw [es]; exact g1) (fun y => absurd (by rw [es] at y; exact y) z)
