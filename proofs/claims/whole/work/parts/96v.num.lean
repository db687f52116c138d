/-! READ: the reference's tells of numbers and of laws. -/
variable {kd : Nat → Int32} {pl vl : Nat → Nat} {Q v cb b : Nat} {S0 : Mem} {c : Nat → Nat} {p : PS} {l : NLt} {T : TX} {S : Mem}
theorem tl_rest {t : Nat} {K : Int32} (h1 : kd t = K) (h2 : ¬ (K < 128 ∨ 137 < K)) (h3 : ¬ K ≤ 131) : tlP kd c t = bdP kd K (tk kd K (0, t)) := by
  unfold tlP
  rw [h1, if_neg h2, if_neg (fun w => h3 w.1)]
theorem bd_num {K : Int32} (h : K = 135 ∨ K = 136 ∨ K = 137) (z : Nat × Nat) : bdP kd K z = tks kd [48, 59] z := by
  unfold bdP
  rcases h with rfl | rfl | rfl
  · rw [if_neg (by decide), if_neg (by decide), if_neg (by decide), if_neg (by decide), if_neg (by decide)]
  · rw [if_neg (by decide), if_neg (by decide), if_neg (by decide), if_neg (by decide), if_neg (by decide)]
  · rw [if_neg (by decide), if_neg (by decide), if_neg (by decide), if_neg (by decide), if_neg (by decide)]
theorem bd_law {K : Int32} (h : K = 132 ∨ K = 133 ∨ K = 134) (z : Nat × Nat) : bdP kd K z = lwP kd z := by
  unfold bdP
  rcases h with rfl | rfl | rfl
  · rw [if_neg (by decide), if_neg (by decide), if_neg (by decide), if_neg (by decide), if_pos (by decide)]
  · rw [if_neg (by decide), if_neg (by decide), if_neg (by decide), if_neg (by decide), if_pos (by decide)]
  · rw [if_neg (by decide), if_neg (by decide), if_neg (by decide), if_neg (by decide), if_pos (by decide)]
/-- behind a number -/
def tlN (kd : Nat → Int32) (pl vl : Nat → Nat) (Q v : Nat) (S0 S : Mem) (c : Nat → Nat) (l : NLt) (b cb : Nat) (z : Nat × Nat) (w : Nat × Nat) (T2 : TX) (S' : Mem) : Prop :=
  ∃ w' T', LwS kd pl vl Q v S0 c l T' b cb (z, w') S' ∧ LK S S' ∧ (z.1 = 0 → w' = w ∧ T' = T2)
theorem Mo_tnum (E : EV kd pl vl Q) {t : Nat} {w : Nat × Nat} (h : LwS kd pl vl Q v S0 c l T b cb ((0, t), w) S) {K : Int32} (hk : K = 135 ∨ K = 136 ∨ K = 137) (hK : kd t = K) {lo hi j f : Nat} (hlo : lo ≤ 9999) (hhi : hi ≤ 9999) (ef : fcT j = f) (es : sdF f = 1) (hj : j ≤ 6) (hf : 37 ≤ f ∧ f ≤ 39) : Ok (tlN kd pl vl Q v S0 S c l b cb (tlP kd c t) (nbS kd vl lo hi (tk kd K (0, t), w)).2 (upd2 T 0 j (nI (vl (t + 1))))) (Option.bind (f_Mo_goesOn S) (fun q184 => Option.bind (f_Mo_bounded (nI lo) (nI hi) q184) (fun q199 => gIn (q184.1 0 19) 2 (letS (sA q199.2 0 f (q184.1 0 19) q199.1) (fun S202 => Option.bind (f_Mo_must 4 S202) (fun q205 => some q205)))))) := by
  have hk0 : ¬ (K = 0 ∨ K = 1) := by rcases hk with rfl | rfl | rfl <;> decide
  have et : tlP kd c t = tks kd [48, 59] (tk kd K (0, t)) := by
    rw [tl_rest hK (by rcases hk with rfl | rfl | rfl <;> decide) (by rcases hk with rfl | rfl | rfl <;> decide), bd_num hk]
  refine (h.ry.num (p := ((0, t), w)) E rfl (by rw [hK]; exact hk0) hlo hhi ef es hj hf).m (fun S' g => ?_)
  obtain ⟨T', g1, g2⟩ := g
  have eg : gOn ((0, t), w).1 = tk kd K (0, t) := (tk_gOn (show ((0 : Nat), t).1 = 0 from rfl) hK).symm
  rw [eg] at g1 g2
  have e : nbS kd vl lo hi (tk kd K (0, t), w) = (tlP kd c t, (nbS kd vl lo hi (tk kd K (0, t), w)).2) := Prod.ext et.symm rfl
  refine ⟨_, T', ?_, g1.2.1, fun z => ⟨rfl, g2 (by show (tks kd [48, 59] (tk kd K (0, t))).1 = 0; rw [← et]; exact z)⟩⟩
  have g1' : RY kd pl vl Q v S0 S c (tlP kd c t, (nbS kd vl lo hi (tk kd K (0, t), w)).2) l T' S' := by rw [← e]; exact g1
  refine g1'.lw h (fun _ => rfl) ?_
  show t ≤ (tlP kd c t).2
  rw [et]
  exact Nat.le_trans (tk_le (kd := kd) (k := K) (0, t)) (tks_le _ _)
/-- a law told -/
theorem Mo_tlaw (E : EV kd pl vl Q) {t : Nat} {w : Nat × Nat} (h : LwS kd pl vl Q v S0 c l T b cb ((0, t), w) S) {K : Int32} {k : Nat} (hk : K = 132 ∨ K = 133 ∨ K = 134) (hK : kd t = K) (hk3 : k < 3) (hb : b + 6 < 130 * (1 - v) + 130) {G : LwG} (hG : lawsM (1 - v) b cb S G) (h4 : 4 * (b - 130 * (1 - v)) ≤ t) : Ok (fun S' => ∃ b' j, LwS kd pl vl Q v S0 c l T b' j (tlP kd c t, w) S' ∧ ((tlP kd c t).1 = 0 → lawsM (1 - v) b' j S' (updG G k (lwB kd vl 4 (tk kd 61 (tk kd K (0, t))) [])) ∧ 4 * (b' - 130 * (1 - v)) ≤ (tlP kd c t).2)) (f_Mo_tellOne_b304 (nI k) S) := by
  have hk0 : ¬ (K = 0 ∨ K = 1) := by rcases hk with rfl | rfl | rfl <;> decide
  have et : tlP kd c t = lwP kd (tk kd K (0, t)) := by
    rw [tl_rest hK (by rcases hk with rfl | rfl | rfl <;> decide) (by rcases hk with rfl | rfl | rfl <;> decide), bd_law hk]
  have hbl : 130 * (1 - v) ≤ b := h.2.2.2.2.2.2.2.1
  unfold f_Mo_tellOne_b304
  rw [h.1.f0 rfl, if_pos (show (0 : Int32) ≤ 0 by decide)]
  refine (h.goes E rfl hK hk0).b (fun S1 g1 => ?_)
  obtain ⟨g1, f1⟩ := g1
  have G1 : lawsM (1 - v) b cb S1 G := hG.lk ((LK.rf S).pf f1)
  refine (Mo_tellLaw (k := k) E hk3 g1 hb).b (fun S2 g2 => ?_)
  obtain ⟨b', j, r1, r2, r3⟩ := LwP.laws g2 G1 hbl (lwB_ne _ _ _)
  have r1 : LwS kd pl vl Q v S0 c l T b' j (lwP kd (tk kd K (0, t)), w) S2 := r1
  rw [et]
  refine Ok.i ⟨b', j, r1, fun z => ?_⟩
  obtain ⟨a1, a2⟩ := r3 z
  refine ⟨a1, ?_⟩
  have z4 : (lwF kd 4 (tk kd 61 (tk kd K (0, t)))).1 = 0 := z
  have ln := lwB_len (vl := vl) 4 (tk kd 61 (tk kd K (0, t))) [] z4
  have z3 : (tk kd 61 (tk kd K (0, t))).1 = 0 := Classical.byContradiction (fun y => by rw [lwF_f y] at z4; exact y z4)
  obtain ⟨u1, -, -, u4⟩ := tk_0 z3
  obtain ⟨-, -, -, u8⟩ := tk_0 u1
  have e2 : (tk kd 61 (tk kd K (0, t))).2 = t + 2 := by rw [u4, u8]
  rw [e2] at ln
  have ln : 4 * (lwB kd vl 4 (tk kd 61 (tk kd K (0, t))) []).length + (t + 2) ≤ 0 + (lwP kd (tk kd K (0, t))).2 + 2 := ln
  have a2 : b' = b + (lwB kd vl 4 (tk kd 61 (tk kd K (0, t))) []).length := a2
  omega
