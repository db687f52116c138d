/-! READ: the reference's tells that need room. -/
variable {kd : Nat → Int32} {pl vl : Nat → Nat} {Q v cb b : Nat} {S0 : Mem} {c : Nat → Nat} {p : PS} {l L' : NLt} {T T2 : TX} {S : Mem}
/-- behind such a tell -/
def tlR (kd : Nat → Int32) (pl vl : Nat → Nat) (Q v : Nat) (S0 S : Mem) (c : Nat → Nat) (b cb j : Nat) (z : Nat × Nat) (w : Nat × Nat) (L' : NLt) (T2 : TX) (S' : Mem) : Prop :=
  ∃ w' c' l' T', LwS kd pl vl Q v S0 c' l' T' b cb (z, w') S' ∧ LK S S' ∧ l'.1 = c' 0 + c' 1 + c' 2 ∧ (z.1 = 0 → w' = w ∧ c' = cjN j c ∧ l' = L' ∧ T' = T2)
theorem Mo_room (E : EV kd pl vl Q) (h : LwS kd pl vl Q v S0 c l T b cb p S) (h0 : p.1.1 = 0) (hl : l.1 = c 0 + c 1 + c 2) {K : Int32} (hK : kd p.1.2 = K) (hK0 : ¬ (K = 0 ∨ K = 1)) {j m : Nat} (hc : c j ≤ m) (hm : m ≤ 12) {X : Mem → Option Mem} {f : PS → PS} {B : Nat × Nat → Nat × Nat} (hB : ∀ q : PS, (f q).1 = B q.1) (hle : ∀ z, z.2 ≤ (B z).2) (hBf : ∀ z, ¬ z.1 = 0 → B z = z)
    (hX : ∀ S1, c j < m → RY kd pl vl Q v S0 S c (tk kd K p.1, p.2) l T S1 → (tk kd K p.1).1 = 0 → Ok (fun S' => ∃ c' l' T', RY kd pl vl Q v S0 S c' (f (tk kd K p.1, p.2)) l' T' S' ∧ l'.1 = c' 0 + c' 1 + c' 2 ∧ ((f (tk kd K p.1, p.2)).1.1 = 0 → c' = cjN j c ∧ l' = L' ∧ T' = T2)) (X S1)) :
    Ok (tlR kd pl vl Q v S0 S c b cb j (if c j = m then (2, p.1.2) else B (tk kd K p.1)) (f (tk kd K p.1, p.2)).2 L' T2) (Option.bind (f_Mo_roomFor (nI (c j)) (nI m) S) (fun q79 => if (q79.1 0 13) = 0 then Option.bind (X q79) (fun q90 => some q90) else some q79)) := by
  refine (h.ry.room E h0 (by rw [hK]; exact hK0) hc hm).b (fun S1 g1 => ?_)
  rw [← tk_gOn h0 hK] at g1
  by_cases q : c j = m
  · rw [if_pos q] at g1 ⊢
    rw [if_neg (g1.f1 (show ¬ (2 : Nat) = 0 by decide)).2.1]
    exact Ok.i ⟨p.2, c, l, T, g1.lw h (fun _ => h0) (Nat.le_refl _), g1.2.1, hl, fun w => absurd w (show ¬ (2 : Nat) = 0 by decide)⟩
  · rw [if_neg q] at g1 ⊢
    by_cases z : (tk kd K p.1).1 = 0
    · rw [if_pos (g1.f0 z)]
      refine (hX S1 (by omega) g1 z).b (fun S2 g2 => ?_)
      obtain ⟨c', l', T', r1, r2, r3⟩ := g2
      have e : f (tk kd K p.1, p.2) = (B (tk kd K p.1), (f (tk kd K p.1, p.2)).2) := Prod.ext (hB _) rfl
      have hb : (f (tk kd K p.1, p.2)).1 = B (tk kd K p.1) := hB _
      rw [e] at r1
      refine Ok.i ⟨_, c', l', T', r1.lw h (fun _ => h0) (Nat.le_trans (tk_le _) (hle _)), r1.2.1, r2, fun w => ⟨rfl, ?_⟩⟩
      exact r3 (by rw [hb]; exact w)
    · rw [if_neg (g1.f1 z).2.1]
      rw [hBf _ z]
      exact Ok.i ⟨p.2, c, l, T, g1.lw h (fun _ => h0) (tk_le _), g1.2.1, hl, fun w => absurd w z⟩
theorem bd_128 (z : Nat × Nat) : bdP kd 128 z = tks kd [97, 48, 48, 59] z := if_pos rfl
theorem bd_129 (z : Nat × Nat) : bdP kd 129 z = tks kd [97, 97, 48, 59] z := (if_neg (by decide)).trans (if_pos rfl)
theorem bd_130 (z : Nat × Nat) : bdP kd 130 z = seP kd z := (if_neg (by decide)).trans ((if_neg (by decide)).trans (if_pos rfl))
theorem bd_131 (z : Nat × Nat) : bdP kd 131 z = tks kd [97, 97, 59] z := (if_neg (by decide)).trans ((if_neg (by decide)).trans ((if_neg (by decide)).trans (if_pos rfl)))
theorem tl_room {t : Nat} {K : Int32} (h1 : kd t = K) (h2 : ¬ (K < 128 ∨ 137 < K)) (h3 : K ≤ 131) {j m : Nat} (hj : srt K = j) (hm : mostN K = m) (hc : c j ≤ m) : (if c j = m then (2, t) else bdP kd K (tk kd K (0, t))) = tlP kd c t := by
  unfold tlP
  rw [h1, if_neg h2, hj, hm]
  by_cases q : c j = m
  · rw [if_pos q, if_pos ⟨h3, by omega⟩]
  · rw [if_neg q, if_neg (fun w => q (by omega))]
theorem Mo_t128 (E : EV kd pl vl Q) {t : Nat} {w : Nat × Nat} (h : LwS kd pl vl Q v S0 c l T b cb ((0, t), w) S) (hl : l.1 = c 0 + c 1 + c 2) (hK : kd t = 128) : Ok (tlR kd pl vl Q v S0 S c b cb 0 (tlP kd c t) (wlS kd vl l (tk kd 128 (0, t), w)).2 (notS l (vl (t + 1)) 0 (c 0)) (upd2 (upd2 (upd2 T 1 (c 0) (nI (vl (t + 2)))) 2 (c 0) (nI (vl (t + 3)))) 0 0 (nI (c 0 + 1)))) (Option.bind (f_Mo_roomFor (nI (c 0)) 4 S) (fun q79 => if (q79.1 0 13) = 0 then Option.bind (f_Mo_tellWell q79) (fun q90 => some q90) else some q79)) := by
  have hc : c 0 ≤ 4 := h.ry.cn.1.2
  rw [← tl_room (c := c) (j := 0) (m := 4) hK (by decide) (by decide) (by decide) (by decide) hc]
  refine Mo_room E h rfl hl hK (by decide) (j := 0) (m := 4) hc (by omega) (f := wlS kd vl l) (B := bdP kd 128) (fun q => by rw [bd_128]; rfl) (fun z => bdP_le _ z) (fun z hz => bdP_f hz) (fun S1 hlt g z => ?_)
  have e : tk kd 128 (0, t) = (0, t + 1) := (tk_0 z).2.2.2
  have := g.well E z hl hlt
  have e2 : (tk kd 128 ((0, t), w).1).2 = t + 1 := by show (tk kd 128 (0, t)).2 = _; rw [e]
  rw [e2] at this
  exact this
theorem Mo_t129 (E : EV kd pl vl Q) {t : Nat} {w : Nat × Nat} (h : LwS kd pl vl Q v S0 c l T b cb ((0, t), w) S) (hl : l.1 = c 0 + c 1 + c 2) (hK : kd t = 129) : Ok (tlR kd pl vl Q v S0 S c b cb 1 (tlP kd c t) (mnS kd vl l (tk kd 129 (0, t), w)).2 (notS l (vl (t + 1)) 1 (c 1)) (upd2 (upd2 (upd2 T 3 (c 1) (odV vl l 0 (nwS kd vl l (tk kd 129 (0, t), w)))) 4 (c 1) (nI (vl (t + 3)))) 0 1 (nI (c 1 + 1)))) (Option.bind (f_Mo_roomFor (nI (c 1)) 7 S) (fun q79 => if (q79.1 0 13) = 0 then Option.bind (f_Mo_tellMan q79) (fun q90 => some q90) else some q79)) := by
  have hc : c 1 ≤ 7 := h.ry.cn.2.1.2
  rw [← tl_room (c := c) (j := 1) (m := 7) hK (by decide) (by decide) (by decide) (by decide) hc]
  refine Mo_room E h rfl hl hK (by decide) (j := 1) (m := 7) hc (by omega) (f := mnS kd vl l) (B := bdP kd 129) (fun q => by rw [bd_129]; rfl) (fun z => bdP_le _ z) (fun z hz => bdP_f hz) (fun S1 hlt g z => ?_)
  have e : tk kd 129 (0, t) = (0, t + 1) := (tk_0 z).2.2.2
  have := g.man E z hl hlt
  have e2 : (tk kd 129 ((0, t), w).1).2 = t + 1 := by show (tk kd 129 (0, t)).2 = _; rw [e]
  rw [e2] at this
  exact this
theorem Mo_t130 (E : EV kd pl vl Q) {t : Nat} {w : Nat × Nat} (h : LwS kd pl vl Q v S0 c l T b cb ((0, t), w) S) (hl : l.1 = c 0 + c 1 + c 2) (hK : kd t = 130) : Ok (tlR kd pl vl Q v S0 S c b cb 2 (tlP kd c t) (seS kd vl l (tk kd 130 (0, t), w)).2 (notS l (vl (t + 1)) 2 (c 2)) (upd2 (upd2 (upd2 (upd2 T 5 (c 2) (nI (vl (t + 2)))) 6 (c 2) (seL kd vl l (tk kd 130 (0, t), w))) 7 (c 2) (seK kd vl l (tk kd 130 (0, t), w)).2) 0 2 (nI (c 2 + 1)))) (Option.bind (f_Mo_roomFor (nI (c 2)) 8 S) (fun q79 => if (q79.1 0 13) = 0 then Option.bind (f_Mo_tellSecret q79) (fun q90 => some q90) else some q79)) := by
  have hc : c 2 ≤ 8 := h.ry.cn.2.2.1.2
  rw [← tl_room (c := c) (j := 2) (m := 8) hK (by decide) (by decide) (by decide) (by decide) hc]
  refine Mo_room E h rfl hl hK (by decide) (j := 2) (m := 8) hc (by omega) (f := seS kd vl l) (B := bdP kd 130) (fun q => by rw [bd_130]; exact seS_1) (fun z => bdP_le _ z) (fun z hz => bdP_f hz) (fun S1 hlt g z => ?_)
  have e : tk kd 130 (0, t) = (0, t + 1) := (tk_0 z).2.2.2
  have := g.secr E z hl hlt
  have e2 : (tk kd 130 ((0, t), w).1).2 = t + 1 := by show (tk kd 130 (0, t)).2 = _; rw [e]
  rw [e2] at this
  exact this
theorem Mo_t131 (E : EV kd pl vl Q) {t : Nat} {w : Nat × Nat} (h : LwS kd pl vl Q v S0 c l T b cb ((0, t), w) S) (hl : l.1 = c 0 + c 1 + c 2) (hK : kd t = 131) : Ok (tlR kd pl vl Q v S0 S c b cb 3 (tlP kd c t) (tiS kd vl l (tk kd 131 (0, t), w)).2 l (upd2 (upd2 (upd2 T 8 (c 3) (odV vl l 1 (tk kd 131 (0, t), w))) 9 (c 3) (odV vl l 1 (odS kd vl l 1 (tk kd 131 (0, t), w)))) 0 3 (nI (c 3 + 1)))) (Option.bind (f_Mo_roomFor (nI (c 3)) 12 S) (fun q79 => if (q79.1 0 13) = 0 then Option.bind (f_Mo_tellTie q79) (fun q90 => some q90) else some q79)) := by
  have hc : c 3 ≤ 12 := h.ry.cn.2.2.2.2
  rw [← tl_room (c := c) (j := 3) (m := 12) hK (by decide) (by decide) (by decide) (by decide) hc]
  exact Mo_room E h rfl hl hK (by decide) (j := 3) (m := 12) hc (by omega) (f := tiS kd vl l) (B := bdP kd 131) (fun q => by rw [bd_131]; exact tiS_1) (fun z => bdP_le _ z) (fun z hz => bdP_f hz) (fun S1 hlt g z => g.tie E z hl hlt)
