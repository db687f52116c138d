/-! READ: the reference's tells: wells, men, ties, numbers. -/
variable {kd : Nat → Int32} {pl vl : Nat → Nat} {Q v : Nat} {S0 Sb : Mem} {c : Nat → Nat} {p p' : PS} {l : NLt} {T : TX} {S S' : Mem}
theorem RY.s19 (h : RY kd pl vl Q v S0 Sb c p l T S) : S.1 0 19 = nI (1 - v) := h.1.2.2.2.2.1
theorem RY.hv (h : RY kd pl vl Q v S0 Sb c p l T S) : v < 2 := h.1.2.2.2.2.2.1
theorem RY.f0 (h : RY kd pl vl Q v S0 Sb c p l T S) (z : p.1.1 = 0) : S.1 0 13 = 0 := (h.1.1.2.2.1 z).1
theorem RY.t0 (h : RY kd pl vl Q v S0 Sb c p l T S) (z : p.1.1 = 0) : S.1 0 11 = nI p.1.2 := (h.1.1.2.2.1 z).2
theorem RY.f1 (h : RY kd pl vl Q v S0 Sb c p l T S) (z : ¬ p.1.1 = 0) : ¬ S.1 0 13 ≤ 0 ∧ ¬ S.1 0 13 = 0 ∧ 0 < S.1 0 13 := by
  have h2 := h.1.1.2.1
  rw [(h.1.1.2.2.2.1 z).1]
  exact ⟨nI_nle (by omega) (by omega), nI_ne0 (by omega) (by omega), nI_lt (a := 0) (by omega) (by omega)⟩
theorem RY.tQ (h : RY kd pl vl Q v S0 Sb c p l T S) : p.1.2 ≤ Q := h.1.1.1
theorem RY.wk (h : RY kd pl vl Q v S0 Sb c p l T S) : wOk p := h.1.2.1
theorem RY.cn (h : RY kd pl vl Q v S0 Sb c p l T S) : cnM (1 - v) c S := h.1.2.2.2.2.2.2.2
theorem gOn_tk (z : Nat × Nat) : gOn z = tk kd (kd z.2) z := by
  by_cases q : z.1 = 0
  · exact (tk_gOn q rfl).symm
  · unfold gOn; rw [if_neg q, tk_f q]
theorem RY.goes (E : EV kd pl vl Q) (h : RY kd pl vl Q v S0 Sb c p l T S) (h0 : p.1.1 = 0) (hk : ¬ (kd p.1.2 = 0 ∨ kd p.1.2 = 1)) : Ok (fun S' => RY kd pl vl Q v S0 Sb c (gOn p.1, p.2) l T S') (f_Mo_goesOn S) :=
  (Mo_goesOn E.1 h.1.2.2.2.2.2.2.1 h.1.1 h0 hk).m (fun _ z => h.pf z.1 z.2 (by rw [gOn_tk (kd := kd)]; exact h.wk.t))
theorem RY.fail (E : EV kd pl vl Q) (h : RY kd pl vl Q v S0 Sb c p l T S) {e : Nat} (he : e = 1 ∨ e = 2) : Ok (fun S' => RY kd pl vl Q v S0 Sb c (if p.1.1 = 0 then ((e, p.1.2), p.2) else p) l T S') (f_Mo_fail (nI e) S) :=
  (Mo_fail E.1.1 h.1.2.2.2.2.2.2.1 h.1.1 he).m (fun _ z => h.pf z.1 z.2 (by
    by_cases q : p.1.1 = 0
    · rw [if_pos q]; intro w; exact absurd (show e = 0 from w) (by omega)
    · rw [if_neg q]; exact h.wk))
theorem RY.room (E : EV kd pl vl Q) (h : RY kd pl vl Q v S0 Sb c p l T S) (h0 : p.1.1 = 0) (hk : ¬ (kd p.1.2 = 0 ∨ kd p.1.2 = 1)) {n m : Nat} (hn : n ≤ m) (hm : m ≤ 12) : Ok (fun S' => RY kd pl vl Q v S0 Sb c ((if n = m then (2, p.1.2) else gOn p.1), p.2) l T S') (f_Mo_roomFor (nI n) (nI m) S) := by
  unfold f_Mo_roomFor f_Mo_roomFor_b0 f_Mo_roomFor_b10
  by_cases q : n = m
  · rw [if_pos q, if_pos (show nI n = nI m by rw [q])]
    refine (h.fail (e := 2) E (Or.inr rfl)).b (fun S1 h1 => ?_)
    rw [if_pos h0] at h1
    rw [if_neg (h1.f1 (by show ¬ (2 : Nat) = 0; decide)).2.1]
    exact Ok.i h1
  · rw [if_neg q, if_neg (fun z => q ((nI_eq (by omega) (by omega)).mp z)), if_pos (h.f0 h0)]
    exact (h.goes E h0 hk).b (fun S1 h1 => Ok.i h1)
def wlS (kd : Nat → Int32) (vl : Nat → Nat) (l : NLt) (p : PS) : PS := (tk kd 59 (bdS kd vl 0 999 (bdS kd vl 0 999 (nwS kd vl l p))).1, (bdS kd vl 0 999 (bdS kd vl 0 999 (nwS kd vl l p))).2)
theorem wlS_1 : (wlS kd vl l p).1 = tks kd [97, 48, 48, 59] p.1 := rfl
theorem tk4 {a b d e : Int32} {z : Nat × Nat} (h : (tks kd [a, b, d, e] z).1 = 0) : z.1 = 0 ∧ kd z.2 = a ∧ kd (z.2 + 1) = b ∧ kd (z.2 + 2) = d ∧ kd (z.2 + 3) = e ∧ tk kd a z = (0, z.2 + 1) ∧ tk kd b (tk kd a z) = (0, z.2 + 2) ∧ tk kd d (tk kd b (tk kd a z)) = (0, z.2 + 3) ∧ tks kd [a, b, d, e] z = (0, z.2 + 4) := by
  obtain ⟨a4, k4, -, e4⟩ := tk_0 (show (tk kd e (tk kd d (tk kd b (tk kd a z)))).1 = 0 from h)
  obtain ⟨a3, k3, -, e3⟩ := tk_0 a4
  obtain ⟨a2, k2, -, e2⟩ := tk_0 a3
  obtain ⟨a1, k1, -, e1⟩ := tk_0 a2
  have e4' : tks kd [a, b, d, e] z = tk kd e (tk kd d (tk kd b (tk kd a z))) := rfl
  rw [e1] at k2 e2 e3 e4 k3 k4 ⊢
  rw [e2] at k3 e3 e4 k4 ⊢
  rw [e3] at k4 e4 ⊢
  refine ⟨a1, k1, k2, k3, k4, rfl, rfl, rfl, ?_⟩
  rw [e4', e1, e2, e3, e4]
theorem tk3 {a b d : Int32} {z : Nat × Nat} (h : (tks kd [a, b, d] z).1 = 0) : z.1 = 0 ∧ kd z.2 = a ∧ kd (z.2 + 1) = b ∧ kd (z.2 + 2) = d ∧ tk kd a z = (0, z.2 + 1) ∧ tk kd b (tk kd a z) = (0, z.2 + 2) ∧ tks kd [a, b, d] z = (0, z.2 + 3) := by
  obtain ⟨a3, k3, -, e3⟩ := tk_0 (show (tk kd d (tk kd b (tk kd a z))).1 = 0 from h)
  obtain ⟨a2, k2, -, e2⟩ := tk_0 a3
  obtain ⟨a1, k1, -, e1⟩ := tk_0 a2
  have e3' : tks kd [a, b, d] z = tk kd d (tk kd b (tk kd a z)) := rfl
  rw [e1] at k2 e2 e3 k3 ⊢
  rw [e2] at k3 e3 ⊢
  refine ⟨a1, k1, k2, k3, rfl, rfl, ?_⟩
  rw [e3', e1, e2, e3]
theorem tk2 {a b : Int32} {z : Nat × Nat} (h : (tks kd [a, b] z).1 = 0) : z.1 = 0 ∧ kd z.2 = a ∧ kd (z.2 + 1) = b ∧ tk kd a z = (0, z.2 + 1) ∧ tks kd [a, b] z = (0, z.2 + 2) := by
  obtain ⟨a2, k2, -, e2⟩ := tk_0 (show (tk kd b (tk kd a z)).1 = 0 from h)
  obtain ⟨a1, k1, -, e1⟩ := tk_0 a2
  have e2' : tks kd [a, b] z = tk kd b (tk kd a z) := rfl
  rw [e1] at k2 e2 ⊢
  refine ⟨a1, k1, k2, rfl, ?_⟩
  rw [e2', e1, e2]
theorem RY.well (E : EV kd pl vl Q) (h : RY kd pl vl Q v S0 Sb c p l T S) (h0 : p.1.1 = 0) (hl : l.1 = c 0 + c 1 + c 2) (hc : c 0 < 4) : Ok (fun S' => ∃ c' l' T', RY kd pl vl Q v S0 Sb c' (wlS kd vl l p) l' T' S' ∧ l'.1 = c' 0 + c' 1 + c' 2 ∧ ((wlS kd vl l p).1.1 = 0 → c' = cjN 0 c ∧ l' = notS l (vl p.1.2) 0 (c 0) ∧ T' = upd2 (upd2 (upd2 T 1 (c 0) (nI (vl (p.1.2 + 1)))) 2 (c 0) (nI (vl (p.1.2 + 2)))) 0 0 (nI (c 0 + 1)))) (f_Mo_tellWell S) := by
  have hv := h.hv
  have cn := h.cn
  unfold f_Mo_tellWell f_Mo_tellWell_b0
  rw [h.s19, g2 (by omega), cl (show 1 - v < 4096 by omega), cn.1.1, letS_e, show (4 : Int32) = nI 4 from rfl, iM, iA]
  refine (h.named E).b (fun q18 h18 => ?_)
  rw [letS_e]
  refine (show Ok _ (f_Mo_bounded 0 999 q18.2) from h18.1.bounded (lo := 0) (hi := 999) E (by omega) (by omega)).b (fun q32 h32 => ?_)
  rw [gIn_n (show 4 * (1 - v) + c 0 < 8 by omega) (by decide), letS_e]
  have h35 := h32.1.a 1 (i := c 0) (f := 25) (m := 4) (by decide) (by decide) (by decide) (by decide) (by decide) hc q32.1
  refine (show Ok _ (f_Mo_bounded 0 999 _) from h35.bounded (lo := 0) (hi := 999) E (by omega) (by omega)).b (fun q46 h46 => ?_)
  rw [gIn_n (show 4 * (1 - v) + c 0 < 8 by omega) (by decide), letS_e]
  have h49 := h46.1.a 2 (i := c 0) (f := 26) (m := 4) (by decide) (by decide) (by decide) (by decide) (by decide) hc q46.1
  refine (show Ok _ (f_Mo_must 4 _) from h49.must (k := 59) E (by decide) (by decide)).b (fun q52 h52 => ?_)
  have h52 : RY kd pl vl Q v S0 Sb c (wlS kd vl l p) l _ q52 := h52
  by_cases z : (wlS kd vl l p).1.1 = 0
  · obtain ⟨z0, k0, k1, k2, k3, e1, e2, e3, e4⟩ := tk4 (show (tks kd [97, 48, 48, 59] p.1).1 = 0 from z)
    have cn2 := h52.cn
    have en : (nwS kd vl l p).1 = (0, p.1.2 + 1) := e1
    have eb : (bdS kd vl 0 999 (nwS kd vl l p)).1 = (0, p.1.2 + 2) := e2
    have v1 := h32.2 (by rw [en]) (by rw [en]; exact k1)
    have v2 := h46.2 (by rw [eb]) (by rw [eb]; exact k2)
    rw [en] at v1
    rw [eb] at v2
    rw [h52.f0 z, if_pos (show (0 : Int32) ≤ 0 by decide), h52.s19, g2 (by omega), cl (show 1 - v < 4096 by omega), cn2.1.1, h18.2 h0]
    have c7 := cn.2.1.2
    have c8 := cn.2.2.1.2
    refine (show Ok _ (f_Mo_notes (nI p.1.2) 0 (nI (c 0)) q52) from h52.notes E (by omega) h.tQ k0 (s := 0) (by omega) (i := c 0) (by omega)).b (fun q75 h75 => ?_)
    rw [h75.s19, g2 (by omega), g2 (by omega), cl (show 1 - v < 4096 by omega), h75.cn.1.1, nI_1, letS_e]
    refine Ok.i ⟨_, _, _, h75.n (j := 0) (f := 24) (by decide) (by omega) (by show c 0 < 4; exact hc), ?_, fun _ => ⟨rfl, rfl, ?_⟩⟩
    · show l.1 + 1 = (c 0 + 1) + c 1 + c 2
      omega
    · rw [v1, v2]
  · rw [if_neg (h52.f1 z).1]
    exact Ok.i ⟨_, _, _, h52, hl, fun w => absurd w z⟩
def mnS (kd : Nat → Int32) (vl : Nat → Nat) (l : NLt) (p : PS) : PS := (tk kd 59 (bdS kd vl 0 99 (odS kd vl l 0 (nwS kd vl l p))).1, (bdS kd vl 0 99 (odS kd vl l 0 (nwS kd vl l p))).2)
theorem RY.man (E : EV kd pl vl Q) (h : RY kd pl vl Q v S0 Sb c p l T S) (h0 : p.1.1 = 0) (hl : l.1 = c 0 + c 1 + c 2) (hc : c 1 < 7) : Ok (fun S' => ∃ c' l' T', RY kd pl vl Q v S0 Sb c' (mnS kd vl l p) l' T' S' ∧ l'.1 = c' 0 + c' 1 + c' 2 ∧ ((mnS kd vl l p).1.1 = 0 → c' = cjN 1 c ∧ l' = notS l (vl p.1.2) 1 (c 1) ∧ T' = upd2 (upd2 (upd2 T 3 (c 1) (odV vl l 0 (nwS kd vl l p))) 4 (c 1) (nI (vl (p.1.2 + 2)))) 0 1 (nI (c 1 + 1)))) (f_Mo_tellMan S) := by
  have hv := h.hv
  have cn := h.cn
  unfold f_Mo_tellMan f_Mo_tellMan_b0
  rw [h.s19, g2 (by omega), cl (show 1 - v < 4096 by omega), cn.2.1.1, letS_e, show (7 : Int32) = nI 7 from rfl, iM, iA]
  refine (h.named E).b (fun q18 h18 => ?_)
  rw [letS_e]
  refine (show Ok _ (f_Mo_known 0 q18.2) from h18.1.known (s := 0) E (by omega)).b (fun q32 h32 => ?_)
  rw [gIn_n (show 7 * (1 - v) + c 1 < 14 by omega) (by decide), letS_e]
  have h35 := h32.1.a 3 (i := c 1) (f := 28) (m := 7) (by decide) (by decide) (by decide) (by decide) (by decide) hc q32.1
  refine (show Ok _ (f_Mo_bounded 0 99 _) from h35.bounded (lo := 0) (hi := 99) E (by omega) (by omega)).b (fun q46 h46 => ?_)
  rw [gIn_n (show 7 * (1 - v) + c 1 < 14 by omega) (by decide), letS_e]
  have h49 := h46.1.a 4 (i := c 1) (f := 29) (m := 7) (by decide) (by decide) (by decide) (by decide) (by decide) hc q46.1
  refine (show Ok _ (f_Mo_must 4 _) from h49.must (k := 59) E (by decide) (by decide)).b (fun q52 h52 => ?_)
  have h52 : RY kd pl vl Q v S0 Sb c (mnS kd vl l p) l _ q52 := h52
  by_cases z : (mnS kd vl l p).1.1 = 0
  · obtain ⟨z0, k0, k1, k2, k3, e1, e2, e3, e4⟩ := tk4 (show (tks kd [97, 97, 48, 59] p.1).1 = 0 from z)
    have cn2 := h52.cn
    have en : (nwS kd vl l p).1 = (0, p.1.2 + 1) := e1
    have eb : (odS kd vl l 0 (nwS kd vl l p)).1 = (0, p.1.2 + 2) := e2
    have v1 := h32.2 (by show (odS kd vl l 0 (nwS kd vl l p)).1.1 = 0; rw [eb])
    have v2 := h46.2 (by rw [eb]) (by rw [eb]; exact k2)
    rw [eb] at v2
    rw [h52.f0 z, if_pos (show (0 : Int32) ≤ 0 by decide), h52.s19, g2 (by omega), cl (show 1 - v < 4096 by omega), cn2.2.1.1, h18.2 h0]
    have c7 := cn.1.2
    have c8 := cn.2.2.1.2
    refine (show Ok _ (f_Mo_notes (nI p.1.2) 1 (nI (c 1)) q52) from h52.notes E (by omega) h.tQ k0 (s := 1) (by omega) (i := c 1) (by omega)).b (fun q75 h75 => ?_)
    rw [h75.s19, g2 (by omega), g2 (by omega), cl (show 1 - v < 4096 by omega), h75.cn.2.1.1, nI_1, letS_e]
    refine Ok.i ⟨_, _, _, h75.n (j := 1) (f := 27) (by decide) (by omega) (by show c 1 < 7; exact hc), ?_, fun _ => ⟨rfl, rfl, ?_⟩⟩
    · show l.1 + 1 = c 0 + (c 1 + 1) + c 2
      omega
    · rw [v1, v2]
  · rw [if_neg (h52.f1 z).1]
    exact Ok.i ⟨_, _, _, h52, hl, fun w => absurd w z⟩
