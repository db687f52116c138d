/-! READ: the reference's tells: a secret whole. -/
variable {kd : Nat → Int32} {pl vl : Nat → Nat} {Q v : Nat} {S0 Sb : Mem} {c : Nat → Nat} {p p' : PS} {l : NLt} {T : TX} {S S' : Mem}
def scS (kd : Nat → Int32) (p : PS) : PS := if p.1.1 = 0 ∧ kd p.1.2 = 138 then (tk kd 138 p.1, p.2) else p
theorem scS_1 : (scS kd p).1 = scP kd p.1 := by
  unfold scS scP
  split <;> rfl
/-- name and number of a secret -/
def seA (kd : Nat → Int32) (vl : Nat → Nat) (l : NLt) (p : PS) : PS := bdS kd vl 1 99 (nwS kd vl l p)
def seK (kd : Nat → Int32) (vl : Nat → Nat) (l : NLt) (p : PS) : PS × Int32 := knF kd vl l 402 (scS kd (seA kd vl l p)) 0
def seS (kd : Nat → Int32) (vl : Nat → Nat) (l : NLt) (p : PS) : PS := (tk kd 59 (seK kd vl l p).1.1, (seK kd vl l p).1.2)
def seL (kd : Nat → Int32) (vl : Nat → Nat) (l : NLt) (p : PS) : Int32 := if (seA kd vl l p).1.1 = 0 ∧ kd (seA kd vl l p).1.2 = 138 then 1 else 0
theorem seS_1 : (seS kd vl l p).1 = seP kd p.1 := by
  show tk kd 59 (seK kd vl l p).1.1 = _
  unfold seK
  rw [knF_1, scS_1]; rfl
theorem nms_0 : ∀ n (z : Nat × Nat), (nmsF kd n z).1 = 0 → z.1 = 0
  | 0, z, h => h
  | n + 1, z, h => by
    unfold nmsF at h
    split at h
    · rename_i q; exact q.1
    · exact h
theorem scP_0 {z : Nat × Nat} (h : (scP kd z).1 = 0) : z.1 = 0 := by
  unfold scP at h
  split at h
  · rename_i q; exact q.1
  · exact h
theorem seP_0 {z : Nat × Nat} (h : (seP kd z).1 = 0) : z.1 = 0 ∧ kd z.2 = 97 ∧ kd (z.2 + 1) = 48 ∧ tk kd 97 z = (0, z.2 + 1) ∧ tks kd [97, 48] z = (0, z.2 + 2) := tk2 (scP_0 (nms_0 _ _ (tk_0 h).1))
theorem RY.secr (E : EV kd pl vl Q) (h : RY kd pl vl Q v S0 Sb c p l T S) (h0 : p.1.1 = 0) (hl : l.1 = c 0 + c 1 + c 2) (hc : c 2 < 8) : Ok (fun S' => ∃ c' l' T', RY kd pl vl Q v S0 Sb c' (seS kd vl l p) l' T' S' ∧ l'.1 = c' 0 + c' 1 + c' 2 ∧ ((seS kd vl l p).1.1 = 0 → c' = cjN 2 c ∧ l' = notS l (vl p.1.2) 2 (c 2) ∧ T' = upd2 (upd2 (upd2 (upd2 T 5 (c 2) (nI (vl (p.1.2 + 1)))) 6 (c 2) (seL kd vl l p)) 7 (c 2) (seK kd vl l p).2) 0 2 (nI (c 2 + 1)))) (f_Mo_tellSecret S) := by
  have hv := h.hv
  have cn := h.cn
  have hq := E.1.1
  unfold f_Mo_tellSecret f_Mo_tellSecret_b0
  rw [h.s19, g2 (by omega), cl (show 1 - v < 4096 by omega), cn.2.2.1.1, letS_e, show (8 : Int32) = nI 8 from rfl, iM, iA]
  refine (h.named E).b (fun q18 h18 => ?_)
  rw [letS_e]
  refine (show Ok _ (f_Mo_bounded 1 99 q18.2) from h18.1.bounded (lo := 1) (hi := 99) E (by omega) (by omega)).b (fun q32 h32 => ?_)
  rw [gIn_n (show 8 * (1 - v) + c 2 < 16 by omega) (by decide), letS_e]
  have h35 := h32.1.a 5 (i := c 2) (f := 31) (m := 8) (by decide) (by decide) (by decide) (by decide) (by decide) hc q32.1
  have h35 : RY kd pl vl Q v S0 Sb c (seA kd vl l p) l _ _ := h35
  -- behind the lie
  have mid : ∀ S6, RY kd pl vl Q v S0 Sb c (scS kd (seA kd vl l p)) l (upd2 (upd2 T 5 (c 2) q32.1) 6 (c 2) (seL kd vl l p)) S6 → Ok (fun S' => ∃ c' l' T', RY kd pl vl Q v S0 Sb c' (seS kd vl l p) l' T' S' ∧ l'.1 = c' 0 + c' 1 + c' 2 ∧ ((seS kd vl l p).1.1 = 0 → c' = cjN 2 c ∧ l' = notS l (vl p.1.2) 2 (c 2) ∧ T' = upd2 (upd2 (upd2 (upd2 T 5 (c 2) (nI (vl (p.1.2 + 1)))) 6 (c 2) (seL kd vl l p)) 7 (c 2) (seK kd vl l p).2) 0 2 (nI (c 2 + 1)))) (f_Mo_tellSecret_l78 5000 (nI (8 * (1 - v) + c 2)) q18.1 0 S6) := fun S6 h6 => by
    refine RY.knows E 402 5000 _ 0 S6 h6 (by omega) (by omega) (fun _ => by omega) (fun S7 h7 => ?_)
    have h7 : RY kd pl vl Q v S0 Sb c (seK kd vl l p).1 l _ S7 := h7
    show Ok _ (f_Mo_tellSecret_b148 (nI (8 * (1 - v) + c 2)) q18.1 (seK kd vl l p).2 S7)
    unfold f_Mo_tellSecret_b148
    rw [gIn_n (show 8 * (1 - v) + c 2 < 16 by omega) (by decide), letS_e]
    have h8 := h7.a 7 (i := c 2) (f := 33) (m := 8) (by decide) (by decide) (by decide) (by decide) (by decide) hc (seK kd vl l p).2
    refine (show Ok _ (f_Mo_must 4 _) from h8.must (k := 59) E (by decide) (by decide)).b (fun q52 h52 => ?_)
    have h52 : RY kd pl vl Q v S0 Sb c (seS kd vl l p) l _ q52 := h52
    by_cases z : (seS kd vl l p).1.1 = 0
    · obtain ⟨z0, k0, k1, e1, e2⟩ := seP_0 (show (seP kd p.1).1 = 0 by rw [← seS_1 (vl := vl) (l := l)]; exact z)
      have cn2 := h52.cn
      have en : (nwS kd vl l p).1 = (0, p.1.2 + 1) := e1
      have v1 := h32.2 (by rw [en]) (by rw [en]; exact k1)
      rw [en] at v1
      rw [h52.f0 z, if_pos (show (0 : Int32) ≤ 0 by decide), h52.s19, g2 (by omega), cl (show 1 - v < 4096 by omega), cn2.2.2.1.1, h18.2 h0]
      have c7 := cn.1.2
      have c8 := cn.2.1.2
      refine (show Ok _ (f_Mo_notes (nI p.1.2) 2 (nI (c 2)) q52) from h52.notes E (by omega) h.tQ k0 (s := 2) (by omega) (i := c 2) (by omega)).b (fun q75 h75 => ?_)
      rw [h75.s19, g2 (by omega), g2 (by omega), cl (show 1 - v < 4096 by omega), h75.cn.2.2.1.1, nI_1, letS_e]
      refine Ok.i ⟨_, _, _, h75.n (j := 2) (f := 30) (by decide) (by omega) (by show c 2 < 8; exact hc), ?_, fun _ => ⟨rfl, rfl, ?_⟩⟩
      · show l.1 + 1 = c 0 + c 1 + (c 2 + 1)
        omega
      · rw [v1]
    · rw [if_neg (h52.f1 z).1]
      exact Ok.i ⟨_, _, _, h52, hl, fun w => absurd w z⟩
  have x32 : ∀ (M : Mem) (x : Int32), (sA M 0 32 (nI (8 * (1 - v) + c 2)) x).2.1 0 32 (nI (8 * (1 - v) + c 2)).toNatClampNeg = x := fun M x => by
    rw [sA_2, if_pos ⟨rfl, rfl⟩, upd_at, if_pos rfl]
  have b0 : ∀ M, RY kd pl vl Q v S0 Sb c (seA kd vl l p) l (upd2 T 5 (c 2) q32.1) M → ¬ ((seA kd vl l p).1.1 = 0 ∧ kd (seA kd vl l p).1.2 = 138) → Ok (fun S' => ∃ c' l' T', RY kd pl vl Q v S0 Sb c' (seS kd vl l p) l' T' S' ∧ l'.1 = c' 0 + c' 1 + c' 2 ∧ ((seS kd vl l p).1.1 = 0 → c' = cjN 2 c ∧ l' = notS l (vl p.1.2) 2 (c 2) ∧ T' = upd2 (upd2 (upd2 (upd2 T 5 (c 2) (nI (vl (p.1.2 + 1)))) 6 (c 2) (seL kd vl l p)) 7 (c 2) (seK kd vl l p).2) 0 2 (nI (c 2 + 1)))) (f_Mo_tellSecret_b62 (nI (8 * (1 - v) + c 2)) q18.1 0 (nI (8 * (1 - v) + c 2)) M) := fun M hM hn => by
    unfold f_Mo_tellSecret_b62
    rw [gIn_n (show 8 * (1 - v) + c 2 < 16 by omega) (by decide), letS_e, gIn_n (show 8 * (1 - v) + c 2 < 16 by omega) (by decide), nar0, x32, if_pos rfl]
    refine mid _ ?_
    have e1 : scS kd (seA kd vl l p) = seA kd vl l p := by unfold scS; rw [if_neg hn]
    have e2 : seL kd vl l p = 0 := by unfold seL; rw [if_neg hn]
    rw [e1, e2]
    exact hM.a 6 (i := c 2) (f := 32) (m := 8) (by decide) (by decide) (by decide) (by decide) (by decide) hc 0
  by_cases z : (seA kd vl l p).1.1 = 0
  · rw [if_pos (h35.f0 z), show (23 : Int32) = mkK 138 from by decide, Mo_is E.1.1 E.2.1 h35.1.2.2.2.2.2.2.1 h35.1.1 (by decide), bind_e]
    by_cases y : kd (seA kd vl l p).1.2 = 138
    · rw [show (if (seA kd vl l p).1.1 = 0 ∧ kd (seA kd vl l p).1.2 = 138 then (1 : Int32) else 0) = 1 from if_pos ⟨z, y⟩, i10]
      unfold f_Mo_tellSecret_b62
      rw [gIn_n (show 8 * (1 - v) + c 2 < 16 by omega) (by decide), letS_e, gIn_n (show 8 * (1 - v) + c 2 < 16 by omega) (by decide), nar1, x32, i10]
      have h6 := h35.a 6 (i := c 2) (f := 32) (m := 8) (by decide) (by decide) (by decide) (by decide) (by decide) hc 1
      refine (h6.goes E z (by rw [y]; decide)).b (fun S6 h6 => mid S6 ?_)
      have e1 : scS kd (seA kd vl l p) = (gOn (seA kd vl l p).1, (seA kd vl l p).2) := by unfold scS; rw [if_pos ⟨z, y⟩, tk_gOn z y]
      have e2 : seL kd vl l p = 1 := by unfold seL; rw [if_pos ⟨z, y⟩]
      rw [e1, e2]; exact h6
    · rw [show (if (seA kd vl l p).1.1 = 0 ∧ kd (seA kd vl l p).1.2 = 138 then (1 : Int32) else 0) = 0 from if_neg (fun u => y u.2), i00]
      exact b0 _ h35 (fun u => y u.2)
  · rw [if_neg (h35.f1 z).2.1]
    exact b0 _ h35 (fun u => z u.1)
