/-! READ: the reference's tells: ties, numbers, secrets. -/
variable {kd : Nat → Int32} {pl vl : Nat → Nat} {Q v : Nat} {S0 Sb : Mem} {c : Nat → Nat} {p p' : PS} {l : NLt} {T : TX} {S S' : Mem}
theorem RY.wrong (E : EV kd pl vl Q) (h : RY kd pl vl Q v S0 Sb c p l T S) {k tok : Nat} (hk : 1 ≤ k ∧ k ≤ 5) (ht : tok ≤ Q) (ho : p.1.1 = 0 → ¬ p.2.1 = 0 → p.2.2 < tok) (hlt : p.1.1 = 0 → tok < p.1.2) : Ok (fun S' => RY kd pl vl Q v S0 Sb c (wrS k tok p) l T S') (f_Mo_wrong (nI k) (nI tok) S) :=
  (Mo_wrong E.1.1 E.2.2.1 E.2.2.2.1 h.1.2.2.2.2.2.2.1 h.1.1 hk ht (fun a b => Or.inl (ho a b))).m (fun _ z => h.pf z.1 z.2 (by
    unfold wrS
    by_cases q : p.1.1 = 0 ∧ p.2.1 = 0
    · rw [if_pos q]; exact fun w _ => hlt w
    · rw [if_neg q]; exact h.wk))
/-- a name that was found leaves what is wrong -/
theorem odS_f {s : Nat} (h : ¬ odV vl l s p < 0) : odS kd vl l s p = (tk kd 97 p.1, p.2) := by
  unfold odS
  rw [if_neg]
  intro w
  unfold odV at h
  rw [if_neg w.2] at h
  exact h (by decide)
def tiW (kd : Nat → Int32) (vl : Nat → Nat) (l : NLt) (p : PS) : PS :=
  if (odS kd vl l 1 (odS kd vl l 1 p)).1.1 = 0 ∧ ¬ odV vl l 1 (odS kd vl l 1 p) < 0 ∧ odV vl l 1 (odS kd vl l 1 p) = odV vl l 1 p then wrS 3 (odS kd vl l 1 p).1.2 (odS kd vl l 1 (odS kd vl l 1 p)) else odS kd vl l 1 (odS kd vl l 1 p)
def tiS (kd : Nat → Int32) (vl : Nat → Nat) (l : NLt) (p : PS) : PS := (tk kd 59 (tiW kd vl l p).1, (tiW kd vl l p).2)
theorem tiW_1 : (tiW kd vl l p).1 = tk kd 97 (tk kd 97 p.1) := by
  unfold tiW
  split
  · rw [wrS_1]; rfl
  · rfl
theorem tiS_1 : (tiS kd vl l p).1 = tks kd [97, 97, 59] p.1 := by
  show tk kd 59 (tiW kd vl l p).1 = _
  rw [tiW_1]; rfl
theorem RY.tie (E : EV kd pl vl Q) (h : RY kd pl vl Q v S0 Sb c p l T S) (h0 : p.1.1 = 0) (hl : l.1 = c 0 + c 1 + c 2) (hc : c 3 < 12) : Ok (fun S' => ∃ c' l' T', RY kd pl vl Q v S0 Sb c' (tiS kd vl l p) l' T' S' ∧ l'.1 = c' 0 + c' 1 + c' 2 ∧ ((tiS kd vl l p).1.1 = 0 → c' = cjN 3 c ∧ l' = l ∧ T' = upd2 (upd2 (upd2 T 8 (c 3) (odV vl l 1 p)) 9 (c 3) (odV vl l 1 (odS kd vl l 1 p))) 0 3 (nI (c 3 + 1)))) (f_Mo_tellTie S) := by
  have hv := h.hv
  have cn := h.cn
  unfold f_Mo_tellTie f_Mo_tellTie_b0
  rw [h.s19, g2 (by omega), cl (show 1 - v < 4096 by omega), cn.2.2.2.1, letS_e, show (12 : Int32) = nI 12 from rfl, iM, iA]
  refine (show Ok _ (f_Mo_known 1 S) from h.known (s := 1) E (by omega)).b (fun q25 h25 => ?_)
  rw [gIn_n (show 12 * (1 - v) + c 3 < 24 by omega) (by decide), letS_e, letS_e]
  have h28 := h25.1.a 8 (i := c 3) (f := 35) (m := 12) (by decide) (by decide) (by decide) (by decide) (by decide) hc q25.1
  refine (show Ok _ (f_Mo_known 1 _) from h28.known (s := 1) E (by omega)).b (fun q41 h41 => ?_)
  rw [gIn_n (show 12 * (1 - v) + c 3 < 24 by omega) (by decide), letS_e]
  have h44 := h41.1.a 9 (i := c 3) (f := 36) (m := 12) (by decide) (by decide) (by decide) (by decide) (by decide) hc q41.1
  have end' : ∀ S4, RY kd pl vl Q v S0 Sb c (tiW kd vl l p) l (upd2 (upd2 T 8 (c 3) q25.1) 9 (c 3) q41.1) S4 → Ok (fun S' => ∃ c' l' T', RY kd pl vl Q v S0 Sb c' (tiS kd vl l p) l' T' S' ∧ l'.1 = c' 0 + c' 1 + c' 2 ∧ ((tiS kd vl l p).1.1 = 0 → c' = cjN 3 c ∧ l' = l ∧ T' = upd2 (upd2 (upd2 T 8 (c 3) (odV vl l 1 p)) 9 (c 3) (odV vl l 1 (odS kd vl l 1 p))) 0 3 (nI (c 3 + 1)))) (f_Mo_tellTie_b82 S4) := fun S4 h4 => by
    unfold f_Mo_tellTie_b82
    refine (show Ok _ (f_Mo_must 4 _) from h4.must (k := 59) E (by decide) (by decide)).b (fun q52 h52 => ?_)
    have h52 : RY kd pl vl Q v S0 Sb c (tiS kd vl l p) l _ q52 := h52
    by_cases z : (tiS kd vl l p).1.1 = 0
    · obtain ⟨z0, k0, k1, k2, e1, e2, e3⟩ := tk3 (show (tks kd [97, 97, 59] p.1).1 = 0 by rw [← tiS_1 (vl := vl) (l := l)]; exact z)
      rw [if_pos (h52.f0 z), h52.s19, g2 (by omega), g2 (by omega), cl (show 1 - v < 4096 by omega), h52.cn.2.2.2.1, nI_1, letS_e]
      have v1 := h25.2 (by rw [e1])
      have v2 := h41.2 (by show (tk kd 97 (odS kd vl l 1 p).1).1 = 0; rw [show (odS kd vl l 1 p).1 = tk kd 97 p.1 from rfl, e2])
      refine Ok.i ⟨_, _, _, h52.n (j := 3) (f := 34) (by decide) (by omega) (by show c 3 < 12; exact hc), hl, fun _ => ⟨rfl, rfl, ?_⟩⟩
      rw [v1, v2]
    · rw [if_neg (h52.f1 z).2.1]
      exact Ok.i ⟨_, _, _, h52, hl, fun w => absurd w z⟩
  have x36 : (sA q41.2 0 36 (nI (12 * (1 - v) + c 3)) q41.1).2.1 0 36 (nI (12 * (1 - v) + c 3)).toNatClampNeg = q41.1 := by
    rw [sA_2, if_pos ⟨rfl, rfl⟩, upd_at, if_pos rfl]
  have x35 : (sA q41.2 0 36 (nI (12 * (1 - v) + c 3)) q41.1).2.1 0 35 (nI (12 * (1 - v) + c 3)).toNatClampNeg = q25.1 := by
    have := congrFun (congrFun h44.2.2 8) (c 3)
    rw [txM_g _ _ (by decide), show faT 8 = 35 from by decide, show sdF 35 = 12 from by decide] at this
    rw [cl (by omega), this]
    unfold upd2
    rw [if_neg (by omega), if_pos ⟨rfl, rfl⟩]
  by_cases z : (odS kd vl l 1 (odS kd vl l 1 p)).1.1 = 0
  · obtain ⟨q0, q1, q2, q3⟩ := tk_0 (show (tk kd 97 (odS kd vl l 1 p).1).1 = 0 from z)
    have v1 := h25.2 q0
    have v2 := h41.2 z
    rw [if_pos (h44.f0 z), gIn_n (show 12 * (1 - v) + c 3 < 24 by omega) (by decide), gIn_n (show 12 * (1 - v) + c 3 < 24 by omega) (by decide), gIn_n (show 12 * (1 - v) + c 3 < 24 by omega) (by decide), x36, x35, h28.t0 q0, v1, v2]
    rw [v2] at h44 end'
    by_cases y : odV vl l 1 (odS kd vl l 1 p) < 0
    · rw [if_pos y]
      refine end' _ ?_
      have : tiW kd vl l p = odS kd vl l 1 (odS kd vl l 1 p) := by unfold tiW; rw [if_neg (fun w => w.2.1 y)]
      rw [this]; exact h44
    · rw [if_neg y]
      by_cases y2 : odV vl l 1 (odS kd vl l 1 p) = odV vl l 1 p
      · rw [if_pos y2]
        have e : tiW kd vl l p = wrS 3 (odS kd vl l 1 p).1.2 (odS kd vl l 1 (odS kd vl l 1 p)) := by unfold tiW; rw [if_pos ⟨z, y, y2⟩]
        have e2 := odS_f (kd := kd) y
        refine (show Ok _ (f_Mo_wrong 3 (nI (odS kd vl l 1 p).1.2) _) from h44.wrong (k := 3) E (by omega) h28.tQ (fun a b => ?_) (fun _ => ?_)).b (fun S4 h4 => end' S4 (by rw [e]; exact h4))
        · rw [e2] at b ⊢
          exact h28.wk q0 b
        · show _ < (tk kd 97 (odS kd vl l 1 p).1).2
          rw [q3]; exact Nat.lt_succ_self _
      · rw [if_neg y2]
        refine end' _ ?_
        have : tiW kd vl l p = odS kd vl l 1 (odS kd vl l 1 p) := by unfold tiW; rw [if_neg (fun w => y2 w.2.2)]
        rw [this]; exact h44
  · rw [if_neg (h44.f1 z).2.1]
    refine end' _ ?_
    have : tiW kd vl l p = odS kd vl l 1 (odS kd vl l 1 p) := by unfold tiW; rw [if_neg (fun w => z w.1)]
    rw [this]; exact h44
/-- a number told -/
def nbS (kd : Nat → Int32) (vl : Nat → Nat) (lo hi : Nat) (p : PS) : PS := (tk kd 59 (bdS kd vl lo hi p).1, (bdS kd vl lo hi p).2)
theorem RY.num (E : EV kd pl vl Q) (h : RY kd pl vl Q v S0 Sb c p l T S) (h0 : p.1.1 = 0) (hk : ¬ (kd p.1.2 = 0 ∨ kd p.1.2 = 1)) {lo hi j f : Nat} (hlo : lo ≤ 9999) (hhi : hi ≤ 9999) (ef : fcT j = f) (es : sdF f = 1) (hj : j ≤ 6) (hf : 37 ≤ f ∧ f ≤ 39) : Ok (fun S' => ∃ T', RY kd pl vl Q v S0 Sb c (nbS kd vl lo hi (gOn p.1, p.2)) l T' S' ∧ ((nbS kd vl lo hi (gOn p.1, p.2)).1.1 = 0 → T' = upd2 T 0 j (nI (vl (p.1.2 + 1))))) (Option.bind (f_Mo_goesOn S) (fun q184 => Option.bind (f_Mo_bounded (nI lo) (nI hi) q184) (fun q199 => gIn (q184.1 0 19) 2 (letS (sA q199.2 0 f (q184.1 0 19) q199.1) (fun S202 => Option.bind (f_Mo_must 4 S202) (fun q205 => some q205)))))) := by
  have hv := h.hv
  refine (h.goes E h0 hk).b (fun q1 h1 => ?_)
  refine (h1.bounded E hlo hhi).b (fun q2 h2 => ?_)
  rw [h1.s19, g2 (by omega), letS_e]
  have h3 := h2.1.vv j ef es hj hf q2.1
  refine (show Ok _ (f_Mo_must 4 _) from h3.must (k := 59) E (by decide) (by decide)).b (fun q52 h52 => ?_)
  refine Ok.i ⟨_, h52, fun z => ?_⟩
  obtain ⟨z0, k0, k1, e1, e2⟩ := tk2 (show (tks kd [48, 59] (gOn p.1)).1 = 0 from z)
  have eg : gOn p.1 = (0, p.1.2 + 1) := by
    unfold gOn at z0 ⊢
    rw [if_pos h0] at z0 ⊢
    split at z0
    · rename_i y; rw [if_pos y]
    · exact absurd z0 (show ¬ (2 : Nat) = 0 by decide)
  rw [h2.2 z0 k0, eg]
/-- who know: the names behind a secret -/
def knF (kd : Nat → Int32) (vl : Nat → Nat) (l : NLt) : Nat → PS → Int32 → PS × Int32
  | 0, p, b => (p, b)
  | n + 1, p, b => if p.1.1 = 0 ∧ kd p.1.2 = 97 then
      (if (tk kd 97 p.1).1 = 0 ∧ 0 ≤ odV vl l 1 p then knF kd vl l n (if ((b >>> (odV vl l 1 p &&& 31)) &&& 1) = 1 then wrS 3 p.1.2 (odS kd vl l 1 p) else odS kd vl l 1 p) (b ||| ((1 : Int32) <<< (odV vl l 1 p &&& 31)))
       else knF kd vl l n (odS kd vl l 1 p) b)
    else (p, b)
theorem knF_1 : ∀ n p b, (knF kd vl l n p b).1.1 = nmsF kd n p.1
  | 0, p, b => rfl
  | n + 1, p, b => by
    unfold knF nmsF
    by_cases q : p.1.1 = 0 ∧ kd p.1.2 = 97
    · rw [if_pos q, if_pos q]
      split
      · rw [knF_1 n]
        split
        · rw [wrS_1]; rfl
        · rfl
      · rw [knF_1 n]; rfl
    · rw [if_neg q, if_neg q]
theorem i0le {x : Int32} (h : ¬ x < 0) : 0 ≤ x := by
  rw [Int32.lt_iff_toInt_lt] at h
  rw [Int32.le_iff_toInt_le]
  omega
theorem RY.knows (E : EV kd pl vl Q) {x1 x2 : Int32} {R : Mem → Prop} : ∀ (n m : Nat) (p : PS) (b : Int32) (S : Mem), RY kd pl vl Q v S0 Sb c p l T S → 1 ≤ n → 1 ≤ m → (p.1.1 = 0 → Q + 2 - p.1.2 ≤ n ∧ Q + 2 - p.1.2 ≤ m) → (∀ S', RY kd pl vl Q v S0 Sb c (knF kd vl l n p b).1 l T S' → Ok R (f_Mo_tellSecret_b148 x1 x2 (knF kd vl l n p b).2 S')) → Ok R (f_Mo_tellSecret_l78 m x1 x2 b S) := by
  intro n
  induction n with
  | zero => intro m p b S _ h; omega
  | succ n ih =>
    intro m p b S h hn hm hf hR
    obtain ⟨m, rfl⟩ : ∃ k, m = k + 1 := ⟨m - 1, by omega⟩
    show Ok R (f_Mo_tellSecret_b78 (f_Mo_tellSecret_l78 m) x1 x2 b S)
    unfold f_Mo_tellSecret_b78
    have tQ := h.tQ
    by_cases q : p.1.1 = 0
    · rw [if_pos (h.f0 q), show (1 : Int32) = mkK 97 from by decide, Mo_is E.1.1 E.2.1 h.1.2.2.2.2.2.2.1 h.1.1 (by decide), bind_e]
      rw [show mkK 97 = (1 : Int32) from by decide]
      by_cases y : kd p.1.2 = 97
      · rw [show (if p.1.1 = 0 ∧ kd p.1.2 = 97 then (1 : Int32) else 0) = 1 from if_pos ⟨q, y⟩, i10, letS_e, h.t0 q]
        refine (show Ok _ (f_Mo_known 1 S) from h.known (s := 1) E (by omega)).b (fun q1 h1 => ?_)
        rw [letS_e]
        unfold knF at hR
        rw [if_pos ⟨q, y⟩] at hR
        by_cases z : (tk kd 97 p.1).1 = 0
        · obtain ⟨-, -, q2, q3⟩ := tk_0 z
          have e3 : (odS kd vl l 1 p).1 = (0, p.1.2 + 1) := q3
          have hb := hf q
          have tQ1 := h1.1.tQ
          rw [e3] at tQ1
          have tQ1 : p.1.2 + 1 ≤ Q := tQ1
          rw [h1.1.f0 z, if_neg (show ¬ (0 : Int32) < 0 by decide), h1.2 z]
          by_cases w : odV vl l 1 p < 0
          · rw [if_neg (fun u => by rw [Int32.lt_iff_toInt_lt] at w; rw [Int32.le_iff_toInt_le] at u; omega)]
            rw [if_neg (fun u => by have u := u.2; rw [Int32.lt_iff_toInt_lt] at w; rw [Int32.le_iff_toInt_le] at u; omega)] at hR
            exact ih m _ b q1.2 h1.1 (by omega) (by omega) (fun _ => by rw [e3]; show Q + 2 - (p.1.2 + 1) ≤ n ∧ _; omega) hR
          · have w0 := i0le w
            rw [if_pos w0]
            rw [if_pos ⟨z, w0⟩] at hR
            have e2 := odS_f (kd := kd) w
            by_cases b1 : ((b >>> (odV vl l 1 p &&& 31)) &&& 1) = 1
            · rw [if_pos b1]
              rw [if_pos b1] at hR
              refine (show Ok _ (f_Mo_wrong 3 (nI p.1.2) _) from h1.1.wrong (k := 3) E (by omega) tQ (fun a b => ?_) (fun _ => ?_)).b (fun S4 h4 => ?_)
              · rw [e2] at b ⊢
                exact h.wk q b
              · rw [e3]; exact Nat.lt_succ_self _
              · unfold f_Mo_tellSecret_b138
                rw [letS_e]
                exact ih m _ _ S4 h4 (by omega) (by omega) (fun _ => by rw [wrS_1, e3]; show Q + 2 - (p.1.2 + 1) ≤ n ∧ _; omega) hR
            · rw [if_neg b1]
              rw [if_neg b1] at hR
              unfold f_Mo_tellSecret_b138
              rw [letS_e]
              exact ih m _ _ q1.2 h1.1 (by omega) (by omega) (fun _ => by rw [e3]; show Q + 2 - (p.1.2 + 1) ≤ n ∧ _; omega) hR
        · rw [if_pos (h1.1.f1 z).2.2]
          rw [if_neg (fun u => z u.1)] at hR
          have hb := hf q
          exact ih m _ b q1.2 h1.1 (by omega) (by omega) (fun u => absurd u z) hR
      · rw [show (if p.1.1 = 0 ∧ kd p.1.2 = 97 then (1 : Int32) else 0) = 0 from if_neg (fun u => y u.2), i00]
        unfold knF at hR
        rw [if_neg (fun u => y u.2)] at hR
        exact hR S h
    · rw [if_neg (h.f1 q).2.1]
      unfold knF at hR
      rw [if_neg (fun u => q u.1)] at hR
      exact hR S h
