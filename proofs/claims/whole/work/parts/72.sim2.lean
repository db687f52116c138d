/-! BOTH: days gone, whispers, tellings, goings, ties cut. -/
theorem bit_n0 {x : Int32} {k : Nat} (h : ¬ bitOf x k = 0) : bitOf x k = 1 := (bit01 x k).resolve_left h
theorem MOK.cp {v : Nat} {T : TX} {F : LF} {r : RW} {U : UX} {H : HX} {N : NX} {B : BX} {P : Int32} {S : Mem} (h : MOK v T F r U H N B P S) : Ok (fun S' => MOK v T F r U H N B P S' ∧ MR r S' ∧ S'.1 0 58 = T 0 6) (f_Mo_copies S) :=
  (Mo_copies h.1.1 h.2.1).m (fun S' hS => ⟨h.fr hS.1, hS.2⟩)
theorem i10 {α : Type} (a b : α) : (if (1 : Int32) = 0 then a else b) = b := if_neg (by decide)
theorem i00 {α : Type} (a b : α) : (if (0 : Int32) = 0 then a else b) = a := if_pos rfl
theorem lenM (n : Nat) (hn : n ≤ 100) : nI n ≤ (100 : Int32) := nI_le (b := 100) hn (by decide)
theorem Co_days22 {tx : Nat} {T : TX} {F : LF} {r : RW} {U : UX} {H : HX} {N : NX} {B : BX} {P : Int32} {S : Mem} (hT : TG T F) (hG : GR T r) (h : COK tx T F r U H N B P S) {n : Nat} (hn : n ≤ 100) : Ok (fun z : Int32 × Mem => z.1 = days T F (T 0 6) n r 35 ∧ COK tx T F (days T F (T 0 6) n r) U H N B P z.2) (f_Co_days_l22 5000 (nI n) 0 S) := by
  have hl := h.1.1.tx
  refine li_3 f_Co_days_b22 f_Co_days_l22 (fun _ => rfl) (fun _ => nI n) nI (fun j S' => CR tx T F U H N B P S' ∧ CB T (days T F (T 0 6) j r) 4 S' ∧ CM T (days T F (T 0 6) j r) 4 S') n _ (fun k j y hj hy => ?_) (fun k y hy => ?_) 5000 (by omega) S ⟨h.1, h.2.1, h.2.2.1⟩
  · simp only [f_Co_days_b22, if_neg (le_nI (show ¬ n ≤ j by omega) (by omega) (by omega)), hy.1.1.2.2.2.1, gTx_t hy.1.1.2.1, cl hl, hy.1.1.1.2.1.2.1.2.2]
    obtain ⟨q, eq, hq⟩ := Dy_pass (sd := T 0 6) hT (GR.days (sd := T 0 6) hT hG j).1 (hy.1.1.1.g (by decide) hy.2.1 hy.2.2)
    rw [eq, bind_e, nI_1]
    exact ⟨q, ⟨hy.1.fq hq.1 (Or.inl rfl), hq.2.1.2.2.2.1, hq.2.1.2.2.2.2⟩, rfl⟩
  · simp only [f_Co_days_b22, if_pos (le_rf n)]
    have g := GR.days (sd := T 0 6) hT hG n
    refine (Co_changed hT g.1 hy.1 hy.2.1).b (fun q hq => ?_)
    rw [cut_id g.2.2.1] at hq
    exact Ok.i ⟨hq.2.1.1.1, hq⟩
theorem S_days {SC SM : Mem} (h : Rel SC SM) (x : Int32) : Sim (f_Co_days x SC) (f_Mo_days x SM) := by
  obtain ⟨v, tx, T, F, r, U, H, N, B, P, w, hM, hC⟩ := h
  have hN := w.1.1
  unfold f_Co_days f_Co_days_b0 f_Mo_days f_Mo_days_b0
  rcases rg x (n := 101) (by decide) with ⟨n, hn, rfl⟩ | ⟨q, q2⟩
  · rw [in_d (n := 101) (by decide) (by decide) hn, bind_e, i10, if_neg (nI_pos (by omega)), if_pos (lenM n (by omega))]
    rcases Nat.eq_zero_or_pos n with rfl | hp
    · rw [if_pos (show nI 0 ≤ 0 by decide), if_pos (show nI 0 = 0 by decide), g35, ic_35]
      exact Sim.ok w (Ok.e rfl ⟨hC.2.1.1.1, hC⟩) (Ok.e rfl ⟨hM.2.1 35 (by decide), hM⟩)
    · rw [if_neg (nI_nle hp (by omega)), if_neg (nI_ne0 hp (by omega))]
      have g := GR.days (sd := T 0 6) w.1 w.2.1 n
      refine Sim.ok (v := v) (tx := tx) (P := P) (w.pu g) ((Co_keepForUndo hN hC).b (fun q hq => Co_days22 w.1 w.2.1 hq (by omega))) (hM.cp.b (fun q hq => ?_))
      refine (Mo_goes hN hq.1.1.1 hq.1.1.2 w.1.2.2.2.2 hq.2.1 w.2.1.1.2.2.2.2 w.1.2.2.1 (n := n) (by omega)).b (fun q2 hq2 => ?_)
      rw [hq.2.2] at hq2
      refine (Mo_keeps (hq.1.fr hq2.1.1) hq2.2).b (fun q3 hq3 => ?_)
      rw [g35, ic_35]
      exact Ok.i ⟨hq3.1.2.1 35 (by decide), hq3.1⟩
  · rw [in_c (n := 101) (by decide) (by decide) q, bind_e, if_pos rfl]
    rcases q2 with q2 | ⟨q2, q3, q4⟩
    · rw [if_pos q2]
      exact Sim.ok w (Ok.e rfl ⟨rfl, hC⟩) (Ok.e rfl ⟨rfl, hM⟩)
    · have q5 : ¬ x ≤ (100 : Int32) := by
        obtain ⟨j, hj, rfl⟩ := nI_of q2
        have := (nI_leI (a := 101) (by decide) hj).mp q3
        exact le_nI (b := 100) (by omega) hj (by decide)
      rw [if_neg q2, if_neg q5]
      exact Sim.ok w (Ok.e rfl ⟨rfl, hC⟩) (Ok.e rfl ⟨rfl, hM⟩)
theorem S_go {SC SM : Mem} (h : Rel SC SM) (x1 x2 : Int32) : Sim (f_Co_go x1 x2 SC) (f_Mo_go x1 x2 SM) := by
  obtain ⟨v, tx, T, F, r, U, H, N, B, P, w, hM, hC⟩ := h
  have hN := w.1.1
  have h4 := hN.1.2
  have h7 := hN.2.1.2
  have hX := hC.1.1
  unfold f_Co_go f_Co_go_b0 f_Mo_go f_Mo_go_b0
  rcases rg x1 (n := nM T) (by omega) with ⟨a, ha, rfl⟩ | ⟨q, -⟩
  case inr =>
    rw [Mo_isMan_n hN hM.1 q, Co_isMan_n hN hX q, bind_e, bind_e, i00, i00]
    exact Sim.ok w (Ok.e rfl ⟨rfl, hC⟩) (Ok.e rfl ⟨rfl, hM⟩)
  rw [Mo_isMan_y hN hM.1 ha, Co_isMan_y hN hX ha, bind_e, bind_e, i10, i10]
  rcases rg x2 (n := nW T) (by omega) with ⟨b, hb, rfl⟩ | ⟨q, -⟩
  case inr =>
    rw [Mo_isWell_n hN hM.1 q, Co_isWell_n hN hX q, bind_e, bind_e, i00, i00]
    exact Sim.ok w (Ok.e rfl ⟨rfl, hC⟩) (Ok.e rfl ⟨rfl, hM⟩)
  rw [Mo_isWell_y hN hM.1 hb, Co_isWell_y hN hX hb, bind_e, bind_e, i10, i10, St_isAlive hC.2.1 a, bind_e]
  obtain ⟨q, eq, hq, hr, -⟩ := hM.cp
  rw [eq, bind_e, Mo_isAlive hr a, bind_e]
  by_cases qa : bitOf (r 33) a = 0
  · rw [if_pos qa, if_pos qa]
    exact Sim.ok w (Ok.e rfl ⟨rfl, hC⟩) (Ok.e rfl ⟨rfl, hq⟩)
  rw [if_neg qa, if_neg qa, g7 (by omega), cl (by omega), (hC.2.1.2.2.1 a ha).1, a12, g40 (by omega), cl (by omega), hr (12 + a) (by omega)]
  by_cases qb : r (12 + a) = nI b
  · rw [if_pos qb, if_pos qb]
    exact Sim.ok w (Ok.e rfl ⟨rfl, hC⟩) (Ok.e rfl ⟨rfl, hq⟩)
  rw [if_neg qb, if_neg qb, g40 (by omega), letS_e]
  have g := GR.go hN w.2.1 ha hb
  refine Sim.ok (a := 1) (v := v) (tx := tx) (P := P) (w.pu g) ((Co_keepForUndo hN hC).b (fun c hc => ?_)) ?_
  · rw [g7 (by omega), letS_e]
    refine (Co_changed w.1 g.1 (hc.1.fq ((Fq.rf 4 c).s 5 (nI a) (nI b)) (Or.inl rfl)) (hc.2.1.h hN ha (nI b))).b (fun d hd => ?_)
    rw [cut_id g.2.2.1] at hd
    exact Ok.i ⟨rfl, hd⟩
  · exact (Mo_keeps (hq.fr (Fr.s sc57)) (MR_s hr (by omega) (nI b))).b (fun d hd => Ok.i ⟨rfl, hd.1⟩)
theorem S_cut {SC SM : Mem} (h : Rel SC SM) (x1 x2 : Int32) : Sim (f_Co_cut x1 x2 SC) (f_Mo_cut x1 x2 SM) := by
  obtain ⟨v, tx, T, F, r, U, H, N, B, P, w, hM, hC⟩ := h
  have hN := w.1.1
  have h12 := hN.2.2.2.2
  have hX := hC.1.1
  have hv := hM.1.1.1
  unfold f_Co_cut f_Co_cut_b0 f_Mo_cut f_Mo_cut_b0
  rw [hM.1.1.2.1, g2 hv, cl (by omega), hM.1.1.2.2.1.2.2.2, hN.2.2.2.1]
  rcases rg x1 (n := nT T) (by omega) with ⟨t, ht, rfl⟩ | ⟨q, -⟩
  case inr =>
    rw [in_no q (by omega), Co_isTie_n hN hX q, bind_e, bind_e, i00, i00]
    exact Sim.ok w (Ok.e rfl ⟨rfl, hC⟩) (Ok.e rfl ⟨rfl, hM⟩)
  rw [in_yes rfl ht (by omega), Co_isTie_y hN hX ht, bind_e, bind_e, i10, i10, St_isCut hC.2.1 t, bind_e, g34, ic_34, hM.2.1 34 (by decide)]
  have ee : (if ((r 34 >>> (nI t &&& 31)) &&& 1) = 1 then f_Mo_cut_b39 (nI t) x2 1 SM else f_Mo_cut_b39 (nI t) x2 0 SM) = f_Mo_cut_b39 (nI t) x2 (bitOf (r 34) t) SM := by
    rw [show ((r 34 >>> (nI t &&& 31)) &&& 1) = bitOf (r 34) t from rfl]
    rcases bit01 (r 34) t with e | e
    · rw [if_neg (fun z : bitOf (r 34) t = 1 => by rw [e] at z; exact absurd z (by decide)), e]
    · rw [if_pos (show bitOf (r 34) t = 1 from e), e]
  rw [ee]
  unfold f_Mo_cut_b39
  by_cases qb : bitOf (r 34) t = x2
  · rw [if_pos qb, if_pos qb]
    exact Sim.ok w (Ok.e rfl ⟨rfl, hC⟩) (Ok.e rfl ⟨rfl, hM⟩)
  rw [if_neg qb, if_neg qb]
  have g := GR.ct hN w.2.1 ht
  refine Sim.ok (a := 1) (v := v) (tx := tx) (P := P) (w.pu g) ((Co_keepForUndo hN hC).b (fun c hc => ?_)) (hM.cp.b (fun q hq => ?_))
  · rw [letS_e, hc.2.1.1.2.2.1]
    refine (Co_changed w.1 g.1 (hc.1.fq ((Fq.rf 4 c).p 2 _) (Or.inl rfl)) (hc.2.1.cu hN _)).b (fun d hd => ?_)
    rw [cut_id g.2.2.1] at hd
    exact Ok.i ⟨rfl, hd⟩
  · rw [g34, g34, letS_e, ic_34, hq.2.1 34 (by decide)]
    exact (Mo_keeps (hq.1.fr (Fr.s sc57)) (MR_s hq.2.1 (i := 34) (by omega) _)).b (fun d hd => Ok.i ⟨rfl, hd.1⟩)
theorem S_tell {SC SM : Mem} (h : Rel SC SM) (x1 x2 x3 : Int32) : Sim (f_Co_tell x1 x2 x3 SC) (f_Mo_tell x1 x2 x3 SM) := by
  obtain ⟨v, tx, T, F, r, U, H, N, B, P, w, hM, hC⟩ := h
  have hN := w.1.1
  have h7 := hN.2.1.2
  have h8 := hN.2.2.1.2
  have hX := hC.1.1
  unfold f_Co_tell f_Co_tell_b0 f_Mo_tell f_Mo_tell_b0
  rcases rg x1 (n := nM T) (by omega) with ⟨a, ha, rfl⟩ | ⟨q, -⟩
  case inr =>
    rw [Mo_isMan_n hN hM.1 q, Co_isMan_n hN hX q, bind_e, bind_e, i00, i00]
    exact Sim.ok w (Ok.e rfl ⟨rfl, hC⟩) (Ok.e rfl ⟨rfl, hM⟩)
  rw [Mo_isMan_y hN hM.1 ha, Co_isMan_y hN hX ha, bind_e, bind_e, i10, i10]
  rcases rg x2 (n := nM T) (by omega) with ⟨b, hb, rfl⟩ | ⟨q, -⟩
  case inr =>
    rw [Mo_isMan_n hN hM.1 q, Co_isMan_n hN hX q, bind_e, bind_e, i00, i00]
    exact Sim.ok w (Ok.e rfl ⟨rfl, hC⟩) (Ok.e rfl ⟨rfl, hM⟩)
  rw [Mo_isMan_y hN hM.1 hb, Co_isMan_y hN hX hb, bind_e, bind_e, i10, i10]
  rcases rg x3 (n := nS T) (by omega) with ⟨s, hs, rfl⟩ | ⟨q, -⟩
  case inr =>
    rw [Mo_isSecret_n hN hM.1 q, Co_isSecret_n hN hX q, bind_e, bind_e, i00, i00]
    by_cases qe : nI a = nI b
    · rw [if_pos qe]; exact Sim.ok w (Ok.e rfl ⟨rfl, hC⟩) (Ok.e rfl ⟨rfl, hM⟩)
    · rw [if_neg qe]; exact Sim.ok w (Ok.e rfl ⟨rfl, hC⟩) (Ok.e rfl ⟨rfl, hM⟩)
  rw [Mo_isSecret_y hN hM.1 hs, Co_isSecret_y hN hX hs, bind_e, bind_e, i10, i10, St_isAlive hC.2.1 a, bind_e, St_isAlive hC.2.1 b, bind_e, St_isKnownTo hN hC.2.1 ha s, bind_e, St_isKnownTo hN hC.2.1 hb s, bind_e]
  by_cases qe : nI a = nI b
  · have e : a = b := (nI_eq (by omega) (by omega)).mp qe
    subst e
    rw [if_pos rfl]
    have no : ∀ z, z = some ((0 : Int32), SC) → Sim z (some (0, SM)) := fun z hz => Sim.ok w (Ok.e hz ⟨rfl, hC⟩) (Ok.e rfl ⟨rfl, hM⟩)
    by_cases q1 : bitOf (r 33) a = 0
    · rw [if_pos q1]; exact no _ rfl
    rw [if_neg q1, if_neg q1]
    by_cases q2 : bitOf (r (26 + a)) s = 0
    · rw [if_pos q2]; exact no _ rfl
    rw [if_neg q2, if_neg q2]; exact no _ rfl
  rw [if_neg qe]
  obtain ⟨q, eq, hq, hr, -⟩ := hM.cp
  rw [eq, bind_e, Mo_isAlive hr a, bind_e, Mo_isAlive hr b, bind_e, Mo_knows hr (by omega) s, bind_e, Mo_knows hr (by omega) s, bind_e]
  by_cases q1 : bitOf (r 33) a = 0
  · rw [if_pos q1, if_pos q1]; exact Sim.ok w (Ok.e rfl ⟨rfl, hC⟩) (Ok.e rfl ⟨rfl, hq⟩)
  rw [if_neg q1, if_neg q1]
  by_cases q2 : bitOf (r 33) b = 0
  · rw [if_pos q2, if_pos q2]; exact Sim.ok w (Ok.e rfl ⟨rfl, hC⟩) (Ok.e rfl ⟨rfl, hq⟩)
  rw [if_neg q2, if_neg q2]
  by_cases q3 : bitOf (r (26 + a)) s = 0
  · rw [if_pos q3, if_pos q3]; exact Sim.ok w (Ok.e rfl ⟨rfl, hC⟩) (Ok.e rfl ⟨rfl, hq⟩)
  rw [if_neg q3, if_neg q3]
  by_cases q4 : bitOf (r (26 + b)) s = 0
  case neg => rw [if_neg q4, if_neg q4]; exact Sim.ok w (Ok.e rfl ⟨rfl, hC⟩) (Ok.e rfl ⟨rfl, hq⟩)
  rw [if_pos q4, if_pos q4, a26, g40 (by omega), g40 (by omega), letS_e, cl (show 26 + b < 4096 by omega), hr (26 + b) (by omega)]
  have gI := w.2.1.1.k hN hb hs
  have e : ∀ i, i < 26 ∨ 33 ≤ i → upd r (26 + b) (r (26 + b) ||| bitM s) i = r i := fun i hi => by rw [upd_at, if_neg (by omega)]
  have g := GR.cut w.1 gI (w.2.1.2.1.o (fun i hi => e i (by have := hN.1.2; omega))) (w.2.1.2.2.2.o (fun i hi => e i (by omega)) h7)
  refine Sim.ok (a := 1) (v := v) (tx := tx) (P := P) (w.pu g) ((Co_keepForUndo hN hC).b (fun c hc => ?_)) ?_
  · rw [g7 (by omega), g7 (by omega), letS_e, cl (by omega), (hc.2.1.2.2.1 b hb).2.2]
    exact (Co_changed w.1 gI (hc.1.fq ((Fq.rf 4 c).s 7 (nI b) _) (Or.inl rfl)) (hc.2.1.k hN hb _)).b (fun d hd => Ok.i ⟨rfl, hd⟩)
  · have k1 := hq.fr (Fr.s (i := nI (26 + b)) (x := r (26 + b) ||| bitM s) sc57)
    refine (Mo_cutsWater hN k1.1.1 (MR_s hr (by omega) _)).b (fun c hc => ?_)
    exact (Mo_keeps (k1.fr hc.1) hc.2.1).b (fun d hd => Ok.i ⟨rfl, hd.1⟩)
theorem S_whi {SC SM : Mem} (h : Rel SC SM) (x1 x2 x3 lo : Int32) (hl : ∀ T F r U H N B P v tx, WO T F r U H N B → MOK v T F r U H N B P SM → COK tx T F r U H N B P SC → ∃ l, l ≤ 99 ∧ lo = nI l) : Sim (f_Co_whisperInto x1 x2 x3 lo SC) (f_Mo_whispers x1 x2 x3 lo SM) := by
  obtain ⟨v, tx, T, F, r, U, H, N, B, P, w, hM, hC⟩ := h
  obtain ⟨l, hl99, rfl⟩ := hl T F r U H N B P v tx w hM hC
  have hN := w.1.1
  have h4 := hN.1.2
  have h7 := hN.2.1.2
  have h8 := hN.2.2.1.2
  have hX := hC.1.1
  unfold f_Co_whisperInto f_Co_whisperInto_b0 f_Mo_whispers f_Mo_whispers_b0
  rcases rg x1 (n := nM T) (by omega) with ⟨a, ha, rfl⟩ | ⟨q, -⟩
  case inr =>
    rw [Mo_isMan_n hN hM.1 q, Co_isMan_n hN hX q, bind_e, bind_e, i00, i00]
    exact Sim.ok w (Ok.e rfl ⟨rfl, hC⟩) (Ok.e rfl ⟨rfl, hM⟩)
  rw [Mo_isMan_y hN hM.1 ha, Co_isMan_y hN hX ha, bind_e, bind_e, i10, i10]
  rcases rg x2 (n := nS T) (by omega) with ⟨s, hs, rfl⟩ | ⟨q, -⟩
  case inr =>
    rw [Mo_isSecret_n hN hM.1 q, Co_isSecret_n hN hX q, bind_e, bind_e, i00, i00]
    exact Sim.ok w (Ok.e rfl ⟨rfl, hC⟩) (Ok.e rfl ⟨rfl, hM⟩)
  rw [Mo_isSecret_y hN hM.1 hs, Co_isSecret_y hN hX hs, bind_e, bind_e, i10, i10]
  rcases rg x3 (n := nW T) (by omega) with ⟨b, hb, rfl⟩ | ⟨q, -⟩
  case inr =>
    rw [Mo_isWell_n hN hM.1 q, Co_isWell_n hN hX q, bind_e, bind_e, i00, i00]
    exact Sim.ok w (Ok.e rfl ⟨rfl, hC⟩) (Ok.e rfl ⟨rfl, hM⟩)
  rw [Mo_isWell_y hN hM.1 hb, Co_isWell_y hN hX hb, bind_e, bind_e, i10, i10, St_isAlive hC.2.1 a, bind_e, St_isKnownTo hN hC.2.1 ha s, bind_e]
  obtain ⟨q, eq, hq, hr, -⟩ := hM.cp
  rw [eq, bind_e, Mo_isAlive hr a, bind_e, Mo_knows hr (by omega) s, bind_e]
  by_cases q1 : bitOf (r 33) a = 0
  · rw [if_pos q1, if_pos q1]; exact Sim.ok w (Ok.e rfl ⟨rfl, hC⟩) (Ok.e rfl ⟨rfl, hq⟩)
  rw [if_neg q1, if_neg q1]
  by_cases q2 : bitOf (r (26 + a)) s = 0
  · rw [if_pos q2, if_pos q2]; exact Sim.ok w (Ok.e rfl ⟨rfl, hC⟩) (Ok.e rfl ⟨rfl, hq⟩)
  rw [if_neg q2, if_neg q2, g8 (by omega), cl (show s < 4096 by omega), hC.2.1.2.2.2 s hs, a4, g40 (by omega), cl (show 4 + s < 4096 by omega), hr (4 + s) (by omega)]
  by_cases q3 : r (4 + s) = nI b
  · rw [if_pos q3, if_pos q3]; exact Sim.ok w (Ok.e rfl ⟨rfl, hC⟩) (Ok.e rfl ⟨rfl, hq⟩)
  rw [if_neg q3, if_neg q3, g40 (by omega), letS_e, g36, g36, letS_e, ic_36, g40 (by omega), g40 (by omega)]
  -- the row
  obtain ⟨n, hn, en⟩ := w.2.1.2.1 b hb
  have hr1 := MR_s hr (i := 4 + s) (by omega) (nI b)
  have e36 : (sA q 0 57 (nI (4 + s)) (nI b)).2.1 0 57 36 = r 36 := by rw [hr1 36 (by omega), upd_at, if_neg (by omega)]
  have hr2 := MR_s hr1 (i := 36) (by omega) (r 36 + 1)
  rw [e36]
  have eb : (sA (sA q 0 57 (nI (4 + s)) (nI b)) 0 57 36 (r 36 + 1)).2.1 0 57 (nI b).toNatClampNeg = nI n := by
    rw [cl (by omega)]
    refine (hr2 b (by omega)).trans ?_
    rw [upd_at, if_neg (by omega), upd_at, if_neg (by omega), en]
  rw [eb]
  have k1 := (hq.fr (Fr.s (i := nI (4 + s)) (x := nI b) sc57)).fr (Fr.s (i := nI 36) (x := r 36 + 1) sc57)
  have em : (if nI n ≤ nI l then f_Mo_whispers_b111 (nI b) 0 (nI b) (sA (sA q 0 57 (nI (4 + s)) (nI b)) 0 57 36 (r 36 + 1)) else f_Mo_whispers_b111 (nI b) (nI n - nI l) (nI b) (sA (sA q 0 57 (nI (4 + s)) (nI b)) 0 57 36 (r 36 + 1))) = f_Mo_whispers_b111 (nI b) (nI (n - l)) (nI b) (sA (sA q 0 57 (nI (4 + s)) (nI b)) 0 57 (nI 36) (r 36 + 1)) := by
    by_cases z : n ≤ l
    · rw [if_pos (nI_le z (by omega)), show n - l = 0 by omega]; rfl
    · rw [if_neg (le_nI z (by omega) (by omega)), pk_sub (by omega)]; rfl
  rw [em]
  generalize sA (sA q 0 57 (nI (4 + s)) (nI b)) 0 57 (nI 36) (r 36 + 1) = Q at hr2 k1 ⊢
  have gI := (((w.2.1.1.i hN hs hb).o hN (r' := upd (upd r (4 + s) (nI b)) 36 (r 36 + 1)) (fun i hi => by rw [upd_at, if_neg (by omega)])).o hN (r' := upd (upd (upd r (4 + s) (nI b)) 36 (r 36 + 1)) b (nI (n - l))) (fun i hi => by rw [upd_at, if_neg (by omega)]))
  have e : ∀ i, i < 4 ∨ (19 ≤ i ∧ i < 36) → upd (upd r (4 + s) (nI b)) 36 (r 36 + 1) i = r i := fun i hi => by rw [upd_at, if_neg (by omega), upd_at, if_neg (by omega)]
  have gW := (w.2.1.2.1.o (r' := upd (upd r (4 + s) (nI b)) 36 (r 36 + 1)) (fun i hi => e i (by omega))).u (w := b) (n := n - l) (by omega) rfl
  have gT := w.2.1.2.2.2.o (r' := upd (upd (upd r (4 + s) (nI b)) 36 (r 36 + 1)) b (nI (n - l))) (fun i hi => by rw [upd_at, if_neg (by omega)]; exact e i (by omega)) h7
  have g := GR.cut w.1 gI gW gT
  refine Sim.ok (a := dp T (iter (cutR T) (nW T) (upd (upd (upd r (4 + s) (nI b)) 36 (r 36 + 1)) b (nI (n - l)))) b) (v := v) (tx := tx) (P := P) (w.pu g) ((Co_keepForUndo hN hC).b (fun c hc => ?_)) ?_
  · rw [g8 (by omega), letS_e, letS_e, g4 (by omega), g4 (by omega), letS_e]
    have b1 := hc.2.1.i hN hs (nI b)
    have f1 := (Fq.rf 4 c).s 8 (nI s) (nI b)
    generalize sA c 4 8 (nI s) (nI b) = c1 at b1 f1 ⊢
    rw [b1.1.2.2.2, show upd r (4 + s) (nI b) 36 = r 36 by rw [upd_at, if_neg (by omega)]]
    have b2 := b1.wh hN (r 36 + 1)
    have f2 := f1.p 3 (r 36 + 1)
    generalize pI c1 4 3 (r 36 + 1) = c2 at b2 f2 ⊢
    have ej : jMmax 0 (nI n - nI l) = nI (n - l) := by
      unfold jMmax
      by_cases z : n ≤ l
      · have : n - l = 0 := by omega
        rw [this]
        rcases Nat.lt_or_ge n l with z2 | z2
        · have hn0 := pk_sneg (a := n) (b := l) (by omega) z2
          rw [if_neg (fun y => absurd (Int32.lt_trans y hn0) (by decide))]; rfl
        · rw [pk_sub z2, this, if_neg (by decide)]; rfl
      · rw [pk_sub (by omega), if_pos (show (0 : Int32) < nI (n - l) from nI_lt (a := 0) (by omega) (by omega))]
    rw [cl (by omega), b2.2.1 b hb, show upd (upd r (4 + s) (nI b)) 36 (r 36 + 1) b = nI n by rw [e b (by omega), en], ej]
    refine (Co_changed w.1 gI (hc.1.fq (f2.s 4 (nI b) _) (Or.inl rfl)) (b2.w hN hb _)).b (fun d hd => ?_)
    rw [g4 (by omega)]
    exact Ok.i ⟨(hd.2.2.1.1 b hb).1, hd⟩
  · unfold f_Mo_whispers_b111
    rw [g40 (by omega), letS_e]
    have hr3 := MR_s hr2 (i := b) (by omega) (nI (n - l))
    have k2 := k1.fr (Fr.s (i := nI b) (x := nI (n - l)) sc57)
    refine (Mo_cutsWater hN k2.1.1 hr3).b (fun c hc => ?_)
    have k3 := k2.fr hc.1
    refine (Mo_keeps k3 hc.2.1).b (fun d hd => ?_)
    rw [Mo_deepOf hN hd.1.1.1 (MR_of hc.2.1 hd.2.1) (by omega), bind_e]
    exact Ok.i ⟨rfl, hd.1⟩
theorem Sim.eta {x y : Option (Int32 × Mem)} (h : Sim x y) : Sim (Option.bind x (fun q => some (q.1, q.2))) (Option.bind y (fun q => some (q.1, q.2))) := by
  obtain ⟨a, S1, S2, rfl, rfl, h⟩ := h
  exact ⟨a, S1, S2, rfl, rfl, h⟩
theorem S_whisper {SC SM : Mem} (h : Rel SC SM) (x1 x2 x3 : Int32) : Sim (f_Co_whisper x1 x2 x3 SC) (f_Mo_whisper x1 x2 x3 SM) :=
  (S_whi h x1 x2 x3 0 (fun T F r U H N B P v tx w _ _ => ⟨0, by omega, rfl⟩)).eta
theorem S_drill {SC SM : Mem} (h : Rel SC SM) (x1 x2 x3 : Int32) : Sim (f_Co_drill x1 x2 x3 SC) (f_Mo_drill x1 x2 x3 SM) := by
  have h0 := h
  obtain ⟨v, tx, T, F, r, U, H, N, B, P, w, hM, hC⟩ := h
  unfold f_Co_drill f_Co_drill_b0 f_Mo_drill f_Mo_drill_b0
  rw [hC.1.1.2.2.2.1, gTx_t hC.1.1.2.1, cl hC.1.1.tx, hC.1.1.1.2.1.2.1.2.1, hM.1.1.2.1, g2 hM.1.1.1, cl (by have := hM.1.1.1; omega), hM.1.1.2.2.2.1.2.1]
  obtain ⟨l, hl, e⟩ := w.1.2.2.2.1.2.2.2
  exact (S_whi h0 x1 x2 x3 (T 0 5) (fun T F r U H N B P v tx w _ _ => ⟨l, hl, e⟩)).eta
