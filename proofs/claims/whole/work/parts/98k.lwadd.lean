/-! READ: the class makes steps of a law's tokens. -/
variable {lw p : Nat} {S S' : Mem}
def LSt (lw p : Nat) (y : List Int32 × Cd) (S : Mem) : Prop := S.1 lw 3 = nI y.1.length ∧ wtG (fun x => x) (S.2.1 lw 1) y.1 ∧ S.1 lw 2 = nI (p + y.2.length) ∧ stC p (S.2.1 lw 0) y.2
/-- of the law only steps from p on, pile and counts are changed -/
def FJ (lw p : Nat) (S S' : Mem) : Prop := (∀ o, o ≠ lw → S'.1 o = S.1 o) ∧ S'.1 lw 4 = S.1 lw 4 ∧ (∀ o f, ¬ (o = lw ∧ (f = 0 ∨ f = 1)) → S'.2.1 o f = S.2.1 o f) ∧ (∀ i, i < p → S'.2.1 lw 0 i = S.2.1 lw 0 i) ∧ S'.2.2 = S.2.2
theorem FJ.rf (lw p : Nat) (S : Mem) : FJ lw p S S := ⟨fun _ _ => rfl, rfl, fun _ _ _ => rfl, fun _ _ => rfl, rfl⟩
theorem FJ.tr {A B C : Mem} (h1 : FJ lw p A B) (h2 : FJ lw p B C) : FJ lw p A C := ⟨fun o h => (h2.1 o h).trans (h1.1 o h), h2.2.1.trans h1.2.1, fun o f h => (h2.2.2.1 o f h).trans (h1.2.2.1 o f h), fun i h => (h2.2.2.2.1 i h).trans (h1.2.2.2.1 i h), h2.2.2.2.2.trans h1.2.2.2.2⟩
theorem FJ.i {k : Nat} (hk : k ≠ 4) (x : Int32) : FJ lw p S (pI S lw k x) := ⟨fun o h => pI_o h, by rw [pI_1, if_neg (by omega)], fun _ _ _ => rfl, fun _ _ => rfl, rfl⟩
theorem FJ.s1 (i x : Int32) : FJ lw p S (sA S lw 1 i x) := ⟨fun _ _ => rfl, rfl, fun o f h => by rw [sA_2, if_neg (fun z => h ⟨z.1, Or.inr z.2⟩)], fun i _ => by rw [sA_2, if_neg (by omega)], rfl⟩
theorem FJ.s0 {j : Nat} (hj : p ≤ j) (hj2 : j < 4096) (x : Int32) : FJ lw p S (sA S lw 0 (nI j) x) := ⟨fun _ _ => rfl, rfl, fun o f h => by rw [sA_2, if_neg (fun z => h ⟨z.1, Or.inl z.2⟩)], fun i hi => by rw [sA_2, if_pos ⟨rfl, rfl⟩, cl hj2, upd_at, if_neg (by omega)], rfl⟩
theorem stC_u {a j : Nat} {f : Nat → Int32} {x : Int32} : ∀ C : Cd, stC a f C → a + C.length ≤ j → stC a (upd f j x) C
  | [], _, _ => trivial
  | k :: C, h, hj => by
    have hj : a + (C.length + 1) ≤ j := hj
    refine ⟨?_, stC_u C h.2 (by omega)⟩
    rw [upd_at, if_neg (by omega)]; exact h.1
theorem Lw_put {n : Nat} (e : S.1 lw 2 = nI n) (hn : n < 400) (x1 x2 : Int32) : f_Lw_put lw x1 x2 S = some (pI (sA S lw 0 (nI n) (enc (x1, x2))) lw 2 (nI (n + 1))) := by
  unfold f_Lw_put f_Lw_put_b0
  rw [e, if_neg (show ¬ (Int32.ofNat 400) ≤ nI n from le_nI (by omega) (by decide) (by omega)), gIn_n hn (by decide), letS_e, letS_e, sA_1, e, nI_1]
  rfl
theorem Lw_await {n : Nat} (e : S.1 lw 3 = nI n) (hn : n < 64) (x : Int32) : f_Lw_await lw x S = some (pI (sA S lw 1 (nI n) x) lw 3 (nI (n + 1))) := by
  unfold f_Lw_await f_Lw_await_b0
  rw [e, if_neg (show ¬ (Int32.ofNat 64) ≤ nI n from le_nI (by omega) (by decide) (by omega)), gIn_n hn (by decide), letS_e, letS_e, sA_1, e, nI_1]
theorem Lw_rank (k : Int32) : f_Lw_rank k = some (nI (yRk k)) := by
  unfold f_Lw_rank f_Lw_rank_b0 yRk
  by_cases q : k = 40
  · rw [if_pos q, if_pos q]; rfl
  · rw [if_neg q, if_neg q]
    by_cases q1 : k = 43
    · rw [if_pos q1, if_pos (Or.inl q1)]; rfl
    · rw [if_neg q1]
      by_cases q2 : k = 45
      · rw [if_pos q2, if_pos (Or.inr q2)]; rfl
      · rw [if_neg q2, if_neg (fun z => z.elim q1 q2)]; rfl
/-- an item more -/
theorem LSt.put {W : List Int32} {C : Cd} (h : LSt lw p (W, C) S) (hn : p + C.length < 400) (x : Int32 × Int32) : Ok (fun S' => FJ lw p S S' ∧ LSt lw p (W, x :: C) S') (f_Lw_put lw x.1 x.2 S) := by
  obtain ⟨h1, h2, h3, h4⟩ := h
  have h3 : S.1 lw 2 = nI (p + C.length) := h3
  rw [Lw_put h3 hn]
  refine Ok.i ⟨(FJ.s0 (by omega) (by omega) _).tr (FJ.i (by decide) _), ?_, ?_, ?_, ?_, ?_⟩
  · rw [pI_1, if_neg (by omega)]; exact h1
  · rw [pI_2, sA_2, if_neg (by omega)]; exact h2
  · rw [pI_1, if_pos ⟨rfl, rfl⟩]; rfl
  · show (sA S lw 0 (nI (p + C.length)) (enc x)).2.1 lw 0 (p + C.length) = enc x
    rw [sA_2, if_pos ⟨rfl, rfl⟩, cl (by omega), upd_at, if_pos rfl]
  · show stC p ((sA S lw 0 (nI (p + C.length)) (enc x)).2.1 lw 0) C
    rw [sA_2, if_pos ⟨rfl, rfl⟩, cl (by omega)]
    exact stC_u C h4 (Nat.le_refl _)
theorem LSt.wait {W : List Int32} {C : Cd} (h : LSt lw p (W, C) S) (hn : W.length < 64) (k : Int32) : Ok (fun S' => FJ lw p S S' ∧ LSt lw p (k :: W, C) S') (f_Lw_await lw k S) := by
  obtain ⟨h1, h2, h3, h4⟩ := h
  have h1 : S.1 lw 3 = nI W.length := h1
  rw [Lw_await h1 hn]
  refine Ok.i ⟨(FJ.s1 _ _).tr (FJ.i (by decide) _), ?_, ⟨?_, ?_⟩, ?_, ?_⟩
  · rw [pI_1, if_pos ⟨rfl, rfl⟩]; rfl
  · rw [pI_2, sA_2, if_pos ⟨rfl, rfl⟩, cl (by omega), upd_at, if_pos rfl]
  · rw [pI_2, sA_2, if_pos ⟨rfl, rfl⟩, cl (by omega)]
    exact wtG_u _ h2 (Nat.le_refl _)
  · rw [pI_1, if_neg (by omega)]; exact h3
  · rw [pI_2, sA_2, if_neg (by omega)]; exact h4
theorem LSt.pop {x : Nat} (hx : x ≤ 2) : ∀ (W : List Int32) (C : Cd) (m : Nat) (S : Mem), LSt lw p (W, C) S → W.length ≤ 64 → p + C.length + W.length ≤ 400 → W.length < m → Ok (fun S' => FJ lw p S S' ∧ LSt lw p (yPop x W C) S') (f_Lw_putWaiting_l0 lw m (nI x) S)
  | [], C, m, S, h, hW, hC, hm => by
    obtain ⟨m, rfl⟩ : ∃ k, m = k + 1 := ⟨m - 1, by omega⟩
    show Ok _ (f_Lw_putWaiting_b0 lw (f_Lw_putWaiting_l0 lw m) (nI x) S)
    unfold f_Lw_putWaiting_b0
    rw [show S.1 lw 3 = 0 from h.1, if_pos (by decide)]
    exact Ok.i ⟨FJ.rf lw p S, h⟩
  | k :: W, C, m, S, h, hW, hC, hm => by
    have hW : W.length + 1 ≤ 64 := hW
    have hC : p + C.length + (W.length + 1) ≤ 400 := hC
    have hm : W.length + 1 < m := hm
    obtain ⟨m, rfl⟩ : ∃ k, m = k + 1 := ⟨m - 1, by omega⟩
    show Ok _ (f_Lw_putWaiting_b0 lw (f_Lw_putWaiting_l0 lw m) (nI x) S)
    obtain ⟨h1, ⟨h2, h2'⟩, h3, h4⟩ := id h
    have h1 : S.1 lw 3 = nI (W.length + 1) := h1
    have h2 : S.2.1 lw 1 W.length = k := h2
    unfold f_Lw_putWaiting_b0
    rw [h1, if_neg (nI_nle (by omega) (by omega)), nI_pred, gIn_n (show W.length < 64 by omega) (by decide), cl (show W.length < 4096 by omega), h2, Lw_rank, bind_e]
    by_cases q : yRk k < x
    · rw [if_pos (nI_lt q (by omega)), yPop, if_pos q]
      exact Ok.i ⟨FJ.rf lw p S, h⟩
    · have rb := yRk_b k
      rw [if_neg (nI_nlt (by omega) (by omega)), letS_e, yPop, if_neg q]
      have e3 : (pI S lw 3 (nI W.length)).1 lw 3 = nI W.length := by rw [pI_1, if_pos ⟨rfl, rfl⟩]
      rw [e3, gIn_n (show W.length < 64 by omega) (by decide), cl (show W.length < 4096 by omega)]
      have h5 : LSt lw p (W, C) (pI S lw 3 (nI W.length)) := ⟨e3, h2', by rw [pI_1, if_neg (by omega)]; exact h3, h4⟩
      rw [show (pI S lw 3 (nI W.length)).2.1 lw 1 W.length = k from h2]
      refine (h5.put (by omega) (k, 0)).b (fun S1 g1 => ?_)
      refine (LSt.pop hx W ((k, 0) :: C) m S1 g1.2 (by omega) (by show p + (C.length + 1) + W.length ≤ 400; omega) (by omega)).m (fun S2 g2 => ⟨((FJ.i (by decide) _).tr g1.1).tr g2.1, g2.2⟩)
theorem LSt.pop1 {y : List Int32 × Cd} (h : LSt lw p y S) (hW : y.1.length ≤ 64) (hC : p + y.2.length + y.1.length ≤ 400) : Ok (fun S' => FJ lw p S S' ∧ LSt lw p (yPop 1 y.1 y.2) S') (f_Lw_putWaiting lw 1 S) := LSt.pop (x := 1) (by omega) y.1 y.2 5000 S h hW hC (by omega)
theorem LSt.pop2 {y : List Int32 × Cd} (h : LSt lw p y S) (hW : y.1.length ≤ 64) (hC : p + y.2.length + y.1.length ≤ 400) : Ok (fun S' => FJ lw p S S' ∧ LSt lw p (yPop 2 y.1 y.2) S') (f_Lw_putWaiting lw 2 S) := LSt.pop (x := 2) (by omega) y.1 y.2 5000 S h hW hC (by omega)
/-- a token of a sum -/
theorem Lw_addS {o : Nat} {due : Bool} {y : List Int32 × Cd} {k x : Int32} {n : Nat} (hI : yI o due y) (h : LSt lw p y S) (ho : o ≤ 6) (hC : p + y.2.length + y.1.length < 400) (hk : (due = true ∧ (k = 40 ∨ isVl k)) ∨ (due = false ∧ (isSn k ∨ (k = 41 ∧ ∃ o', o = o' + 1)))) (hx : k = 48 → x = nI n) : Ok (fun S' => FJ lw p S S' ∧ LSt lw p (yOne k n y) S') (f_Lw_add lw k x S) := by
  have hl := hI.len ho
  unfold f_Lw_add f_Lw_add_b0
  rcases hk with ⟨rfl, hk⟩ | ⟨rfl, hk⟩
  · rcases hk with rfl | hk
    · rw [if_pos rfl]
      refine (h.wait (by omega) 40).b (fun S1 g => Ok.i ⟨g.1, ?_⟩)
      unfold yOne; rw [if_pos rfl]; exact g.2
    · by_cases q : k = 48
      · subst q
        simp only [if_neg (show ¬ (48 : Int32) = 40 by decide), if_neg (show ¬ (48 : Int32) = 41 by decide), if_neg (show ¬ (48 : Int32) = 42 by decide), if_neg (show ¬ (48 : Int32) = 43 by decide), if_neg (show ¬ (48 : Int32) = 45 by decide), if_neg (show ¬ (48 : Int32) = 47 by decide), if_true]
        rw [hx rfl]
        refine (h.put (by omega) (0, nI n)).b (fun S1 g => Ok.i ⟨g.1, ?_⟩)
        have : yOne 48 n y = (y.1, (0, nI n) :: y.2) := by
          unfold yOne
          simp only [show ¬ (48 : Int32) = 40 by decide, show ¬ (48 : Int32) = 41 by decide, show ¬ ((48 : Int32) = 42 ∨ (48 : Int32) = 47) by decide, show ¬ ((48 : Int32) = 43 ∨ (48 : Int32) = 45) by decide, if_false, if_true]
        rw [this]; exact g.2
      · have hv := hk.resolve_left q
        have ne : ∀ x : Int32, x < 142 → ¬ k = x := fun x hx z => hv.1 (by rw [z]; exact hx)
        rw [if_neg (ne 40 (by decide)), if_neg (ne 41 (by decide)), if_neg (ne 42 (by decide)), if_neg (ne 43 (by decide)), if_neg (ne 45 (by decide)), if_neg (ne 47 (by decide)), if_neg (ne 48 (by decide)), if_neg (ne 60 (by decide)), if_neg (ne 139 (by decide)), if_neg (ne 140 (by decide)), if_neg (ne 141 (by decide))]
        refine (h.put (by omega) (1, k - 142)).b (fun S1 g => Ok.i ⟨g.1, ?_⟩)
        rw [(hI.vari ho hv.1 hv.2 n).2]; exact g.2
  · rcases hk with hk | ⟨rfl, o', rfl⟩
    · have key : ∀ S1, FJ lw p S S1 → LSt lw p (yPop (yRk k) y.1 y.2) S1 → Ok (fun S' => FJ lw p S S' ∧ LSt lw p (yOne k n y) S') (Option.bind (f_Lw_await lw k S1) (fun q => some q)) := fun S1 f1 l1 => by
        obtain ⟨j1, j2, j3, j4, j5⟩ := hI.join hk n
        have lb : (yPop (yRk k) y.1 y.2).1.length ≤ 20 := by
          have a := yLen _ j5
          have b := yTop_b (yPop (yRk k) y.1 y.2).1
          omega
        refine (LSt.wait (W := (yPop (yRk k) y.1 y.2).1) (C := (yPop (yRk k) y.1 y.2).2) l1 (by omega) k).b (fun S2 g => Ok.i ⟨f1.tr g.1, ?_⟩)
        rw [j2]; exact g.2
      rcases hk with rfl | rfl | rfl | rfl
      · simp only [if_neg (show ¬ (43 : Int32) = 40 by decide), if_neg (show ¬ (43 : Int32) = 41 by decide), if_neg (show ¬ (43 : Int32) = 42 by decide), if_true]
        exact (h.pop1 (by omega) (by omega)).b (fun S1 g => key S1 g.1 g.2)
      · simp only [if_neg (show ¬ (45 : Int32) = 40 by decide), if_neg (show ¬ (45 : Int32) = 41 by decide), if_neg (show ¬ (45 : Int32) = 42 by decide), if_neg (show ¬ (45 : Int32) = 43 by decide), if_true]
        exact (h.pop1 (by omega) (by omega)).b (fun S1 g => key S1 g.1 g.2)
      · simp only [if_neg (show ¬ (42 : Int32) = 40 by decide), if_neg (show ¬ (42 : Int32) = 41 by decide), if_true]
        exact (h.pop2 (by omega) (by omega)).b (fun S1 g => key S1 g.1 g.2)
      · simp only [if_neg (show ¬ (47 : Int32) = 40 by decide), if_neg (show ¬ (47 : Int32) = 41 by decide), if_neg (show ¬ (47 : Int32) = 42 by decide), if_neg (show ¬ (47 : Int32) = 43 by decide), if_neg (show ¬ (47 : Int32) = 45 by decide), if_true]
        exact (h.pop2 (by omega) (by omega)).b (fun S1 g => key S1 g.1 g.2)
    · rw [if_neg (show ¬ (41 : Int32) = 40 by decide), if_pos rfl]
      obtain ⟨-, ⟨W', e1, e2⟩, e3⟩ := hI.shut n
      refine (h.pop1 (by omega) (by omega)).b (fun S1 g => ?_)
      obtain ⟨g1, g2, g3, g4, g5⟩ := g
      rw [e1] at g2 g3
      have l3 : (yPop 1 y.1 y.2).1.length = W'.length + 1 := by rw [e1]; rfl
      rw [show S1.1 lw 3 = nI (W'.length + 1) from g2, nI_pred, letS_e]
      have mx : jMmax 0 (nI W'.length) = nI W'.length := by
        unfold jMmax
        by_cases q : W'.length = 0
        · rw [q]; rfl
        · rw [if_pos (show (0 : Int32) < nI W'.length from nI_lt (a := 0) (by omega) (by omega))]
      rw [mx, e2]
      exact Ok.i ⟨g1.tr (FJ.i (by decide) _), by rw [pI_1, if_pos ⟨rfl, rfl⟩], g3.2, by rw [pI_1, if_neg (by omega)]; exact g4, g5⟩
