/-! READ: the reference's sums. -/
variable {kd : Nat → Int32} {pl vl : Nat → Nat} {Q v cb : Nat} {S0 Sb : Mem} {c : Nat → Nat} {p p' : PS} {l : NLt} {T : TX} {S S' : Mem}
def wtG (g : Int32 → Int32) (f : Nat → Int32) : List Int32 → Prop
  | [] => True
  | k :: W => f W.length = g k ∧ wtG g f W
theorem wtG_u {g : Int32 → Int32} {f : Nat → Int32} {j : Nat} {x : Int32} : ∀ W : List Int32, wtG g f W → W.length ≤ j → wtG g (upd f j x) W
  | [], _, _ => trivial
  | k :: W, h, hj => by
    have hj : W.length + 1 ≤ j := hj
    refine ⟨?_, wtG_u W h.2 (by omega)⟩
    rw [upd_at, if_neg (by omega)]; exact h.1
def cdG (g : Int32 → Int32) (a : Nat) (f1 f2 : Nat → Int32) : Cd → Prop
  | [] => True
  | x :: C => f1 (a + C.length) = g x.1 ∧ f2 (a + C.length) = x.2 ∧ cdG g a f1 f2 C
theorem cdG_u {g : Int32 → Int32} {a : Nat} {f1 f2 : Nat → Int32} {j : Nat} {x y : Int32} : ∀ C : Cd, cdG g a f1 f2 C → a + C.length ≤ j → cdG g a (upd f1 j x) (upd f2 j y) C
  | [], _, _ => trivial
  | k :: C, h, hj => by
    have hj : a + (C.length + 1) ≤ j := hj
    refine ⟨?_, ?_, cdG_u C h.2.2 (by omega)⟩
    · rw [upd_at, if_neg (by omega)]; exact h.1
    · rw [upd_at, if_neg (by omega)]; exact h.2.1
def mOp (k : Int32) : Int32 := if k = 43 then 2 else if k = 45 then 3 else if k = 42 then 4 else if k = 47 then 5 else k
/-- of laws only code from cb on is changed -/
def LQ (cb : Nat) (S S' : Mem) : Prop := (∀ f, (40 ≤ f ∧ f ≤ 47) → S'.2.1 0 f = S.2.1 0 f) ∧ S'.1 0 42 = S.1 0 42 ∧ ∀ f i, (f = 49 ∨ f = 50) → i < cb → S'.2.1 0 f i = S.2.1 0 f i
theorem LQ.rf (cb : Nat) (S : Mem) : LQ cb S S := ⟨fun _ _ => rfl, rfl, fun _ _ _ _ => rfl⟩
def RE (kd : Nat → Int32) (pl vl : Nat → Nat) (Q v : Nat) (S0 Sb : Mem) (cb : Nat) (c : Nat → Nat) (p : PS) (l : NLt) (T : TX) (S : Mem) : Prop := RQ kd pl vl Q v S0 c p l S ∧ txM (1 - v) S = T ∧ LQ cb Sb S
theorem RE.pf (h : RE kd pl vl Q v S0 Sb cb c p l T S) (hf : PF S S') (hm : MP pl Q p' S') (hw : wOk p') : RE kd pl vl Q v S0 Sb cb c p' l T S' := ⟨h.1.pf hf hm hw, (txM_e (by rw [hf.2])).trans h.2.1, by
  unfold LQ
  rw [hf.2, hf.1 42 (by unfold reg; omega)]; exact h.2.2⟩
theorem RQ.i (h : RQ kd pl vl Q v S0 c p l S) {k : Nat} (hk : k = 12 ∨ k = 52 ∨ k = 48 ∨ k = 42) (x : Int32) : RQ kd pl vl Q v S0 c p l (pI S 0 k x) := by
  obtain ⟨h1, h2, h3, h4, h5, h6, h7, h8⟩ := h
  refine ⟨h1.e (fun k' hk' => by unfold reg at hk'; rw [pI_1, if_neg (by omega)]), h2, ?_, h4.tr (LVm.i (by unfold frI; omega) x), ?_, h6, h7, h8⟩
  · unfold MN; rw [pI_1, if_neg (by omega)]; exact h3
  · rw [pI_1, if_neg (by omega)]; exact h5
theorem RQ.w (h : RQ kd pl vl Q v S0 c p l S) {f : Nat} (hf : f = 51 ∨ (40 ≤ f ∧ f ≤ 50)) (i x : Int32) (hl : LVm v S (sA S 0 f i x)) : RQ kd pl vl Q v S0 c p l (sA S 0 f i x) := by
  obtain ⟨h1, h2, h3, h4, h5, h6, h7, h8⟩ := h
  refine ⟨h1.e (fun _ _ => rfl), h2, ?_, h4.tr hl, h5, h6, fun j hj => ?_, ?_⟩
  · unfold MN
    rw [sA_1, sA_2, if_neg (by omega), sA_2, if_neg (by omega), sA_3]; exact h3
  · rw [sA_2, if_neg (by omega), sA_2, if_neg (by omega), sA_2, if_neg (by omega), sA_3]; exact h7 j hj
  · unfold cnM
    rw [sA_2, if_neg (by omega), sA_2, if_neg (by omega), sA_2, if_neg (by omega), sA_2, if_neg (by omega)]; exact h8
theorem RE.i (h : RE kd pl vl Q v S0 Sb cb c p l T S) {k : Nat} (hk : k = 12 ∨ k = 52 ∨ k = 48) (x : Int32) : RE kd pl vl Q v S0 Sb cb c p l T (pI S 0 k x) := ⟨h.1.i (by omega) x, h.2.1, h.2.2.1, by rw [pI_1, if_neg (by omega)]; exact h.2.2.2.1, h.2.2.2.2⟩
theorem RE.w (h : RE kd pl vl Q v S0 Sb cb c p l T S) (i x : Int32) : RE kd pl vl Q v S0 Sb cb c p l T (sA S 0 51 i x) := by
  refine ⟨h.1.w (Or.inl rfl) i x (LVm.w (by omega) i x), ?_, fun f hf => ?_, h.2.2.2.1, fun f j hf hj => ?_⟩
  · rw [txM_w (by omega)]; exact h.2.1
  · rw [sA_2, if_neg (by omega)]; exact h.2.2.1 f hf
  · rw [sA_2, if_neg (by omega)]; exact h.2.2.2.2 f j hf hj
theorem RE.o (h : RE kd pl vl Q v S0 Sb cb c p l T S) {f j : Nat} (hf : f = 49 ∨ f = 50) (hj : cb ≤ j) (h1 : 420 * (1 - v) ≤ j) (h2 : j < 420 * (1 - v) + 420) (x : Int32) : RE kd pl vl Q v S0 Sb cb c p l T (sA S 0 f (nI j) x) := by
  have hv : v < 2 := h.1.2.2.2.2.2.1
  have es : sdF f = 420 := by rcases hf with rfl | rfl <;> decide
  refine ⟨h.1.w (by omega) _ x ?_, ?_, fun f' hf' => ?_, h.2.2.2.1, fun f' i' hf' hi' => ?_⟩
  · have := LVm.s (S := S) (f := f) (i := j - 420 * (1 - v)) hv (by omega) (by omega) x
    rw [es, show 420 * (1 - v) + (j - 420 * (1 - v)) = j by omega] at this
    exact this
  · rw [txM_w (by omega)]; exact h.2.1
  · rw [sA_2, if_neg (by omega)]; exact h.2.2.1 f' hf'
  · rw [sA_2]
    by_cases e : (0 : Nat) = 0 ∧ f' = f
    · rw [if_pos e, cl (by omega), upd_at, if_neg (by omega)]
      rw [← e.2]; exact h.2.2.2.2 f' i' hf' hi'
    · rw [if_neg e]; exact h.2.2.2.2 f' i' hf' hi'
def YM (cb : Nat) (y : List Int32 × Cd) (S : Mem) : Prop := S.1 0 52 = nI y.1.length ∧ wtG mkK (S.2.1 0 51) y.1 ∧ S.1 0 48 = nI (cb + y.2.length) ∧ cdG mOp cb (S.2.1 0 49) (S.2.1 0 50) y.2
theorem YM.pf {y : List Int32 × Cd} (h : YM cb y S) (hf : PF S S') : YM cb y S' := by
  unfold YM
  rw [hf.1 52 (by unfold reg; omega), hf.1 48 (by unfold reg; omega), hf.2]; exact h
/-- one item out -/
theorem RE.emit (h : RE kd pl vl Q v S0 Sb cb c p l T S) {W : List Int32} {C : Cd} (hy : YM cb (W, C) S) (h1 : 420 * (1 - v) ≤ cb) (h2 : cb + C.length < 420 * (1 - v) + 420) {k b : Int32} : Ok (fun S' => RE kd pl vl Q v S0 Sb cb c p l T S' ∧ YM cb (W, (k, b) :: C) S' ∧ S'.1 0 12 = S.1 0 12) (f_Mo_emit (mOp k) b S) := by
  obtain ⟨y1, y2, y3, y4⟩ := hy
  have hv : v < 2 := h.1.2.2.2.2.2.1
  have y3 : S.1 0 48 = nI (cb + C.length) := y3
  unfold f_Mo_emit f_Mo_emit_b0
  rw [y3, gIn_n (show cb + C.length < 840 by omega) (by decide), letS_e]
  rw [show (sA S 0 49 (nI (cb + C.length)) (mOp k)).1 0 48 = nI (cb + C.length) from y3, gIn_n (show cb + C.length < 840 by omega) (by decide), letS_e]
  rw [show (sA (sA S 0 49 (nI (cb + C.length)) (mOp k)) 0 50 (nI (cb + C.length)) b).1 0 48 = nI (cb + C.length) from y3, letS_e, nI_1]
  refine Ok.i ⟨((h.o (Or.inl rfl) (by omega) (by omega) h2 (mOp k)).o (Or.inr rfl) (by omega) (by omega) h2 b).i (Or.inr (Or.inr rfl)) _, ⟨y1, y2, rfl, ?_⟩, rfl⟩
  have e : (nI (cb + C.length)).toNatClampNeg = cb + C.length := cl (by omega)
  refine ⟨?_, ?_, ?_⟩
  · show (upd (S.2.1 0 49) (nI (cb + C.length)).toNatClampNeg (mOp k)) (cb + C.length) = _
    rw [e, upd_at, if_pos rfl]
  · show (upd (S.2.1 0 50) (nI (cb + C.length)).toNatClampNeg b) (cb + C.length) = _
    rw [e, upd_at, if_pos rfl]
  · show cdG mOp cb (upd (S.2.1 0 49) (nI (cb + C.length)).toNatClampNeg (mOp k)) (upd (S.2.1 0 50) (nI (cb + C.length)).toNatClampNeg b) C
    rw [e]
    exact cdG_u C y4 (Nat.le_refl _)
theorem out42 {k : Int32} (hk : yIs k) (K : Int32 → Mem → Option Mem) (x1 : Int32) (S : Mem) : f_Mo_comesOut_b42 K x1 (mkK k) S = Option.bind (f_Mo_emit (mOp k) 0 (pI S 0 52 (S.1 0 52 - 1))) (fun q => K x1 q) := by
  unfold f_Mo_comesOut_b42 f_Mo_comesOut_b84
  rw [letS_e]
  rcases hk with rfl | rfl | rfl | rfl <;> rfl
theorem RE.out {x : Nat} (hx : x = 1 ∨ x = 2) (h1 : 420 * (1 - v) ≤ cb) : ∀ (W : List Int32) (C : Cd) (m : Nat) (S : Mem), RE kd pl vl Q v S0 Sb cb c p l T S → YM cb (W, C) S → yOk W → W.length ≤ 64 → cb + C.length + W.length ≤ 420 * (1 - v) + 420 → W.length < m → Ok (fun S' => RE kd pl vl Q v S0 Sb cb c p l T S' ∧ YM cb (yPop x W C) S' ∧ S'.1 0 12 = S.1 0 12) (f_Mo_comesOut_l0 m (nI (x - 1)) S)
  | [], C, m, S, h, hy, _, _, _, hm => by
    obtain ⟨m, rfl⟩ : ∃ k, m = k + 1 := ⟨m - 1, by omega⟩
    show Ok _ (f_Mo_comesOut_b0 (f_Mo_comesOut_l0 m) (nI (x - 1)) S)
    unfold f_Mo_comesOut_b0
    rw [hy.1, if_pos (show nI ([] : List Int32).length ≤ 0 from by decide)]
    exact Ok.i ⟨h, hy, rfl⟩
  | k :: W, C, m, S, h, hy, ho, hl, hc, hm => by
    obtain ⟨m, rfl⟩ : ∃ k, m = k + 1 := ⟨m - 1, by omega⟩
    have hl : W.length + 1 ≤ 64 := hl
    have hc : cb + C.length + (W.length + 1) ≤ 420 * (1 - v) + 420 := hc
    have hm : W.length + 1 < m + 1 := hm
    obtain ⟨y1, ⟨y2, y2'⟩, y3, y4⟩ := id hy
    have y1 : S.1 0 52 = nI (W.length + 1) := y1
    show Ok _ (f_Mo_comesOut_b0 (f_Mo_comesOut_l0 m) (nI (x - 1)) S)
    unfold f_Mo_comesOut_b0
    rw [y1, if_neg (nI_nle (by omega) (by omega)), nI_pred, gIn_n (show W.length < 64 by omega) (by decide), letS_e, cl (show W.length < 4096 by omega), y2]
    unfold yPop
    have stop : yRk k < x → Ok (fun S' => RE kd pl vl Q v S0 Sb cb c p l T S' ∧ YM cb (if yRk k < x then (k :: W, C) else yPop x W ((k, 0) :: C)) S' ∧ S'.1 0 12 = S.1 0 12) (some S) := fun q => Ok.i ⟨h, by rw [if_pos q]; exact hy, rfl⟩
    have go : yIs k → ¬ yRk k < x → Ok (fun S' => RE kd pl vl Q v S0 Sb cb c p l T S' ∧ YM cb (if yRk k < x then (k :: W, C) else yPop x W ((k, 0) :: C)) S' ∧ S'.1 0 12 = S.1 0 12) (f_Mo_comesOut_b42 (f_Mo_comesOut_l0 m) (nI (x - 1)) (mkK k) S) := fun hk q => by
      rw [out42 hk, if_neg q, y1, nI_pred]
      have hS : RE kd pl vl Q v S0 Sb cb c p l T (pI S 0 52 (nI W.length)) := h.i (Or.inr (Or.inl rfl)) _
      have hY : YM cb (W, C) (pI S 0 52 (nI W.length)) := ⟨rfl, y2', y3, y4⟩
      refine (hS.emit hY h1 (by omega) (k := k) (b := 0)).b (fun S2 h2 => ?_)
      refine (RE.out hx h1 W ((k, 0) :: C) m S2 h2.1 h2.2.1 ho.2 (by omega) (by show cb + (C.length + 1) + W.length ≤ _; omega) (by omega)).m (fun S3 h3 => ⟨h3.1, h3.2.1, h3.2.2.trans h2.2.2⟩)
    rcases ho.1 with e | ⟨e, -⟩
    · subst e
      rw [if_pos (show mkK 40 = 6 from by decide)]
      exact stop (by unfold yRk; rw [if_pos rfl]; omega)
    · have ne6 : ¬ mkK k = 6 := by rcases e with rfl | rfl | rfl | rfl <;> decide
      rw [if_neg ne6]
      rcases hx with rfl | rfl
      · rw [if_pos (show nI (1 - 1) = 0 from rfl)]
        exact go e (by have := yIs_r e; omega)
      · rw [if_neg (show ¬ nI (2 - 1) = 0 by decide)]
        rcases e with rfl | rfl | rfl | rfl
        · rw [if_neg (show ¬ mkK 42 = 8 by decide), if_neg (show ¬ mkK 42 = 9 by decide)]
          exact go (by decide) (by decide)
        · rw [if_neg (show ¬ mkK 47 = 8 by decide), if_neg (show ¬ mkK 47 = 9 by decide)]
          exact go (by decide) (by decide)
        · rw [if_pos (show mkK 43 = 8 by decide)]
          exact stop (by decide)
        · rw [if_neg (show ¬ mkK 45 = 8 by decide), if_pos (show mkK 45 = 9 by decide)]
          exact stop (by decide)
