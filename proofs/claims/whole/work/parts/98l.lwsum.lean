/-! READ: the class goes through a sum's tokens. -/
variable {kd : Nat → Int32} {pl vl : Nat → Nat} {Q lw p t t0 : Nat} {S S' : Mem}
def FN3 (lw p : Nat) (S S' : Mem) : Prop := (∀ o, o ≠ lw → o ≠ 3 → S'.1 o = S.1 o) ∧ (∀ k, k ≠ 3 → S'.1 3 k = S.1 3 k) ∧ (∀ o f, ¬ (o = lw ∧ (f = 0 ∨ f = 1)) → S'.2.1 o f = S.2.1 o f) ∧ (∀ i, i < p → S'.2.1 lw 0 i = S.2.1 lw 0 i) ∧ S'.2.2 = S.2.2
theorem FN3.rf (lw p : Nat) (S : Mem) : FN3 lw p S S := ⟨fun _ _ _ => rfl, fun _ _ => rfl, fun _ _ _ => rfl, fun _ _ => rfl, rfl⟩
theorem FN3.tr {p' : Nat} {A B C : Mem} (h1 : FN3 lw p A B) (h2 : FN3 lw p' B C) (hp : p ≤ p') : FN3 lw p A C := ⟨fun o a b => (h2.1 o a b).trans (h1.1 o a b), fun k h => (h2.2.1 k h).trans (h1.2.1 k h), fun o f h => (h2.2.2.1 o f h).trans (h1.2.2.1 o f h), fun i h => (h2.2.2.2.1 i (by omega)).trans (h1.2.2.2.1 i h), h2.2.2.2.2.trans h1.2.2.2.2⟩
theorem FJ.n3 (h : FJ lw p S S') (h3 : lw ≠ 3) : FN3 lw p S S' := ⟨fun o a _ => h.1 o a, fun k _ => by rw [h.1 3 (by omega)], h.2.2.1, h.2.2.2.1, h.2.2.2.2⟩
theorem FN3.at3 (x : Int32) : FN3 lw p S (pI S 3 3 x) := ⟨fun o _ b => pI_o b, fun k hk => by rw [pI_1, if_neg (by omega)], fun _ _ _ => rfl, fun _ _ => rfl, rfl⟩
theorem FN3.i (k : Nat) (x : Int32) (h3 : lw ≠ 3) : FN3 lw p S (pI S lw k x) := ⟨fun o a _ => pI_o a, fun k' _ => by rw [pI_1, if_neg (by omega)], fun _ _ _ => rfl, fun _ _ => rfl, rfl⟩
theorem FN3.s0 {j : Nat} (hj : p ≤ j) (hj2 : j < 4096) (x : Int32) : FN3 lw p S (sA S lw 0 (nI j) x) := ⟨fun _ _ _ => rfl, fun _ _ => rfl, fun o f h => by rw [sA_2, if_neg (fun z => h ⟨z.1, Or.inl z.2⟩)], fun i hi => by rw [sA_2, if_pos ⟨rfl, rfl⟩, cl hj2, upd_at, if_neg (by omega)], rfl⟩
theorem TC.n3 (h : TC kd pl vl Q S) (hf : FN3 lw p S S') (hlw : 20 ≤ lw) : TC kd pl vl Q S' := fun i hi => by
  rw [hf.2.2.1 1 3 (by omega), hf.2.2.1 1 4 (by omega), hf.2.2.2.2]; exact h i hi
theorem Mn_step (E : EV kd pl vl Q) {m i : Nat} {R P : Mem → Prop} (hT : TC kd pl vl Q S) (e3 : S.1 3 3 = nI t) (ht : t ≤ Q) (hi : i ≤ t) (hk0 : ¬ kd t = 59) (hk1 : ¬ kd t = 0) (hadd : ∀ x, (kd t = 48 → x = nI (vl t)) → Ok P (f_Lw_add lw (kd t) x S)) (hP : ∀ S1, P S1 → S1.1 3 3 = nI t ∧ Ok R (f_Mn_putLaw_l16 lw m (nI (i + 1)) (pI S1 3 3 (nI (t + 1))))) : Ok R (f_Mn_putLaw_l16 lw (m + 1) (nI i) S) := by
  have hQ := E.1.1
  show Ok R (f_Mn_putLaw_b16 lw (f_Mn_putLaw_l16 lw m) (nI i) S)
  unfold f_Mn_putLaw_b16
  rw [if_neg (show ¬ (400 : Int32) < nI i from nI_nlt (a := 400) (by omega) (by decide)), e3, Tp_kindAt hQ hT ht, bind_e, if_neg hk0, bind_e, if_neg hk1, bind_e]
  obtain ⟨x, ex, ev⟩ : ∃ x, f_Tp_valueAt (nI t) S = some x ∧ (kd t = 48 → x.toInt32 = nI (vl t)) := by
    by_cases q : kd t = 48
    · exact ⟨_, Tp_valueAt hQ hT ht (Or.inr q), fun _ => lN_i _⟩
    · obtain ⟨x, ex⟩ := Tp_valueAt2 (S := S) hQ ht
      exact ⟨x, ex, fun z => absurd z q⟩
  rw [ex, bind_e]
  refine (hadd _ ev).b (fun S1 g1 => ?_)
  obtain ⟨a1, a2⟩ := hP S1 g1
  rw [a1, letS_e, nI_1, nI_1]
  exact a2
theorem Mn_sum (E : EV kd pl vl Q) (hlw : 20 ≤ lw) {R : Mem → Prop} : ∀ (n o : Nat) (due : Bool) (t m i : Nat) (S : Mem), (smF kd n o due t).1 = 0 → Q + 2 - t ≤ n → Q + 2 - t ≤ m → i ≤ t → t ≤ Q → o ≤ 6 → TC kd pl vl Q S → S.1 3 3 = nI t → t0 ≤ t → yI o due (yAll kd vl t0 (t - t0)) → LSt lw p (yAll kd vl t0 (t - t0)) S → (yAll kd vl t0 (t - t0)).1.length + (yAll kd vl t0 (t - t0)).2.length ≤ t - t0 → p ≤ t0 → (∀ (m' i' t' : Nat) (S' : Mem), t' = (smF kd n o due t).2 → Q + 2 - t' ≤ m' → i' ≤ t' → t' ≤ Q → TC kd pl vl Q S' → S'.1 3 3 = nI t' → t0 ≤ t' → yI 0 false (yAll kd vl t0 (t' - t0)) → LSt lw p (yAll kd vl t0 (t' - t0)) S' → (yAll kd vl t0 (t' - t0)).1.length + (yAll kd vl t0 (t' - t0)).2.length ≤ t' - t0 → FN3 lw p S S' → S'.1 lw 4 = S.1 lw 4 → Ok R (f_Mn_putLaw_l16 lw m' (nI i') S')) → Ok R (f_Mn_putLaw_l16 lw m (nI i) S) := by
  intro n
  induction n with
  | zero => intro o due t m i S _ h1 _ _ h2; omega
  | succ n ih =>
    intro o due t m i S hz hn hm hi ht ho hT e3 h0 hI hL hl hp K
    have hQ := E.1.1
    obtain ⟨m, rfl⟩ : ∃ k, m = k + 1 := ⟨m - 1, by omega⟩
    have hlen := hI.len ho
    -- one token more
    have one : ∀ (k : Int32) (o' : Nat) (due' : Bool), kd t = k → ¬ k = 59 → ¬ (k = 0 ∨ k = 1) → (tk kd k (0, t)).1 = 0 → ((due = true ∧ (k = 40 ∨ isVl k)) ∨ (due = false ∧ (isSn k ∨ (k = 41 ∧ ∃ o', o = o' + 1)))) → o' ≤ 6 → yI o' due' (yOne k (vl t) (yAll kd vl t0 (t - t0))) → (yOne k (vl t) (yAll kd vl t0 (t - t0))).1.length + (yOne k (vl t) (yAll kd vl t0 (t - t0))).2.length ≤ t - t0 + 1 → smF kd (n + 1) o due t = smF kd n o' due' (t + 1) → Ok R (f_Mn_putLaw_l16 lw (m + 1) (nI i) S) := by
      intro k o' due' ek k59 k01 z hk ho' hI' hl' es
      obtain ⟨-, -, lt, e1⟩ := tk_0 z
      have lt : t < 400 := lt
      have e1 : tk kd k (0, t) = (0, t + 1) := e1
      have tq := tkQ E.1 k01 ht e1
      have ys := yAll_s (kd := kd) (vl := vl) h0
      rw [ek] at ys
      rw [es] at hz K
      refine Mn_step (P := fun S1 => FJ lw p S S1 ∧ LSt lw p (yOne k (vl t) (yAll kd vl t0 (t - t0))) S1) E hT e3 ht hi (by rw [ek]; exact k59) (by rw [ek]; exact fun z => k01 (Or.inl z)) (fun x hx => by rw [ek]; rw [ek] at hx; exact Lw_addS hI hL ho (by omega) hk hx) (fun S1 g1 => ?_)
      obtain ⟨f1, l1⟩ := g1
      refine ⟨by rw [f1.1 3 (by omega)]; exact e3, ?_⟩
      have F1 : FN3 lw p S (pI S1 3 3 (nI (t + 1))) := (f1.n3 (by omega)).tr (FN3.at3 _) (Nat.le_refl p)
      rw [← ys] at l1 hI' hl'
      refine ih o' due' (t + 1) m (i + 1) _ hz (by omega) (by omega) (by omega) tq ho' (hT.n3 F1 hlw) (by rw [pI_1, if_pos ⟨rfl, rfl⟩]) (by omega) hI' ?_ (by omega) hp (fun m' i' t' S' a0 a1 a2 a3 a4 a5 a6 a7 a8 a9 a10 a11 => ?_)
      · obtain ⟨l2, l3, l4, l5⟩ := l1
        exact ⟨by rw [pI_1, if_neg (by omega)]; exact l2, l3, by rw [pI_1, if_neg (by omega)]; exact l4, l5⟩
      · refine K m' i' t' S' a0 a1 a2 a3 a4 a5 a6 a7 a8 a9 (F1.tr a10 (Nat.le_refl p)) ?_
        rw [a11, pI_1, if_neg (by omega)]; exact f1.2.1
    cases due with
    | true =>
      by_cases q : kd t = 40
      · have es0 : smF kd (n + 1) o true t = (if o + 1 ≤ 6 then (if (tk kd 40 (0, t)).1 = 0 then smF kd n (o + 1) true (t + 1) else tk kd 40 (0, t)) else (2, t)) := by rw [smF_t, if_pos q]
        by_cases q2 : o + 1 ≤ 6
        · rw [if_pos q2] at es0
          by_cases q3 : (tk kd 40 (0, t)).1 = 0
          · rw [if_pos q3] at es0
            refine one 40 (o + 1) true q (by decide) (by decide) q3 (Or.inl ⟨rfl, Or.inl rfl⟩) q2 (hI.opn _) ?_ es0
            unfold yOne; rw [if_pos rfl]; simp only [List.length_cons]; omega
          · rw [if_neg q3] at es0; rw [es0] at hz; exact absurd hz q3
        · rw [if_neg q2] at es0; rw [es0] at hz; exact absurd hz (show ¬ (2 : Nat) = 0 by decide)
      · by_cases q1 : isVl (kd t)
        · have es0 : smF kd (n + 1) o true t = (if (tk kd (kd t) (0, t)).1 = 0 then smF kd n o false (t + 1) else tk kd (kd t) (0, t)) := by rw [smF_t, if_neg q, if_pos q1]
          by_cases q3 : (tk kd (kd t) (0, t)).1 = 0
          · rw [if_pos q3] at es0
            have n59 : ∀ k : Int32, isVl k → ¬ k = 59 ∧ ¬ (k = 0 ∨ k = 1) := fun k hk => by
              constructor
              · rintro rfl; revert hk; decide
              · rintro (rfl | rfl) <;> (revert hk; decide)
            by_cases q4 : kd t = 48
            · rw [q4] at q3 q1
              refine one 48 o false q4 (by decide) (by decide) q3 (Or.inl ⟨rfl, Or.inr (Or.inl rfl)⟩) ho (hI.val ho (E.2.2.2.2.1 t ht q4)) ?_ es0
              have : yOne 48 (vl t) (yAll kd vl t0 (t - t0)) = ((yAll kd vl t0 (t - t0)).1, (0, nI (vl t)) :: (yAll kd vl t0 (t - t0)).2) := by
                unfold yOne
                simp only [show ¬ (48 : Int32) = 40 by decide, show ¬ (48 : Int32) = 41 by decide, show ¬ ((48 : Int32) = 42 ∨ (48 : Int32) = 47) by decide, show ¬ ((48 : Int32) = 43 ∨ (48 : Int32) = 45) by decide, if_false, if_true]
              rw [this]; simp only [List.length_cons]; omega
            · have hv := q1.resolve_left q4
              obtain ⟨v1, v2⟩ := hI.vari ho hv.1 hv.2 (vl t)
              refine one (kd t) o false rfl (n59 _ q1).1 (n59 _ q1).2 q3 (Or.inl ⟨rfl, Or.inr q1⟩) ho v1 ?_ es0
              rw [v2]; simp only [List.length_cons]; omega
          · rw [if_neg q3] at es0; rw [es0] at hz; exact absurd hz q3
        · have es0 : smF kd (n + 1) o true t = (1, t) := by rw [smF_t, if_neg q, if_neg q1]
          rw [es0] at hz; exact absurd hz (show ¬ (1 : Nat) = 0 by decide)
    | false =>
      by_cases q : isSn (kd t)
      · have es0 : smF kd (n + 1) o false t = (if (tk kd (kd t) (0, t)).1 = 0 then smF kd n o true (t + 1) else tk kd (kd t) (0, t)) := by rw [smF_n, if_pos q]
        by_cases q3 : (tk kd (kd t) (0, t)).1 = 0
        · rw [if_pos q3] at es0
          have n59 : ∀ k : Int32, isSn k → ¬ k = 59 ∧ ¬ (k = 0 ∨ k = 1) := fun k hk => by
            rcases hk with rfl | rfl | rfl | rfl <;> decide
          obtain ⟨j1, j2, j3, j4, j5⟩ := hI.join q (vl t)
          refine one (kd t) o true rfl (n59 _ q).1 (n59 _ q).2 q3 (Or.inr ⟨rfl, Or.inl q⟩) ho j1 ?_ es0
          rw [j2]; simp only [List.length_cons]; omega
        · rw [if_neg q3] at es0; rw [es0] at hz; exact absurd hz q3
      · by_cases q1 : o = 0
        · have es0 : smF kd (n + 1) o false t = (0, t) := by rw [smF_n, if_neg q, if_pos q1]
          subst q1
          rw [es0] at K
          exact K (m + 1) i t S rfl (by omega) hi ht hT e3 h0 hI hL hl (FN3.rf lw p S) rfl
        · by_cases q2 : kd t = 41
          · have es0 : smF kd (n + 1) o false t = (if (tk kd 41 (0, t)).1 = 0 then smF kd n (o - 1) false (t + 1) else tk kd 41 (0, t)) := by rw [smF_n, if_neg q, if_neg q1, if_pos q2]
            by_cases q3 : (tk kd 41 (0, t)).1 = 0
            · rw [if_pos q3] at es0
              obtain ⟨o', eo⟩ : ∃ o', o = o' + 1 := ⟨o - 1, by omega⟩
              rw [eo] at hI
              obtain ⟨i1, ⟨W', i2, i3⟩, i4⟩ := hI.shut (vl t)
              refine one 41 (o - 1) false q2 (by decide) (by decide) q3 (Or.inr ⟨rfl, Or.inr ⟨rfl, o', eo⟩⟩) (by omega) (by rw [eo]; exact i1) ?_ es0
              rw [i2] at i4
              have i4 : W'.length + 1 + (yPop 1 (yAll kd vl t0 (t - t0)).1 (yAll kd vl t0 (t - t0)).2).2.length = (yAll kd vl t0 (t - t0)).1.length + (yAll kd vl t0 (t - t0)).2.length := i4
              rw [i3]; simp only; omega
            · rw [if_neg q3] at es0; rw [es0] at hz; exact absurd hz q3
          · have es0 : smF kd (n + 1) o false t = (1, t) := by rw [smF_n, if_neg q, if_neg q1, if_neg q2]
            rw [es0] at hz; exact absurd hz (show ¬ (1 : Nat) = 0 by decide)
/-- a sum, whole: what waits is not yet out -/
theorem Mn_sumP (E : EV kd pl vl Q) (hlw : 20 ≤ lw) {R : Mem → Prop} {m i : Nat} (hz : (smP kd (0, t)).1 = 0) (hm : Q + 2 - t ≤ m) (hi : i ≤ t) (ht : t ≤ Q) (hT : TC kd pl vl Q S) (e3 : S.1 3 3 = nI t) (w3 : S.1 lw 3 = 0) (w2 : S.1 lw 2 = nI p) (hp : p ≤ t) (K : ∀ (m' i' t' : Nat) (S' : Mem) (y : List Int32 × Cd), smP kd (0, t) = (0, t') → Q + 2 - t' ≤ m' → i' ≤ t' → t' ≤ Q → TC kd pl vl Q S' → S'.1 3 3 = nI t' → LSt lw p y S' → yPop 1 y.1 y.2 = ([], yCode kd vl t t') → cW (yCode kd vl t t') → y.1.length ≤ 64 → p + y.2.length + y.1.length ≤ t' → (yCode kd vl t t').length = y.1.length + y.2.length → FN3 lw p S S' → S'.1 lw 4 = S.1 lw 4 → Ok R (f_Mn_putLaw_l16 lw m' (nI i') S')) : Ok R (f_Mn_putLaw_l16 lw m (nI i) S) := by
  have hQ := E.1.1
  have e0 : yAll kd vl t (t - t) = ([], []) := by rw [Nat.sub_self]; rfl
  rw [smP_0] at hz K
  refine Mn_sum (t0 := t) (p := p) E hlw 402 0 true t m i S hz (by omega) hm hi ht (by omega) hT e3 (Nat.le_refl _) (by rw [e0]; exact ⟨trivial, trivial, rfl, rfl⟩) (by rw [e0]; exact ⟨w3, trivial, w2, trivial⟩) (by rw [e0]; exact Nat.zero_le _) hp (fun m' i' t' S' a0 a1 a2 a3 a4 a5 a6 a7 a8 a9 a10 a11 => ?_)
  obtain ⟨d1, d2, d3, d4⟩ := a7.done
  have ec : yCode kd vl t t' = (yPop 1 (yAll kd vl t (t' - t)).1 (yAll kd vl t (t' - t)).2).2 := rfl
  refine K m' i' t' S' (yAll kd vl t (t' - t)) (Prod.ext hz a0.symm) a1 a2 a3 a4 a5 a8 (Prod.ext d1 ec.symm) ⟨by rw [ec]; exact d2, by rw [ec]; exact d3⟩ (by have := a7.len (by omega); omega) (by omega) (by rw [ec]; exact d4) a10 a11
