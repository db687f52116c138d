/-! READ: the class clears a text, measures it, seeks its meaning. -/
variable {kd : Nat → Int32} {pl vl : Nat → Nat} {Q t tx : Nat} {S S' : Mem} {c : Nat → Nat} {l : NLt} {T : TX} {G : LwG} {w : Nat × Nat}
theorem sumF_bit {f : Nat → Int32} {s : Nat} : ∀ n, ∃ p, p ≤ n ∧ sumF (fun m => bitOf (f m) s) n = nI p
  | 0 => ⟨0, Nat.le_refl _, rfl⟩
  | n + 1 => by
    obtain ⟨p, hp, e⟩ := sumF_bit (f := f) (s := s) n
    show ∃ q, q ≤ n + 1 ∧ sumF (fun m => bitOf (f m) s) n + bitOf (f n) s = nI q
    rw [e]
    rcases bit01 (f n) s with q | q
    · exact ⟨p, by omega, by rw [q, n0, iA]; rfl⟩
    · exact ⟨p + 1, by omega, by rw [q, nI_1]⟩
theorem sumF_z {f : Nat → Int32} {n : Nat} : ∀ d, (∀ j, n ≤ j → j < n + d → f j = 0) → sumF f (n + d) = sumF f n
  | 0, _ => rfl
  | d + 1, h => by
    show sumF f (n + d) + f (n + d) = _
    rw [h (n + d) (by omega) (by omega), sumF_z d (fun j a b => h j a (by omega))]
    exact Int32.add_zero _
def msV (tx : Nat) (c : Nat → Nat) (S : Mem) (s : Nat) : Int32 := shr (S.2.1 tx 13 s) (sumF (fun m => bitOf (S.2.1 tx 12 m) s) (c 1)) (nI (c 1))
def M14 (tx : Nat) (S S' : Mem) : Prop := S'.1 = S.1 ∧ (∀ o f, ¬ (o = tx ∧ f = 14) → S'.2.1 o f = S.2.1 o f) ∧ S'.2.2 = S.2.2
theorem Tx_measure (h : MC c tx S) : Ok (fun S' => M14 tx S S' ∧ ∀ s, s < c 2 → S'.2.1 tx 14 s = msV tx c S s) (f_Tx_measure tx S) := by
  obtain ⟨h1, h2, h3, h4⟩ := h
  refine lpN (P := fun m j => ∀ S', M14 tx S S' → (∀ s, s < j → S'.2.1 tx 14 s = msV tx c S s) → Ok (fun S' => M14 tx S S' ∧ ∀ s, s < c 2 → S'.2.1 tx 14 s = msV tx c S s) (f_Tx_measure_l2 tx m (nI j) S')) (c 2) (fun m j hj ih S1 f1 g1 => ?_) (fun m S1 f1 g1 => ?_) 5000 0 (by omega) (by omega) S ⟨rfl, fun _ _ _ => rfl, rfl⟩ (fun s hs => absurd hs (by omega))
  · show Ok _ (f_Tx_measure_b2 tx (f_Tx_measure_l2 tx m) (nI j) S1)
    unfold f_Tx_measure_b2
    rw [f1.1, h3, if_neg (le_nI (by omega) (by omega) (by omega))]
    have inner : f_Tx_measure_l14 tx (f_Tx_measure_l2 tx m) 5000 (nI j) 0 0 S1 = f_Tx_measure_l2 tx m (nI (j + 1)) (sA S1 tx 14 (nI j) (msV tx c S j)) := by
      refine lpN (P := fun m' i => f_Tx_measure_l14 tx (f_Tx_measure_l2 tx m) m' (nI j) (sumF (fun m => bitOf (S.2.1 tx 12 m) j) i) (nI i) S1 = f_Tx_measure_l2 tx m (nI (j + 1)) (sA S1 tx 14 (nI j) (msV tx c S j))) (c 1) (fun m' i hi ih' => ?_) (fun m' => ?_) 5000 0 (by omega) (by omega)
      · show f_Tx_measure_b14 tx (f_Tx_measure_l2 tx m) (f_Tx_measure_l14 tx (f_Tx_measure_l2 tx m) m') (nI j) _ (nI i) S1 = _
        unfold f_Tx_measure_b14
        rw [f1.1, h1, if_neg (le_nI (by omega) (by omega) (by omega)), gIn_n (show i < 7 by omega) (by decide), letS_e, cl (show i < 4096 by omega), f1.2.1 tx 12 (by omega), nI_1]
        exact ih'
      · show f_Tx_measure_b14 tx (f_Tx_measure_l2 tx m) (f_Tx_measure_l14 tx (f_Tx_measure_l2 tx m) m') (nI j) _ (nI (c 1)) S1 = _
        unfold f_Tx_measure_b14
        obtain ⟨p, hp, ep⟩ := sumF_bit (f := S.2.1 tx 12) (s := j) (c 1)
        rw [f1.1, h1, if_pos (le_rf _), gIn_n (show j < 8 by omega) (by decide), cl (show j < 4096 by omega), f1.2.1 tx 13 (by omega), ep, St_share hp (by omega), bind_e, gIn_n (show j < 8 by omega) (by decide), letS_e, nI_1]
        unfold msV
        rw [ep]
    rw [inner]
    refine ih _ ⟨f1.1, fun o f hn => by rw [sA_2, if_neg hn]; exact f1.2.1 o f hn, f1.2.2⟩ (fun s hs => ?_)
    rw [sA_2, if_pos ⟨rfl, rfl⟩, cl (by omega), upd_at]
    by_cases q : s = j
    · rw [if_pos q, q]
    · rw [if_neg q]; exact g1 s (by omega)
  · show Ok _ (f_Tx_measure_b2 tx (f_Tx_measure_l2 tx m) (nI (c 2)) S1)
    unfold f_Tx_measure_b2
    rw [f1.1, h3, if_pos (le_rf _)]
    exact Ok.i ⟨f1, g1⟩
/-- a text with nothing in it -/
def T00 (T : TX) : Prop := T 0 0 = 0 ∧ T 0 1 = 0 ∧ T 0 2 = 0 ∧ T 0 3 = 0 ∧ T 0 4 = 9 ∧ T 0 5 = 10 ∧ T 0 6 = 0
def c00 : Nat → Nat := fun _ => 0
def l00 : NLt := (0, fun _ => (0, 0, 0))
def G00 : LwG := fun _ => none
theorem Lw_be {lw : Nat} (n : Int32) (S : Mem) : Ok (fun S' => (∀ o, o ≠ lw → S'.1 o = S.1 o) ∧ (∀ o f, ¬ (o = lw ∧ f = 0) → S'.2.1 o f = S.2.1 o f) ∧ S'.2.2 = S.2.2 ∧ S'.1 lw 2 = 2 ∧ S'.2.1 lw 0 0 = enc (0, n) ∧ S'.2.1 lw 0 1 = enc (3, 0)) (f_Lw_be lw n S) := by
  unfold f_Lw_be f_Lw_be_b0 f_Lw_begin f_Lw_begin_b0
  rw [letS_e, letS_e, letS_e, bind_e]
  have e0 : (pI (pI (pI S lw 2 0) lw 3 0) lw 4 0).1 lw 2 = nI 0 := by rw [pI_1, if_neg (by omega), pI_1, if_neg (by omega), pI_1, if_pos ⟨rfl, rfl⟩]; rfl
  have f0 : ∀ o, o ≠ lw → (pI (pI (pI S lw 2 0) lw 3 0) lw 4 0).1 o = S.1 o := fun o ho => by rw [pI_o ho, pI_o ho, pI_o ho]
  have f1 : (pI (pI (pI S lw 2 0) lw 3 0) lw 4 0).2 = S.2 := rfl
  generalize pI (pI (pI S lw 2 0) lw 3 0) lw 4 0 = S1 at e0 f0 f1 ⊢
  rw [Lw_put e0 (by decide), bind_e]
  have e1 : (pI (sA S1 lw 0 (nI 0) (enc (0, n))) lw 2 (nI (0 + 1))).1 lw 2 = nI 1 := by rw [pI_1, if_pos ⟨rfl, rfl⟩]
  rw [Lw_put e1 (by decide), bind_e]
  have c0 : (nI 0).toNatClampNeg = 0 := by decide
  have c1 : (nI 1).toNatClampNeg = 1 := by decide
  refine Ok.i ⟨fun o ho => ?_, fun o f hn => ?_, ?_, ?_, ?_, ?_⟩
  · rw [pI_o ho, sA_1, pI_o ho, sA_1]; exact f0 o ho
  · rw [pI_2, sA_2, if_neg hn, pI_2, sA_2, if_neg hn, f1]
  · rw [pI_2, sA_3, pI_2, sA_3, f1]
  · rw [pI_1, if_pos ⟨rfl, rfl⟩]; rfl
  · rw [pI_2, sA_2, if_pos ⟨rfl, rfl⟩, pI_2, sA_2, if_pos ⟨rfl, rfl⟩, c0, c1, upd_at, if_neg (by decide), upd_at, if_pos rfl]
  · rw [pI_2, sA_2, if_pos ⟨rfl, rfl⟩, c1, upd_at, if_pos rfl]
theorem Tx_clear (h20 : 20 ≤ tx) (hT : T00 T) (S : Mem) : Ok (fun S' => O4 tx S S' ∧ S'.1 3 = S.1 3 ∧ MC c00 tx S' ∧ CJ tx c00 l00 T G00 S') (f_Tx_clear tx S) := by
  unfold f_Tx_clear f_Tx_clear_b0
  simp only [letS_e]
  rw [JArr_fill tx 12 7 (by decide), bind_e]
  have i0 : ∀ o, o ≠ tx → (pI (pI (pI (pI (pI (pI (pI (pI S tx 0 0) tx 1 0) tx 2 0) tx 3 0) tx 4 0) tx 5 9) tx 6 10) tx 7 0).1 o = S.1 o := fun o ho => by rw [pI_o ho, pI_o ho, pI_o ho, pI_o ho, pI_o ho, pI_o ho, pI_o ho, pI_o ho]
  have i1 : ∀ k, k < 8 → (pI (pI (pI (pI (pI (pI (pI (pI S tx 0 0) tx 1 0) tx 2 0) tx 3 0) tx 4 0) tx 5 9) tx 6 10) tx 7 0).1 tx k = if k = 5 then 9 else if k = 6 then 10 else 0 := fun k hk => by
    rcases (show k = 0 ∨ k = 1 ∨ k = 2 ∨ k = 3 ∨ k = 4 ∨ k = 5 ∨ k = 6 ∨ k = 7 by omega) with rfl | rfl | rfl | rfl | rfl | rfl | rfl | rfl <;> simp [pI_1]
  have i2 : (pI (pI (pI (pI (pI (pI (pI (pI S tx 0 0) tx 1 0) tx 2 0) tx 3 0) tx 4 0) tx 5 9) tx 6 10) tx 7 0).2 = S.2 := rfl
  generalize pI (pI (pI (pI (pI (pI (pI (pI S tx 0 0) tx 1 0) tx 2 0) tx 3 0) tx 4 0) tx 5 9) tx 6 10) tx 7 0 = S1 at i0 i1 i2 ⊢
  refine (Lw_be (lw := tx + 1) 10 _).b (fun S2 g2 => ?_)
  obtain ⟨a1, a2, a3, a4, a5, a6⟩ := g2
  refine (Lw_be (lw := tx + 2) 0 S2).b (fun S3 g3 => ?_)
  obtain ⟨b1, b2, b3, b4, b5, b6⟩ := g3
  unfold f_Lw_begin f_Lw_begin_b0
  rw [letS_e, letS_e, letS_e, bind_e]
  have J : ∀ o, o ≠ tx + 1 → o ≠ tx + 2 → o ≠ tx + 3 → (pI (pI (pI S3 (tx + 3) 2 0) (tx + 3) 3 0) (tx + 3) 4 0).1 o = S1.1 o := fun o x1 x2 x3 => by rw [pI_o x3, pI_o x3, pI_o x3, b1 o x2, a1 o x1]; rfl
  have A : ∀ o f, ¬ (o = tx + 1 ∧ f = 0) → ¬ (o = tx + 2 ∧ f = 0) → (pI (pI (pI S3 (tx + 3) 2 0) (tx + 3) 3 0) (tx + 3) 4 0).2.1 o f = if o = tx ∧ f = 12 then cpF 0 7 (fun _ => 0) (S.2.1 tx 12) else S.2.1 o f := fun o f x1 x2 => by
    rw [pI_2, pI_2, pI_2, b2 o f x2, a2 o f x1, pA_2, i2]
  have L : (pI (pI (pI S3 (tx + 3) 2 0) (tx + 3) 3 0) (tx + 3) 4 0).2.2 = S.2.2 := by rw [pI_2, pI_2, pI_2, b3, a3, pA_3, i2]
  have k3 : ∀ k, k < 8 → (pI (pI (pI S3 (tx + 3) 2 0) (tx + 3) 3 0) (tx + 3) 4 0).1 tx k = if k = 5 then 9 else if k = 6 then 10 else 0 := fun k hk => by rw [J tx (by omega) (by omega) (by omega)]; exact i1 k hk
  obtain ⟨t0, t1, t2, t3, t4, t5, t6⟩ := hT
  refine Ok.i ⟨⟨fun o x1 x2 => ?_, fun o f x1 => ?_, fun o f _ => by rw [L]⟩, ?_, ?_, ⟨⟨fun j hj => absurd hj (by show ¬ j < 0; omega), fun s i _ hi => absurd hi (by show ¬ i < 0; omega), fun j _ hj => absurd hj (by show ¬ j < 0; omega)⟩, ⟨by decide, by decide, by decide, by decide⟩, ?_, ?_, fun k hk => ?_⟩⟩
  · rw [J o (by omega) (by omega) (by omega)]; exact i0 o (by omega)
  · rw [A o f (by omega) (by omega), if_neg (by omega)]
  · rw [J 3 (by omega) (by omega) (by omega)]; exact i0 3 (by omega)
  · exact ⟨by rw [k3 1 (by decide)]; rfl, by decide, by rw [k3 2 (by decide)]; rfl, by decide⟩
  · refine ⟨⟨?_, ?_, ?_, ?_⟩, ⟨?_, ?_, ?_⟩, ?_, fun a ha => absurd ha (by show ¬ a < 0; omega), fun a ha => absurd ha (by show ¬ a < 0; omega), fun a ha => ?_, fun a ha => absurd ha (by show ¬ a < 0; omega), fun a ha => absurd ha (by show ¬ a < 0; omega)⟩
    · rw [k3 0 (by decide)]; rfl
    · rw [k3 1 (by decide)]; rfl
    · rw [k3 2 (by decide)]; rfl
    · rw [k3 3 (by decide)]; rfl
    · rw [k3 5 (by decide), t4]; rfl
    · rw [k3 6 (by decide), t5]; rfl
    · rw [k3 7 (by decide), t6]; rfl
    · rw [k3 4 (by decide)]; rfl
    · rw [A tx 12 (by omega) (by omega), if_pos ⟨rfl, rfl⟩]
      show cpF 0 7 (fun _ => 0) (S.2.1 tx 12) a = 0
      unfold cpF; rw [if_pos (by omega)]
  · exact ⟨⟨t0, t1, t2, t3⟩, fun a ha => absurd ha (by show ¬ a < 0; omega), fun a ha => absurd ha (by show ¬ a < 0; omega), fun a ha => absurd ha (by show ¬ a < 0; omega), fun a ha => absurd ha (by show ¬ a < 0; omega), ⟨9, by decide, by decide, t4⟩, 10, by decide, t5⟩
  · rcases (show k = 0 ∨ k = 1 ∨ k = 2 by omega) with rfl | rfl | rfl
    · show lwM (tx + 1) 0 _ none
      unfold lwM
      rw [if_neg (by decide)]
      refine ⟨?_, ?_, ?_⟩
      · rw [pI_o (by omega), pI_o (by omega), pI_o (by omega), b1 _ (by omega)]; exact a4
      · rw [pI_2, pI_2, pI_2, b2 _ _ (by omega)]; exact a5
      · rw [pI_2, pI_2, pI_2, b2 _ _ (by omega)]; exact a6
    · show lwM (tx + 2) 1 _ none
      unfold lwM
      rw [if_neg (by decide)]
      refine ⟨?_, ?_, ?_⟩
      · rw [pI_o (by omega), pI_o (by omega), pI_o (by omega)]; exact b4
      · exact b5
      · exact b6
    · show lwM (tx + 3) 2 _ none
      unfold lwM
      rw [if_pos rfl, pI_1, if_neg (by omega), pI_1, if_neg (by omega), pI_1, if_pos ⟨rfl, rfl⟩]
