/-! READ: the class seeks the meaning of a text, whole. -/
variable {kd : Nat → Int32} {pl vl : Nat → Nat} {Q t tx : Nat} {S S' : Mem} {c : Nat → Nat} {l : NLt} {T : TX} {G : LwG} {w : Nat × Nat}
def skC (pl : Nat → Nat) (tx : Nat) (d : (Nat → Nat) × DX) (S S' : Mem) : Prop := O4 tx S S' ∧ (∃ t', CS pl d.2.1 t' S') ∧ (∃ c', MC c' tx S') ∧ (d.2.1.1 = 0 → CJ tx d.1 d.2.2.1 d.2.2.2.1 d.2.2.2.2 S' ∧ MC d.1 tx S')
theorem tl_Q (hQ : KQ kd Q) (hT : TC kd pl vl Q S) (hc : cLe c) (ht : t ≤ Q) : (tlP kd c t).2 ≤ Q := by
  have hT' : TC kd pl vl Q (pA (pI (pI S 2 2 0) 2 3 (nI t)) 2 4 (fun i => nI (c i))) := fun i hi => by
    have e : ∀ f, f ≠ 4 ∨ True → (pA (pI (pI S 2 2 0) 2 3 (nI t)) 2 4 (fun i => nI (c i))).2.1 1 f = S.2.1 1 f := fun f _ => by rw [pA_2, if_neg (by omega)]; rfl
    rw [e 3 (Or.inr trivial), e 4 (Or.inr trivial)]; exact hT i hi
  obtain ⟨h0, h1, h2, h3⟩ := hc
  have hcn : cnS c (pA (pI (pI S 2 2 0) 2 3 (nI t)) 2 4 (fun i => nI (c i))) := fun i hi => ⟨by rw [pA_2, if_pos ⟨rfl, rfl⟩], by
    rcases (show i = 0 ∨ i = 1 ∨ i = 2 ∨ i = 3 by omega) with rfl | rfl | rfl | rfl <;> omega⟩
  have hS : Sy Q (0, t) (pA (pI (pI S 2 2 0) 2 3 (nI t)) 2 4 (fun i => nI (c i))) := ⟨rfl, rfl, ht, by show 0 ≤ 2; omega⟩
  obtain ⟨y, -, -, -, h4, -⟩ := Sh_isTell hQ hT' hcn hS
  exact h4.2.2.1
theorem Mn_seek21 (E : EV kd pl vl Q) (h20 : 20 ≤ tx) {R : Int32 × Mem → Prop} : ∀ (n m i t : Nat) (c : Nat → Nat) (l : NLt) (T : TX) (G : LwG) (w : Nat × Nat) (S : Mem), CS pl w t S → w.1 = 0 → CJ tx c l T G S → MC c tx S → TC kd pl vl Q S → t ≤ Q → (skF kd n c t).1 = 0 → Q + 1 - t ≤ n → Q + 2 - t ≤ m → i ≤ t → (∀ S', skC pl tx (rdF kd vl n c (w, l, T, G) t) S S' → Ok R (f_Mn_seek_b60 tx S')) → Ok R (f_Mn_seek_l21 tx m (nI i) S) := by
  intro n
  induction n with
  | zero => intro m i t c l T G w S _ _ _ _ _ h1 _ h2; omega
  | succ n ih =>
    intro m i t c l T G w S h w0 hI hM hT ht hz hn hm hi K
    have hQ := E.1.1
    obtain ⟨m, rfl⟩ : ∃ k, m = k + 1 := ⟨m - 1, by omega⟩
    show Ok R (f_Mn_seek_b21 tx (f_Mn_seek_l21 tx m) (nI i) S)
    unfold f_Mn_seek_b21
    rw [if_neg (show ¬ (400 : Int32) < nI i from nI_nlt (a := 400) (by omega) (by decide)), if_pos (show S.1 3 2 = 0 by rw [h.1.1, w0]; rfl), h.2.2, Tp_kindAt hQ hT ht, bind_e]
    by_cases q : kd t = 0
    · rw [if_pos q]
      have er : rdF kd vl (n + 1) c (w, l, T, G) t = (c, w, l, T, G) := by rw [rdF, if_pos q]
      rw [er] at K
      exact K S ⟨O4.rf tx S, ⟨t, h⟩, ⟨c, hM⟩, fun _ => ⟨hI, hM⟩⟩
    · rw [if_neg q]
      have z : (tlP kd c t).1 = 0 := Classical.byContradiction (fun y => y (by
        have : skF kd (n + 1) c t = tlP kd c t := by rw [skF, if_neg q, if_neg y]
        rw [this] at hz; exact hz))
      have es : skF kd (n + 1) c t = skF kd n (cn1 kd c t) (tlP kd c t).2 := by rw [skF, if_neg q, if_pos z]
      have er : rdF kd vl (n + 1) c (w, l, T, G) t = rdF kd vl n (cn1 kd c t) (teD kd vl c l T G t w) (tlP kd c t).2 := by rw [rdF, if_neg q, if_pos z]
      rw [es] at hz
      rw [er] at K
      have gt := tlP_gt z
      refine (Mn_putTell E h20 hT h hI ht z).b (fun S1 g => ?_)
      obtain ⟨g1, g2, g3, g4⟩ := g
      rw [nI_1]
      generalize hd : teD kd vl c l T G t w = d at g1 g2 g4 K
      obtain ⟨w1, l1, T1, G1⟩ := d
      have g2 : CS pl w1 (tlP kd c t).2 S1 := g2
      have g4 : w1.1 = 0 → CJ tx (cn1 kd c t) l1 T1 G1 S1 := g4
      have tQ : (tlP kd c t).2 ≤ Q := tl_Q E.1 hT hI.2.1 ht
      by_cases y : w1.1 = 0
      · refine ih m (i + 1) (tlP kd c t).2 (cn1 kd c t) l1 T1 G1 w1 S1 g2 y (g4 y) g3 (hT.o4 g1 h20) tQ hz (by omega) (by omega) (by omega) (fun S2 r => ?_)
        exact K S2 ⟨g1.tr r.1, r.2⟩
      · obtain ⟨m, rfl⟩ : ∃ k, m = k + 1 := ⟨m - 1, by omega⟩
        show Ok R (f_Mn_seek_b21 tx (f_Mn_seek_l21 tx m) (nI (i + 1)) S1)
        unfold f_Mn_seek_b21
        have e2 : ¬ S1.1 3 2 = 0 := by rw [g2.1.1]; exact nI_ne0 (by omega) (by have := g2.1.2; omega)
        have K1 := K S1 ⟨g1, ⟨(tlP kd c t).2, by rw [rdF_k n (cn1 kd c t) (w1, l1, T1, G1) _ y]; exact g2⟩, ⟨_, g3⟩, fun x => absurd (by rw [rdF_k n (cn1 kd c t) (w1, l1, T1, G1) _ y] at x; exact x) y⟩
        rw [if_neg e2]
        split <;> exact K1
/-- the meaning, whole -/
theorem Mn_seek (E : EV kd pl vl Q) (h20 : 20 ≤ tx) (hT : TC kd pl vl Q S) (h0 : T00 T) (hz : (skF kd 402 c00 0).1 = 0) : Ok (fun z : Int32 × Mem => z.1 = nI (rdF kd vl 402 c00 ((0, 0), l00, T, G00) 0).2.1.1 ∧ O4 tx S z.2 ∧ z.2.1 3 0 = (if (rdF kd vl 402 c00 ((0, 0), l00, T, G00) 0).2.1.1 = 0 then -1 else nI (pl (rdF kd vl 402 c00 ((0, 0), l00, T, G00) 0).2.1.2)) ∧ ((rdF kd vl 402 c00 ((0, 0), l00, T, G00) 0).2.1.1 = 0 → CJ tx (rdF kd vl 402 c00 ((0, 0), l00, T, G00) 0).1 (rdF kd vl 402 c00 ((0, 0), l00, T, G00) 0).2.2.1 (rdF kd vl 402 c00 ((0, 0), l00, T, G00) 0).2.2.2.1 (rdF kd vl 402 c00 ((0, 0), l00, T, G00) 0).2.2.2.2 z.2 ∧ ∀ s, s < (rdF kd vl 402 c00 ((0, 0), l00, T, G00) 0).1 2 → z.2.2.1 tx 14 s = msV tx (rdF kd vl 402 c00 ((0, 0), l00, T, G00) 0).1 z.2 s)) (f_Mn_seek tx S) := by
  have hQ := E.1.1
  unfold f_Mn_seek f_Mn_seek_b0
  rw [letS_e, letS_e, letS_e]
  have f0 : F3 S (pI (pI (pI S 3 3 0) 3 2 0) 3 0 (-1)) := (((F3.rf S).p 3 _).p 2 _).p 0 _
  have s0 : CS pl (0, 0) 0 (pI (pI (pI S 3 3 0) 3 2 0) 3 0 (-1)) := ⟨⟨rfl, by decide⟩, rfl, rfl⟩
  generalize pI (pI (pI S 3 3 0) 3 2 0) 3 0 (-1) = S1 at f0 s0 ⊢
  refine (Tx_clear h20 h0 S1).b (fun S2 g => ?_)
  obtain ⟨g1, g2, g3, g4⟩ := g
  refine Mn_seek21 E h20 402 5000 0 0 c00 l00 T G00 (0, 0) S2 (s0.o g2) rfl g4 g3 ((hT.f3 f0).o4 g1 h20) (Nat.zero_le _) hz (by omega) (by omega) (by omega) (fun S3 k => ?_)
  generalize rdF kd vl 402 c00 ((0, 0), l00, T, G00) 0 = d at k ⊢
  obtain ⟨k1, ⟨t', k2⟩, ⟨c', k3⟩, k4⟩ := k
  unfold f_Mn_seek_b60
  have fin : ∀ S4, M14 tx S3 S4 → (d.2.1.1 = 0 → ∀ s, s < d.1 2 → S4.2.1 tx 14 s = msV tx d.1 S3 s) → Ok (fun z : Int32 × Mem => z.1 = nI d.2.1.1 ∧ O4 tx S z.2 ∧ z.2.1 3 0 = (if d.2.1.1 = 0 then -1 else nI (pl d.2.1.2)) ∧ (d.2.1.1 = 0 → CJ tx d.1 d.2.2.1 d.2.2.2.1 d.2.2.2.2 z.2 ∧ ∀ s, s < d.1 2 → z.2.2.1 tx 14 s = msV tx d.1 z.2 s)) (some (S4.1 3 2, S4)) := fun S4 m1 m2 => by
    have oo : O4 tx S3 S4 := ⟨fun o _ _ => by rw [m1.1], fun o f x => m1.2.1 o f (by omega), fun o f _ => by rw [m1.2.2]⟩
    refine Ok.i ⟨by rw [m1.1]; exact k2.1.1, ((F3.o4 f0).tr (g1.tr k1)).tr oo, by rw [m1.1]; exact k2.2.1, fun z => ⟨?_, fun s hs => ?_⟩⟩
    · obtain ⟨hN, hL, hP, hG, hW⟩ := (k4 z).1
      refine ⟨hN.e (by rw [m1.2.2]), hL, ?_, hG, hW.e (fun o _ _ => by rw [m1.1]) (fun o _ _ => m1.2.1 o 0 (by omega))⟩
      unfold CP
      rw [m1.1, m1.2.1 tx 8 (by omega), m1.2.1 tx 9 (by omega), m1.2.1 tx 10 (by omega), m1.2.1 tx 11 (by omega), m1.2.1 tx 12 (by omega), m1.2.1 tx 13 (by omega), m1.2.1 tx 15 (by omega), m1.2.1 tx 16 (by omega)]
      exact hP
    · show S4.2.1 tx 14 s = msV tx d.1 S4 s
      rw [m2 z s hs]
      unfold msV
      rw [m1.2.1 tx 13 (by omega), m1.2.1 tx 12 (by omega)]
  by_cases z : d.2.1.1 = 0
  · refine (Tx_measure (k4 z).2).b (fun S4 m => ?_)
    exact fin S4 m.1 (fun _ => m.2)
  · refine (Tx_measure k3).b (fun S4 m => ?_)
    exact fin S4 m.1 (fun y => absurd y z)
