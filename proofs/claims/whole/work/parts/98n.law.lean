/-! READ: the class puts down a law, whole. -/
variable {kd : Nat → Int32} {pl vl : Nat → Nat} {Q lw p t tx : Nat} {S S' : Mem} {c : Nat → Nat} {l : NLt} {T : TX} {G : LwG} {w : Nat × Nat}
def lwQ (lw : Nat) (S S' : Mem) (z : Nat × Nat) (Q : Nat) (R : List BrT) : Prop := FN3 lw 0 S S' ∧ ∃ t', z = (0, t' + 1) ∧ S'.1 3 3 = nI t' ∧ t' + 1 ≤ Q ∧ S'.1 lw 2 = nI (posL R) ∧ posL R ≤ 400 ∧ cbM (S'.2.1 lw 0) R ∧ ∀ x, x ∈ R → brW x
theorem Mn_fin (E : EV kd pl vl Q) (hlw : 20 ≤ lw) {m i : Nat} {r : List BrT} (hz : (fnP kd (0, t)).1 = 0) (hm : Q + 2 - t ≤ m) (hi : i ≤ t) (ht : t ≤ Q) (hT : TC kd pl vl Q S) (e3 : S.1 3 3 = nI t) (w3 : S.1 lw 3 = 0) (w2 : S.1 lw 2 = nI (posL r)) (hp : posL r ≤ t) (hr : cbM (S.2.1 lw 0) r) (hw : ∀ x, x ∈ r → brW x) : Ok (fun S' => lwQ lw S S' (fnP kd (0, t)) Q ((none, yCode kd vl t (smP kd (0, t)).2) :: r)) (f_Mn_putLaw_l16 lw m (nI i) S) := by
  have hQ := E.1.1
  have y1 : (smP kd (0, t)).1 = 0 := (tk_0 (show (tk kd 59 (smP kd (0, t))).1 = 0 from hz)).1
  obtain ⟨t1, x1⟩ : ∃ a, smP kd (0, t) = (0, a) := ⟨_, Prod.ext y1 rfl⟩
  have ef : fnP kd (0, t) = tk kd 59 (0, t1) := by unfold fnP; rw [x1]
  rw [ef] at hz ⊢
  obtain ⟨k1, lt1, x2⟩ := tk_p rfl hz
  rw [x2, x1]
  refine Mn_sumP (p := posL r) E hlw (by rw [x1]) hm hi ht hT e3 w3 w2 hp (fun m1 i1 t2 S1 y a0 a1 a2 a3 a4 a5 a6 a7 a8 a9 a10 a11 a12 a13 => ?_)
  have et : t2 = t1 := (Prod.mk.inj (a0.symm.trans x1)).2
  subst et
  have q1 := tkQ E.1 (by decide) a3 x2
  obtain ⟨m1, rfl⟩ : ∃ k, m1 = k + 1 := ⟨m1 - 1, by omega⟩
  show Ok _ (f_Mn_putLaw_b16 lw (f_Mn_putLaw_l16 lw m1) (nI i1) S1)
  unfold f_Mn_putLaw_b16 f_Mn_putLaw_b96
  rw [if_neg (show ¬ (400 : Int32) < nI i1 from nI_nlt (a := 400) (by omega) (by decide)), a5, Tp_kindAt hQ a4 a3, bind_e, if_pos k1]
  refine (Lw_fin a6 a9 (by omega) a7 a11).b (fun S2 g => Ok.i ?_)
  obtain ⟨f2, g1, g2, g3, g4⟩ := g
  generalize yCode kd vl t t2 = C at a8 a11 g2 g3 g4 ⊢
  have F := (a12.tr (f2.n3 (by omega)) (Nat.le_refl _))
  refine ⟨F.le (Nat.zero_le _), t2, rfl, by rw [f2.1 3 (by omega)]; exact a5, q1, g2, ?_, ⟨g3, g4, ?_⟩, fun x hx => ?_⟩
  · show posL r + C.length + 1 ≤ 400; omega
  · exact cbM_e r (fun i hi => F.2.2.2.1 i hi) hr
  · rcases List.mem_cons.mp hx with e | e
    · rw [e]; exact a8
    · exact hw x e
theorem Mn_law (E : EV kd pl vl Q) (hlw : 20 ≤ lw) : ∀ (n t m i : Nat) (S : Mem) (r : List BrT), (lwF kd n (0, t)).1 = 0 → Q + 2 - t ≤ m → i ≤ t → t ≤ Q → TC kd pl vl Q S → S.1 3 3 = nI t → S.1 lw 3 = 0 → S.1 lw 2 = nI (posL r) → posL r ≤ t → cbM (S.2.1 lw 0) r → (∀ x, x ∈ r → brW x) → Ok (fun S' => lwQ lw S S' (lwF kd n (0, t)) Q (lwB kd vl n (0, t) r)) (f_Mn_putLaw_l16 lw m (nI i) S) := by
  intro n
  induction n with
  | zero =>
    intro t m i S r hz hm hi ht hT e3 w3 w2 hp hr hw
    by_cases q : kd t = 139
    · have : lwF kd 0 (0, t) = (2, t) := by unfold lwF; rw [if_pos rfl, if_pos q]
      rw [this] at hz; exact absurd hz (show ¬ (2 : Nat) = 0 by decide)
    · rw [lwF_n rfl q] at hz ⊢
      exact Mn_fin E hlw hz hm hi ht hT e3 w3 w2 hp hr hw
  | succ n ih =>
    intro t m i S r hz hm hi ht hT e3 w3 w2 hp hr hw
    by_cases q : kd t = 139
    · have e1 : lwF kd (n + 1) (0, t) = lwF kd n (csP kd (0, t)) := by rw [lwF, if_pos rfl, if_pos q]
      have e2 : lwB kd vl (n + 1) (0, t) r = lwB kd vl n (csP kd (0, t)) (brC kd vl (0, t) :: r) := by rw [lwB, if_pos q]
      rw [e1] at hz ⊢
      rw [e2]
      have zc : (csP kd (0, t)).1 = 0 := Classical.byContradiction (fun z => z (by rw [lwF_f z] at hz; exact hz))
      refine Mn_case (p := posL r) E hlw zc q hm hi ht hT e3 w3 w2 hp (fun m' i' t' S' A B C a0 a1 a2 a3 a4 a5 a6 a7 a8 a9 a10 a11 a12 b1 b2 b3 b4 b5 b6 => ?_)
      rw [a0] at hz ⊢
      rw [a1]
      refine (ih t' m' i' S' ((some (A, B), C) :: r) hz a5 a6 a7 a8 a9 a10 a11 a12 ⟨b1, b2, b3, b4, b5, cbM_e r (fun i hi => b6.2.2.2.1 i hi) hr⟩ (fun x hx => ?_)).m (fun S2 g => ⟨(b6.le (Nat.zero_le _)).tr g.1 (Nat.le_refl _), g.2⟩)
      rcases List.mem_cons.mp hx with e | e
      · rw [e]; exact ⟨a2, a3, a4⟩
      · exact hw x e
    · rw [lwF_n rfl q] at hz ⊢
      rw [lwB_n q]
      exact Mn_fin E hlw hz hm hi ht hT e3 w3 w2 hp hr hw
theorem Mn_putLaw (E : EV kd pl vl Q) (h20 : 20 ≤ tx) {k : Nat} (hk : k < 3) (hT : TC kd pl vl Q S) (h : CS pl w t S) (hI : CJ tx c l T G S) (ht : t ≤ Q) (hz : (lwP kd (0, t)).1 = 0) : Ok (fun S' => ∃ t', lwP kd (0, t) = (0, t' + 1) ∧ tlC pl tx c l T (updG G k (lwB kd vl 4 (tk kd 61 (0, t)) [])) w t' S S') (f_Mn_putLaw (tx + 1 + k) S) := by
  have hQ := E.1.1
  have e1 : lwP kd (0, t) = lwF kd 4 (tk kd 61 (0, t)) := rfl
  rw [e1] at hz ⊢
  have z1 : (tk kd 61 (0, t)).1 = 0 := Classical.byContradiction (fun z => z (by rw [lwF_f z] at hz; exact hz))
  obtain ⟨-, lt, x1⟩ := tk_p rfl z1
  have q1 := tkQ E.1 (by decide) ht x1
  rw [x1] at hz ⊢
  unfold f_Mn_putLaw f_Mn_putLaw_b0 f_Lw_begin f_Lw_begin_b0
  rw [letS_e, letS_e, letS_e, bind_e, letS_e]
  have F0 : FN3 (tx + 1 + k) 0 S (pI (pI (pI S (tx + 1 + k) 2 0) (tx + 1 + k) 3 0) (tx + 1 + k) 4 0) := ((FN3.i 2 0 (by omega)).tr (FN3.i 3 0 (by omega)) (Nat.le_refl _)).tr (FN3.i 4 0 (by omega)) (Nat.le_refl _)
  have e33 : (pI (pI (pI S (tx + 1 + k) 2 0) (tx + 1 + k) 3 0) (tx + 1 + k) 4 0).1 3 3 = nI t := by
    rw [pI_o (by omega), pI_o (by omega), pI_o (by omega)]; exact h.2.2
  have i3 : (pI (pI (pI S (tx + 1 + k) 2 0) (tx + 1 + k) 3 0) (tx + 1 + k) 4 0).1 (tx + 1 + k) 3 = 0 := by rw [pI_1, if_neg (by omega), pI_1, if_pos ⟨rfl, rfl⟩]
  have i2 : (pI (pI (pI S (tx + 1 + k) 2 0) (tx + 1 + k) 3 0) (tx + 1 + k) 4 0).1 (tx + 1 + k) 2 = 0 := by rw [pI_1, if_neg (by omega), pI_1, if_neg (by omega), pI_1, if_pos ⟨rfl, rfl⟩]
  rw [e33, nI_1]
  generalize pI (pI (pI S (tx + 1 + k) 2 0) (tx + 1 + k) 3 0) (tx + 1 + k) 4 0 = S1 at F0 i3 i2 ⊢
  have F1 := F0.tr (FN3.at3 (S := S1) (p := 0) (nI (t + 1))) (Nat.le_refl 0)
  refine (Mn_law E (show 20 ≤ tx + 1 + k by omega) 4 (t + 1) 5000 0 (pI S1 3 3 (nI (t + 1))) [] hz (by omega) (by omega) q1 (hT.n3 F1 (by omega)) (by rw [pI_1, if_pos ⟨rfl, rfl⟩]) (by rw [pI_1, if_neg (by omega)]; exact i3) (by rw [pI_1, if_neg (by omega)]; exact i2) (Nat.zero_le _) trivial (fun x hx => absurd hx (List.not_mem_nil))).m (fun S2 g => ?_)
  obtain ⟨f2, t', x2, a1, a2, a3, a4, a5, a6⟩ := g
  have F := F1.tr f2 (Nat.le_refl 0)
  obtain ⟨hN, hL, hP, hG, hW⟩ := hI
  have itx : S2.1 tx = S.1 tx := F.1 tx (by omega) (by omega)
  have atx : ∀ f, S2.2.1 tx f = S.2.1 tx f := fun f => F.2.2.1 tx f (by omega)
  refine ⟨t', x2, ⟨fun o b1 b2 => F.1 o (by omega) b1, fun o f b => F.2.2.1 o f (by omega), fun o f _ => by rw [F.2.2.2.2]⟩, ⟨?_, ?_, a1⟩, ⟨by rw [itx]; exact hP.1.2.1, hL.2.1, by rw [itx]; exact hP.1.2.2.1, hL.2.2.1⟩, fun _ => ⟨hN.e (by rw [F.2.2.2.2]), hL, ?_, hG, fun j hj => ?_⟩⟩
  · rw [F.2.1 2 (by omega)]; exact h.1
  · rw [F.2.1 0 (by omega)]; exact h.2.1
  · unfold CP
    rw [itx, atx, atx, atx, atx, atx, atx, atx, atx]; exact hP
  · unfold updG
    by_cases q : j = k
    · rw [if_pos q, q]
      exact ⟨a3, a4, a5, lwB_ne _ _ _, a6⟩
    · rw [if_neg q]
      exact lwM_e (F.1 _ (by omega) (by omega)) (F.2.2.1 _ _ (by omega)) _ (hW j hj)
