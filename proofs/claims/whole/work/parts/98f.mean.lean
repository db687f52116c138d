/-! READ: the class's meaning of a text: names and numbers. w: what is wrong first, token; t: the token looked at. -/
variable {kd : Nat → Int32} {pl vl : Nat → Nat} {Q tx : Nat} {c : Nat → Nat} {l : NLt} {T : TX} {w : Nat × Nat} {t : Nat} {S S' : Mem}
def CS (pl : Nat → Nat) (w : Nat × Nat) (t : Nat) (S : Mem) : Prop := (S.1 3 2 = nI w.1 ∧ w.1 ≤ 5) ∧ S.1 3 0 = (if w.1 = 0 then -1 else nI (pl w.2)) ∧ S.1 3 3 = nI t
def F3 (S S' : Mem) : Prop := (∀ o, o ≠ 3 → S'.1 o = S.1 o) ∧ S'.2 = S.2
theorem F3.rf (S : Mem) : F3 S S := ⟨fun _ _ => rfl, rfl⟩
theorem F3.tr {A B C : Mem} (h1 : F3 A B) (h2 : F3 B C) : F3 A C := ⟨fun o h => (h2.1 o h).trans (h1.1 o h), h2.2.trans h1.2⟩
theorem F3.p (h : F3 S S') (k : Nat) (x : Int32) : F3 S (pI S' 3 k x) := ⟨fun o ho => by rw [← h.1 o ho]; funext k'; rw [pI_1, if_neg (fun z => ho z.1)], h.2⟩
theorem TC.f3 (h : TC kd pl vl Q S) (hf : F3 S S') : TC kd pl vl Q S' := fun i hi => by rw [hf.2]; exact h i hi
def wr (k tok : Nat) (w : Nat × Nat) : Nat × Nat := if w.1 = 0 then (k, tok) else w
theorem wr_e (k tok : Nat) (z : Nat) (w : Nat × Nat) : (wrS k tok ((0, z), w)).2 = wr k tok w := by
  unfold wrS wr
  by_cases q : w.1 = 0
  · rw [if_pos ⟨rfl, q⟩, if_pos q]
  · rw [if_neg (fun z => q z.2), if_neg q]
def nwW (vl : Nat → Nat) (l : NLt) (t : Nat) (w : Nat × Nat) : Nat × Nat := if fdN l 3 (vl t) l.1 < l.1 then wr 3 t w else w
def odW (vl : Nat → Nat) (l : NLt) (s t : Nat) (w : Nat × Nat) : Nat × Nat := if fdN l s (vl t) l.1 < l.1 then w else wr 4 t w
def bdW (vl : Nat → Nat) (lo hi t : Nat) (w : Nat × Nat) : Nat × Nat := if vl t < lo ∨ hi < vl t then wr 5 t w else w
def odX (vl : Nat → Nat) (l : NLt) (s t : Nat) : Int32 := if fdN l s (vl t) l.1 < l.1 then nI (l.2 (fdN l s (vl t) l.1)).2.2 else -1
theorem nwS_e (h : tk kd 97 (0, t) = (0, t + 1)) : nwS kd vl l ((0, t), w) = ((0, t + 1), nwW vl l t w) := by
  unfold nwS nwW
  show (tk kd 97 (0, t), if (tk kd 97 (0, t)).1 = 0 ∧ fdN l 3 (vl t) l.1 < l.1 then (wrS 3 t (tk kd 97 (0, t), w)).2 else w) = _
  rw [h, wr_e]
  by_cases q : fdN l 3 (vl t) l.1 < l.1
  · rw [if_pos ⟨rfl, q⟩, if_pos q]
  · rw [if_neg (fun z => q z.2), if_neg q]
theorem odS_e {s : Nat} (h : tk kd 97 (0, t) = (0, t + 1)) : odS kd vl l s ((0, t), w) = ((0, t + 1), odW vl l s t w) := by
  unfold odS odW
  show (tk kd 97 (0, t), if (tk kd 97 (0, t)).1 = 0 ∧ ¬ fdN l s (vl t) l.1 < l.1 then (wrS 4 t (tk kd 97 (0, t), w)).2 else w) = _
  rw [h, wr_e]
  by_cases q : fdN l s (vl t) l.1 < l.1
  · rw [if_neg (fun z => z.2 q), if_pos q]
  · rw [if_pos ⟨rfl, q⟩, if_neg q]
theorem bdS_e {lo hi : Nat} (h : tk kd 48 (0, t) = (0, t + 1)) : bdS kd vl lo hi ((0, t), w) = ((0, t + 1), bdW vl lo hi t w) := by
  have hk : kd t = 48 := (tk_0 (z := (0, t)) (by rw [h])).2.1
  unfold bdS bdW
  show (tk kd 48 (0, t), if (0 : Nat) = 0 ∧ kd t = 48 ∧ (vl t < lo ∨ hi < vl t) then (wrS 5 t ((0, t), w)).2 else w) = _
  rw [h, wr_e]
  by_cases q : vl t < lo ∨ hi < vl t
  · rw [if_pos ⟨rfl, hk, q⟩, if_pos q]
  · rw [if_neg (fun z => q z.2.2), if_neg q]
theorem Tp_valueAt (hQ : Q ≤ 400) (h : TC kd pl vl Q S) (ht : t ≤ Q) (hk : kd t = 97 ∨ kd t = 48) : f_Tp_valueAt (nI t) S = some (lN (vl t)) := by
  unfold f_Tp_valueAt f_Tp_valueAt_b0
  rw [if_neg (nI_pos (by omega)), if_neg (show ¬ (400 : Int32) < nI t from nI_nlt (a := 400) (by omega) (by decide)), gIn_n (by omega) (by decide), cl (by omega), (h t ht).2.2 hk]
theorem Tp_valueAt2 (hQ : Q ≤ 400) (ht : t ≤ Q) : ∃ x, f_Tp_valueAt (nI t) S = some x := by
  unfold f_Tp_valueAt f_Tp_valueAt_b0
  rw [if_neg (nI_pos (by omega)), if_neg (show ¬ (400 : Int32) < nI t from nI_nlt (a := 400) (by omega) (by decide)), gIn_n (by omega) (by decide)]
  exact ⟨_, rfl⟩
theorem Mn_failed (hQ : Q ≤ 400) (hT : TC kd pl vl Q S) (h : CS pl w t S) {k tok : Nat} (hk : 1 ≤ k ∧ k ≤ 5) (ht : tok ≤ Q) : Ok (fun S' => F3 S S' ∧ CS pl (wr k tok w) t S') (f_Mn_failed (nI k) (nI tok) S) := by
  obtain ⟨⟨h1, h2⟩, h3, h4⟩ := id h
  unfold f_Mn_failed f_Mn_failed_b0
  rw [h1]
  by_cases q : w.1 = 0
  · rw [if_pos (show nI w.1 = 0 by rw [q]; rfl), letS_e, Tp_placeAt hQ (hT.f3 ((F3.rf S).p 2 _)) ht, bind_e, letS_e]
    refine Ok.i ⟨((F3.rf S).p 2 _).p 0 _, ?_⟩
    unfold wr
    rw [if_pos q]
    exact ⟨⟨rfl, hk.2⟩, (if_neg (show ¬ k = 0 by omega)).symm, h4⟩
  · rw [if_neg (nI_ne0 (by omega) (by omega))]
    refine Ok.i ⟨F3.rf S, ?_⟩
    unfold wr
    rw [if_neg q]; exact h
theorem CS.nx (h : CS pl w t S) : CS pl w (t + 1) (pI S 3 3 (nI t + 1)) := ⟨h.1, h.2.1, by rw [pI_1, if_pos ⟨rfl, rfl⟩, nI_1]⟩
theorem Mn_number (hQ : Q ≤ 400) (hT : TC kd pl vl Q S) (h : CS pl w t S) (ht : t ≤ Q) (hk : kd t = 48) (hv : vl t ≤ 9999) {lo hi : Nat} (hlo : lo ≤ 9999) (hhi : hi ≤ 9999) : Ok (fun z : Int32 × Mem => z.1 = nI (vl t) ∧ F3 S z.2 ∧ CS pl (bdW vl lo hi t w) (t + 1) z.2) (f_Mn_number (nI lo) (nI hi) S) := by
  unfold f_Mn_number f_Mn_number_b0
  rw [h.2.2, Tp_valueAt hQ hT ht (Or.inr hk), bind_e, letS_e, lN_i]
  have bad : (vl t < lo ∨ hi < vl t) → Ok (fun z : Int32 × Mem => z.1 = nI (vl t) ∧ F3 S z.2 ∧ CS pl (bdW vl lo hi t w) (t + 1) z.2) (f_Mn_number_b23 (nI (vl t)) S) := fun b => by
    unfold f_Mn_number_b23 f_Mn_number_b32
    rw [h.2.2]
    refine (Mn_failed (k := 5) hQ hT h (by omega) ht).b (fun S1 g1 => ?_)
    rw [letS_e, g1.2.2.2]
    refine Ok.i ⟨rfl, g1.1.p 3 _, ?_⟩
    unfold bdW
    rw [if_pos b]; exact g1.2.nx
  by_cases q1 : vl t < lo
  · rw [if_pos (nI_lt q1 (by omega))]; exact bad (Or.inl q1)
  · rw [if_neg (nI_nlt (by omega) (by omega))]
    by_cases q2 : vl t ≤ hi
    · rw [if_pos (nI_le q2 (by omega))]
      unfold f_Mn_number_b32
      rw [letS_e, h.2.2]
      refine Ok.i ⟨rfl, (F3.rf S).p 3 _, ?_⟩
      unfold bdW
      rw [if_neg (by omega)]; exact h.nx
    · rw [if_neg (le_nI q2 (by omega) (by omega))]; exact bad (Or.inr (by omega))
theorem fd_y {s x : Nat} (h : fdN l s x l.1 < l.1) : (l.2 (fdN l s x l.1)).1 = x ∧ (s = 3 ∨ (l.2 (fdN l s x l.1)).2.1 = s) := Classical.not_not.mp (runF_s (Q := fun j => ¬ ((l.2 j).1 = x ∧ (s = 3 ∨ (l.2 j).2.1 = s))) (L := l.1) l.1 0 rfl h)
theorem fd_n {s x : Nat} (h : ¬ fdN l s x l.1 < l.1) {j : Nat} (hj : j < l.1) : ¬ ((l.2 j).1 = x ∧ (s = 3 ∨ (l.2 j).2.1 = s)) := by
  have h : ¬ runF (fun j => ¬ ((l.2 j).1 = x ∧ (s = 3 ∨ (l.2 j).2.1 = s))) l.1 0 < l.1 := h
  exact runF_in (Q := fun j => ¬ ((l.2 j).1 = x ∧ (s = 3 ∨ (l.2 j).2.1 = s))) l.1 0 j (by omega) (by omega)
/-- the names that the class holds -/
def NmC (l : NLt) (c : Nat → Nat) (S : Mem) : Prop := (∀ j, j < l.1 → (l.2 j).2.1 ≤ 2 ∧ (l.2 j).2.2 < c (l.2 j).2.1 ∧ S.2.2 3 (4 + (l.2 j).2.1) (l.2 j).2.2 = lN (l.2 j).1 ∧ (l.2 j).1 < 2 ^ 62) ∧ (∀ s i, s ≤ 2 → i < c s → ∃ j, j < l.1 ∧ (l.2 j).2.1 = s ∧ (l.2 j).2.2 = i) ∧ ∀ j j', j < l.1 → j' < l.1 → (l.2 j).1 = (l.2 j').1 → j = j'
def cLe (c : Nat → Nat) : Prop := c 0 ≤ 4 ∧ c 1 ≤ 7 ∧ c 2 ≤ 8 ∧ c 3 ≤ 12
theorem NmC.e (h : NmC l c S) (e : S'.2.2 3 = S.2.2 3) : NmC l c S' := ⟨fun j hj => by rw [e]; exact h.1 j hj, h.2⟩
theorem nm_c {s : Nat} (hs : s ≤ 2) (hc : cLe c) : c s ≤ nmLen (4 + s) ∧ nmLen (4 + s) ≤ 8 := by
  obtain ⟨h0, h1, h2, -⟩ := hc
  rcases (show s = 0 ∨ s = 1 ∨ s = 2 by omega) with rfl | rfl | rfl
  · exact ⟨h0, by decide⟩
  · exact ⟨h1, by decide⟩
  · exact ⟨h2, by decide⟩
theorem Mn_find (hN : NmC l c S) (hc : cLe c) {s x : Nat} (hs : s ≤ 2) (hx : x < 2 ^ 62) : f_Mn_find (4 + s) (nI (c s)) (lN x) S = some (if fdN l s x l.1 < l.1 then nI (l.2 (fdN l s x l.1)).2.2 else -1) := by
  obtain ⟨b1, b2⟩ := nm_c hs hc
  obtain ⟨n1, n2, n3⟩ := hN
  refine lpN (P := fun m i => (∀ i', i' < i → ∀ j, j < l.1 → (l.2 j).2.1 = s → (l.2 j).2.2 = i' → ¬ (l.2 j).1 = x) → f_Mn_find_l3 (4 + s) S m (nI (c s)) (lN x) (nI i) = some (if fdN l s x l.1 < l.1 then nI (l.2 (fdN l s x l.1)).2.2 else -1)) (c s) (fun m i hi ih g => ?_) (fun m g => ?_) 5000 0 (by omega) (by omega) (fun i' hi' => absurd hi' (by omega))
  · show f_Mn_find_b3 (4 + s) S (f_Mn_find_l3 (4 + s) S m) (nI (c s)) (lN x) (nI i) = _
    obtain ⟨j, hj, j1, j2⟩ := n2 s i hs hi
    obtain ⟨k1, k2, k3, k4⟩ := n1 j hj
    rw [j1, j2] at k3
    simp only [f_Mn_find_b3, if_neg (le_nI (show ¬ c s ≤ i by omega) (by omega) (by omega)), if_neg (show ¬ (Int32.ofNat (nmLen (4 + s))) ≤ nI i from le_nI (by omega) (by omega) (by omega)), gIn_n (show i < nmLen (4 + s) by omega) (by omega), cl (show i < 4096 by omega), k3, lg_cmp_eq, pk_lEQ (show (l.2 j).1 < 2 ^ 63 by omega) (show x < 2 ^ 63 by omega), nI_1]
    by_cases q : (l.2 j).1 = x
    · rw [if_pos q]
      have fy : fdN l s x l.1 < l.1 := Classical.byContradiction (fun z => fd_n z hj ⟨q, Or.inr j1⟩)
      have := n3 _ _ fy hj (by rw [(fd_y fy).1, q])
      rw [if_pos fy, this, j2]
    · rw [if_neg q]
      refine ih (fun i' hi' j' hj' e1 e2 => ?_)
      by_cases ei : i' = i
      · intro e3
        have k3' := (n1 j' hj').2.2.1
        rw [e1, e2, ei, k3] at k3'
        have := (pk_lEQ (show (l.2 j).1 < 2 ^ 63 by omega) (show (l.2 j').1 < 2 ^ 63 by have := (n1 j' hj').2.2.2; omega)).mp k3'
        exact q (by rw [this, e3])
      · exact g i' (by omega) j' hj' e1 e2
  · show f_Mn_find_b3 (4 + s) S (f_Mn_find_l3 (4 + s) S m) (nI (c s)) (lN x) (nI (c s)) = _
    unfold f_Mn_find_b3
    rw [if_pos (le_rf _), if_neg]
    intro fy
    obtain ⟨y1, y2⟩ := fd_y fy
    have y2 := y2.resolve_left (by omega)
    have := (n1 _ fy).2.1
    rw [y2] at this
    exact g _ this _ fy y2 rfl y1
theorem neg1 : ¬ (0 : Int32) ≤ -1 := by decide
theorem Mn_isTold (hN : NmC l c S) (hc : cLe c) (e0 : S.1 tx 0 = nI (c 0)) (e1 : S.1 tx 1 = nI (c 1)) (e2 : S.1 tx 2 = nI (c 2)) {x : Nat} (hx : x < 2 ^ 62) : f_Mn_isTold tx (lN x) S = some (if fdN l 3 x l.1 < l.1 then 1 else 0) := by
  unfold f_Mn_isTold f_Mn_isTold_b0
  have yes : ∀ s, s ≤ 2 → fdN l s x l.1 < l.1 → fdN l 3 x l.1 < l.1 := fun s hs h => Classical.byContradiction (fun z => fd_n z h ⟨(fd_y h).1, Or.inl rfl⟩)
  have bnd : ∀ s, s ≤ 2 → fdN l s x l.1 < l.1 → (l.2 (fdN l s x l.1)).2.2 < 2 ^ 31 := fun s hs h => by
    have := hN.1 _ h
    have q := (nm_c this.1 hc)
    have := this.2.1
    omega
  rw [e0, show (4 : Nat) = 4 + 0 from rfl, Mn_find hN hc (s := 0) (by omega) hx, bind_e]
  by_cases q0 : fdN l 0 x l.1 < l.1
  · rw [if_pos q0, if_pos (nI_pos' (bnd 0 (by omega) q0)), if_pos (yes 0 (by omega) q0)]
  rw [if_neg q0, if_neg neg1, e1, show (5 : Nat) = 4 + 1 from rfl, Mn_find hN hc (s := 1) (by omega) hx, bind_e]
  by_cases q1 : fdN l 1 x l.1 < l.1
  · rw [if_pos q1, if_pos (nI_pos' (bnd 1 (by omega) q1)), if_pos (yes 1 (by omega) q1)]
  rw [if_neg q1, if_neg neg1, e2, show (6 : Nat) = 4 + 2 from rfl, Mn_find hN hc (s := 2) (by omega) hx, bind_e]
  by_cases q2 : fdN l 2 x l.1 < l.1
  · rw [if_pos q2, if_neg (nI_pos (bnd 2 (by omega) q2)), if_pos (yes 2 (by omega) q2)]
  rw [if_neg q2, if_pos (by decide), if_neg]
  intro h
  obtain ⟨y1, -⟩ := fd_y h
  have := (hN.1 _ h).1
  rcases (show (l.2 (fdN l 3 x l.1)).2.1 = 0 ∨ (l.2 (fdN l 3 x l.1)).2.1 = 1 ∨ (l.2 (fdN l 3 x l.1)).2.1 = 2 by omega) with z | z | z
  · exact fd_n q0 h ⟨y1, Or.inr z⟩
  · exact fd_n q1 h ⟨y1, Or.inr z⟩
  · exact fd_n q2 h ⟨y1, Or.inr z⟩
theorem Mn_newName (hQ : Q ≤ 400) (hT : TC kd pl vl Q S) (h : CS pl w t S) (ht : t ≤ Q) (hk : kd t = 97) (hv : vl t < 2 ^ 62) (hN : NmC l c S) (hc : cLe c) (e0 : S.1 tx 0 = nI (c 0)) (e1 : S.1 tx 1 = nI (c 1)) (e2 : S.1 tx 2 = nI (c 2)) : Ok (fun z : Int64 × Mem => z.1 = lN (vl t) ∧ F3 S z.2 ∧ CS pl (nwW vl l t w) (t + 1) z.2) (f_Mn_newName tx S) := by
  unfold f_Mn_newName f_Mn_newName_b0
  rw [h.2.2, Tp_valueAt hQ hT ht (Or.inl hk), bind_e, Mn_isTold hN hc e0 e1 e2 hv, bind_e]
  unfold nwW
  by_cases q : fdN l 3 (vl t) l.1 < l.1
  · rw [if_pos q, if_pos q, i10]
    refine (Mn_failed (k := 3) hQ hT h (by omega) ht).b (fun S1 g1 => ?_)
    unfold f_Mn_newName_b30
    rw [letS_e, g1.2.2.2]
    exact Ok.i ⟨rfl, g1.1.p 3 _, g1.2.nx⟩
  · rw [if_neg q, if_neg q, i00]
    unfold f_Mn_newName_b30
    rw [letS_e, h.2.2]
    exact Ok.i ⟨rfl, (F3.rf S).p 3 _, h.nx⟩
theorem Mn_oldName (hQ : Q ≤ 400) (hT : TC kd pl vl Q S) (h : CS pl w t S) (ht : t ≤ Q) (hk : kd t = 97) (hv : vl t < 2 ^ 62) {s : Nat} (hs : s ≤ 2) (hN : NmC l c S) (hc : cLe c) : Ok (fun z : Int32 × Mem => z.1 = odX vl l s t ∧ F3 S z.2 ∧ CS pl (odW vl l s t w) (t + 1) z.2) (f_Mn_oldName (4 + s) (nI (c s)) S) := by
  unfold f_Mn_oldName f_Mn_oldName_b0
  rw [h.2.2, Tp_valueAt hQ hT ht (Or.inl hk), bind_e, Mn_find hN hc hs hv, bind_e]
  unfold odW odX
  by_cases q : fdN l s (vl t) l.1 < l.1
  · have b : (l.2 (fdN l s (vl t) l.1)).2.2 < 2 ^ 31 := by
      have := hN.1 _ q
      have q := (nm_c this.1 hc)
      have := this.2.1
      omega
    rw [if_pos q, if_pos (nI_pos' b), if_pos q]
    unfold f_Mn_oldName_b30
    rw [letS_e, h.2.2]
    exact Ok.i ⟨rfl, (F3.rf S).p 3 _, h.nx⟩
  · rw [if_neg q, if_neg neg1, if_neg q]
    refine (Mn_failed (k := 4) hQ hT h (by omega) ht).b (fun S1 g1 => ?_)
    unfold f_Mn_oldName_b30
    rw [letS_e, g1.2.2.2]
    exact Ok.i ⟨rfl, g1.1.p 3 _, g1.2.nx⟩
/-- a name that is found is one that is there -/
theorem odX_ok (hN : NmC l c S) {s : Nat} (hs : s ≤ 2) (h : fdN l s (vl t) l.1 < l.1) : ∃ i, i < c s ∧ odX vl l s t = nI i := by
  refine ⟨_, ?_, by unfold odX; rw [if_pos h]⟩
  have y := (fd_y h).2.resolve_left (by omega)
  have := (hN.1 _ h).2.1
  rw [y] at this; exact this
