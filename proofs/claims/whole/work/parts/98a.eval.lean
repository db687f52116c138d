/-! READ: what laws tell. eC: code over variables g, the pile (top first), nothing where it breaks. -/
def jn (k a b : Int32) : Int32 := if k = 42 then a * b else if k = 43 then a + b else if k = 45 then a - b else a / b
def jn2 (k : Int32) : List Int32 → Option (List Int32)
  | b :: a :: st => if k = 47 ∧ b = 0 then none else some (jn k a b :: st)
  | _ => none
def eI (g : Nat → Int32) (x : Int32 × Int32) (st : List Int32) : Option (List Int32) := if yIs x.1 then jn2 x.1 st else some ((if x.1 = 0 then x.2 else g x.2.toNatClampNeg) :: st)
def eC (g : Nat → Int32) : Cd → Option (List Int32)
  | [] => some []
  | x :: C => Option.bind (eC g C) (eI g x)
theorem eC_up {g : Nat → Int32} {D : Cd} (h : eC g D = none) : ∀ X : Cd, eC g (X ++ D) = none
  | [] => h
  | x :: X => by rw [List.cons_append, eC, eC_up h X]; rfl
theorem eC_dn {g : Nat → Int32} {C : Cd} {n : Nat} (h : eC g (C.drop n) = none) : eC g C = none := by
  have := eC_up h (C.take n)
  rwa [List.take_append_drop] at this
theorem eC_len {g : Nat → Int32} : ∀ (C : Cd) (st : List Int32), yWf C → eC g C = some st → st.length = yDep C
  | [], st, _, h => by
    have : [] = st := Option.some.inj h
    rw [← this]; rfl
  | x :: C, st, hw, h => by
    obtain ⟨s1, e1, e2⟩ := Option.bind_eq_some_iff.mp (show Option.bind (eC g C) (eI g x) = some st from h)
    have l1 := eC_len C s1 hw.1 e1
    unfold eI at e2
    show st.length = if yIs x.1 then yDep C - 1 else yDep C + 1
    by_cases q : yIs x.1
    · rw [if_pos q] at e2 ⊢
      match s1, e2, l1 with
      | b :: a :: s2, e2, l1 =>
        have e2 : (if x.1 = 47 ∧ b = 0 then none else some (jn x.1 a b :: s2)) = some st := e2
        by_cases q2 : x.1 = 47 ∧ b = 0
        · rw [if_pos q2] at e2; exact absurd e2 (by simp)
        · rw [if_neg q2] at e2
          have := Option.some.inj e2
          rw [← this, ← l1]; simp
      | [b], e2, l1 => exact absurd e2 (by simp [jn2])
      | [], e2, l1 => exact absurd e2 (by simp [jn2])
    · rw [if_neg q] at e2 ⊢
      have := Option.some.inj e2
      rw [← this, ← l1]; rfl
theorem yWf_dn : ∀ (n : Nat) (C : Cd), yWf C → yWf (C.drop n)
  | 0, C, h => h
  | n + 1, [], h => h
  | n + 1, x :: C, h => yWf_dn n C h.1
theorem cdG_dn {g : Int32 → Int32} {a : Nat} {f1 f2 : Nat → Int32} : ∀ (n : Nat) (C : Cd), cdG g a f1 f2 C → cdG g a f1 f2 (C.drop n)
  | 0, C, h => h
  | n + 1, [], h => h
  | n + 1, x :: C, h => cdG_dn n C h.2.2
theorem dropS {α : Type} {L : List α} {n : Nat} (h : n < L.length) : ∃ x, L.drop n = x :: L.drop (n + 1) ∧ L.take (n + 1) = L.take n ++ [x] ∧ x ∈ L := ⟨L[n], List.drop_eq_getElem_cons h, by rw [List.take_succ, List.getElem?_eq_getElem h]; rfl, List.getElem_mem h⟩
theorem m1 (n : Nat) : nI (n + 1) + (-1) = nI n := by
  rw [show nI (n + 1) + (-1) = nI (n + 1) - 1 from (Int32.sub_eq_add_neg _ _).symm, nI_pred]
/-- what is on the pile at least -/
theorem two_of {L : List Int32} (h : 2 ≤ L.length) : ∃ b a st, L = b :: a :: st := by
  match L, h with
  | b :: a :: st, _ => exact ⟨b, a, st, rfl⟩
def TmF (S S' : Mem) : Prop := (∀ k, k ≠ 55 → S'.1 0 k = S.1 0 k) ∧ (∀ f, f ≠ 54 → S'.2.1 0 f = S.2.1 0 f) ∧ S'.2.2 = S.2.2
theorem TmF.rf (S : Mem) : TmF S S := ⟨fun _ _ => rfl, fun _ _ => rfl, rfl⟩
theorem TmF.tr {A B C : Mem} (h1 : TmF A B) (h2 : TmF B C) : TmF A C := ⟨fun k h => (h2.1 k h).trans (h1.1 k h), fun f h => (h2.2.1 f h).trans (h1.2.1 f h), h2.2.2.trans h1.2.2⟩
theorem TmF.s {S S' : Mem} (h : TmF S S') (i x : Int32) : TmF S (sA S' 0 54 i x) := ⟨h.1, fun f hf => by rw [sA_2, if_neg (fun z => hf z.2)]; exact h.2.1 f hf, h.2.2⟩
theorem TmF.p {S S' : Mem} (h : TmF S S') (x : Int32) : TmF S (pI S' 0 55 x) := ⟨fun k hk => by rw [pI_1, if_neg (fun z => hk z.2)]; exact h.1 k hk, h.2.1, h.2.2⟩
theorem TmF.fr {S S' : Mem} (h : TmF S S') : Fr S S' := ⟨fun k hk => h.1 k (fun e => hk (by rw [e]; unfold scI; omega)), fun f hf => h.2.1 f (fun e => hf (by rw [e]; unfold scA; omega)), h.2.2⟩
def tmP (S : Mem) (r : Option (List Int32)) (z : Int32 × Mem) : Prop := TmF S z.2 ∧ ((r = none ∧ z.2.1 0 55 = 1) ∨ (∃ st, r = some st ∧ z.1 = st.headD 0 ∧ z.2.1 0 55 = S.1 0 55))
theorem yIs_m {k : Int32} (h : yIs k) : 2 ≤ mOp k ∧ (mOp k = 5 ↔ k = 47) ∧ (mOp k = 2 ↔ k = 43) ∧ (mOp k = 3 ↔ k = 45) ∧ (mOp k = 4 ↔ k = 42) := by
  rcases h with rfl | rfl | rfl | rfl <;> decide
theorem join_m {k : Int32} (h : yIs k) (K : Int32 → Int32 → Int32 → Mem → Option (Int32 × Mem)) {x2 x3 x4 a b : Int32} {S : Mem} (hb : ¬ (k = 47 ∧ b = 0)) : f_Mo_termOf_b104 K x2 x3 x4 (mOp k) a b S = f_Mo_termOf_b158 K x2 x3 x4 (jn k a b) (x3 - 1) S := by
  obtain ⟨y1, y2, y3, y4, y5⟩ := yIs_m h
  unfold f_Mo_termOf_b104 jn
  rcases h with rfl | rfl | rfl | rfl
  · rw [if_neg (by decide), if_neg (by decide), if_pos (by decide), if_pos rfl]
  · rw [if_neg (by decide), if_neg (by decide), if_neg (by decide), if_neg (by decide), if_neg (by decide), if_neg (by decide)]
    unfold gNz
    rw [if_neg (fun z => hb ⟨rfl, z⟩)]
  · rw [if_pos (by decide), if_neg (by decide), if_pos rfl]
  · rw [if_neg (by decide), if_pos (by decide), if_neg (by decide), if_neg (by decide), if_pos rfl]
theorem Mo_term5 {a : Nat} {C : Cd} {S : Mem} (hW : yWf C) (hD : yDep C = 1) (ha : a + C.length ≤ 840) (hC : cdG mOp a (S.2.1 0 49) (S.2.1 0 50) C) : ∀ (n : Nat), n ≤ C.length → ∀ (m : Nat) (S' : Mem) (st : List Int32), n < m → TmF S S' → S'.1 0 55 = S.1 0 55 → eC (S.2.1 0 53) (C.drop n) = some st → wtG (fun x => x) (S'.2.1 0 54) st → Ok (tmP S (eC (S.2.1 0 53) C)) (f_Mo_termOf_l5 m (nI (a + C.length)) (nI st.length) (nI (a + (C.length - n))) S') := by
  intro n
  induction n with
  | zero =>
    intro hn m S' st hm hF h55 he hp
    obtain ⟨m, rfl⟩ : ∃ k, m = k + 1 := ⟨m - 1, by omega⟩
    show Ok _ (f_Mo_termOf_b5 (f_Mo_termOf_l5 m) (nI (a + C.length)) (nI st.length) (nI (a + (C.length - 0))) S')
    unfold f_Mo_termOf_b5
    rw [Nat.sub_zero, if_pos (le_rf _), gIn_l 0 0 rfl (by decide) (by decide)]
    have he : eC (S.2.1 0 53) C = some st := he
    have hl := eC_len C st hW he
    rw [hD] at hl
    match st, hl, hp with
    | [x], _, hp =>
      refine Ok.i ⟨hF, Or.inr ⟨[x], he, ?_, h55⟩⟩
      exact hp.1
  | succ n ih =>
    intro hn m S' st hm hF h55 he hp
    obtain ⟨m, rfl⟩ : ∃ k, m = k + 1 := ⟨m - 1, by omega⟩
    show Ok _ (f_Mo_termOf_b5 (f_Mo_termOf_l5 m) (nI (a + C.length)) (nI st.length) (nI (a + (C.length - (n + 1)))) S')
    obtain ⟨x, ex, -, -⟩ := dropS (L := C) (n := n) (by omega)
    have wf := yWf_dn n C hW
    have cd := cdG_dn n C hC
    rw [ex] at wf cd
    have hl := eC_len _ st wf.1 he
    have pl : (C.drop (n + 1)).length = C.length - (n + 1) := List.length_drop ..
    obtain ⟨cd1, cd2, -⟩ := cd
    rw [pl] at cd1 cd2
    have ee : eC (S.2.1 0 53) (C.drop n) = eI (S.2.1 0 53) x st := by rw [ex, eC, he]; rfl
    have next : C.length - (n + 1) + 1 = C.length - n := by omega
    unfold f_Mo_termOf_b5
    rw [if_neg (le_nI (by omega) (by omega) (by omega)), gIn_n (show a + (C.length - (n + 1)) < 840 by omega) (by decide), letS_e, cl (show a + (C.length - (n + 1)) < 4096 by omega), hF.2.1 49 (by decide), hF.2.1 50 (by decide), cd1, cd2]
    rcases wf.2 with ⟨k1, k2, k3⟩ | ⟨k1, ⟨j, hj, k2⟩, k3⟩ | ⟨k1, ⟨j, hj, k2⟩, k3⟩
    · obtain ⟨y1, y2, -, -, -⟩ := yIs_m k1
      rw [if_pos y1]
      obtain ⟨b, c, s2, rfl⟩ := two_of (show 2 ≤ st.length by omega)
      have l30 : yDep (C.drop (n + 1)) ≤ 40 := by
        have : ∀ D : Cd, yWf D → yDep D ≤ 30 := fun D => by
          induction D with
          | nil => intro _; exact Nat.zero_le _
          | cons y D ihD =>
            intro w
            have := ihD w.1
            show (if yIs y.1 then yDep D - 1 else yDep D + 1) ≤ 30
            rcases w.2 with ⟨z1, -, -⟩ | ⟨z1, -, z3⟩ | ⟨z1, -, z3⟩
            · rw [if_pos z1]; omega
            · split <;> omega
            · split <;> omega
        have := this _ wf.1
        omega
      have hl2 : s2.length + 2 ≤ 40 := by have : (b :: c :: s2).length = s2.length + 2 := rfl; omega
      rw [show nI (b :: c :: s2).length = nI (s2.length + 1 + 1) from rfl, m1, nI_pred, gIn_n (show s2.length < 400 by omega) (by decide), letS_e, gIn_n (show s2.length + 1 < 400 by omega) (by decide), letS_e, cl (show s2.length < 4096 by omega), cl (show s2.length + 1 < 4096 by omega)]
      have p1 : S'.2.1 0 54 (s2.length + 1) = b := hp.1
      have p2 : S'.2.1 0 54 s2.length = c := hp.2.1
      rw [p1, p2]
      have ej : ¬ (x.1 = 47 ∧ b = 0) → eC (S.2.1 0 53) (C.drop n) = some (jn x.1 c b :: s2) := fun z => by
        rw [ee]; unfold eI; rw [if_pos k1]; exact if_neg z
      have good : ¬ (x.1 = 47 ∧ b = 0) → Ok (tmP S (eC (S.2.1 0 53) C)) (f_Mo_termOf_b104 (f_Mo_termOf_l5 m) (nI (a + C.length)) (nI (s2.length + 1)) (nI (a + (C.length - (n + 1)))) (mOp x.1) c b S') := fun z => by
        rw [join_m k1 _ z]
        unfold f_Mo_termOf_b158
        rw [nI_pred, gIn_n (show s2.length < 400 by omega) (by decide), letS_e, nI_1, show a + (C.length - (n + 1)) + 1 = a + (C.length - n) by omega]
        refine ih (by omega) m _ (jn x.1 c b :: s2) (by omega) (hF.s _ _) h55 (ej z) ⟨?_, ?_⟩
        · rw [sA_2, if_pos ⟨rfl, rfl⟩, cl (show s2.length < 4096 by omega), upd_at, if_pos rfl]
        · rw [sA_2, if_pos ⟨rfl, rfl⟩, cl (show s2.length < 4096 by omega)]
          exact wtG_u _ hp.2.2 (Nat.le_refl _)
      by_cases q : x.1 = 47
      · rw [if_pos (y2.mpr q)]
        by_cases q2 : b = 0
        · rw [if_pos q2, letS_e]
          refine Ok.i ⟨hF.p 1, Or.inl ⟨?_, rfl⟩⟩
          refine eC_dn (n := n) ?_
          rw [ee]; unfold eI; rw [if_pos k1]; exact if_pos ⟨q, q2⟩
        · rw [if_neg q2]; exact good (fun z => q2 z.2)
      · rw [if_neg (fun z => q (y2.mp z))]; exact good (fun z => q z.1)
    · have e0 : mOp x.1 = 0 := by rw [k1]; decide
      rw [e0, if_neg (by decide), if_pos rfl, gIn_n (show a + (C.length - (n + 1)) < 840 by omega) (by decide)]
      unfold f_Mo_termOf_b58
      rw [gIn_n (show st.length < 400 by omega) (by decide), letS_e, nI_1, nI_1, show a + (C.length - (n + 1)) + 1 = a + (C.length - n) by omega]
      refine ih (by omega) m _ (x.2 :: st) (by omega) (hF.s _ _) h55 ?_ ⟨?_, ?_⟩
      · rw [ee]; unfold eI; rw [if_neg (by rw [k1]; decide), if_pos k1]
      · rw [sA_2, if_pos ⟨rfl, rfl⟩, cl (show st.length < 4096 by omega), upd_at, if_pos rfl]
      · rw [sA_2, if_pos ⟨rfl, rfl⟩, cl (show st.length < 4096 by omega)]
        exact wtG_u _ hp (Nat.le_refl _)
    · have e0 : mOp x.1 = 1 := by rw [k1]; decide
      rw [e0, if_neg (by decide), if_neg (by decide), gIn_n (show a + (C.length - (n + 1)) < 840 by omega) (by decide), k2, gIn_n (show j < 8 by omega) (by decide), hF.2.1 53 (by decide), cl (show j < 4096 by omega)]
      unfold f_Mo_termOf_b58
      rw [gIn_n (show st.length < 400 by omega) (by decide), letS_e, nI_1, nI_1, show a + (C.length - (n + 1)) + 1 = a + (C.length - n) by omega]
      refine ih (by omega) m _ (S.2.1 0 53 j :: st) (by omega) (hF.s _ _) h55 ?_ ⟨?_, ?_⟩
      · rw [ee]; unfold eI; rw [if_neg (by rw [k1]; decide), if_neg (by rw [k1]; decide), k2, cl (show j < 4096 by omega)]
      · rw [sA_2, if_pos ⟨rfl, rfl⟩, cl (show st.length < 4096 by omega), upd_at, if_pos rfl]
      · rw [sA_2, if_pos ⟨rfl, rfl⟩, cl (show st.length < 4096 by omega)]
        exact wtG_u _ hp (Nat.le_refl _)
theorem Mo_termOf {a : Nat} {C : Cd} {S : Mem} (hW : cW C) (ha : a + C.length ≤ 840) (hC : cdG mOp a (S.2.1 0 49) (S.2.1 0 50) C) : Ok (tmP S (eC (S.2.1 0 53) C)) (f_Mo_termOf (nI a) (nI (a + C.length)) S) := by
  have := Mo_term5 hW.1 hW.2 ha hC C.length (Nat.le_refl _) 5000 S [] (by omega) (TmF.rf S) rfl (by rw [List.drop_length]; rfl) trivial
  rw [Nat.sub_self, Nat.add_zero] at this
  exact this
