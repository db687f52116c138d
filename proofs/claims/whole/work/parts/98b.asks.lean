/-! READ: what laws tell, branch by branch; the reference asks them. -/
def hd1 (x : Option (List Int32)) : Option Int32 := x.map (fun st => st.headD 0)
def eB (g : Nat → Int32) : List BrT → Option Int32
  | [] => none
  | (none, C) :: _ => hd1 (eC g C)
  | (some y, C) :: q => Option.bind (hd1 (eC g y.1)) (fun a => Option.bind (hd1 (eC g y.2)) (fun b => if a < b then hd1 (eC g C) else eB g q))
def FG (G : LwG) : LF := fun k => if k < 3 then (G k).map (fun r g => (eB g r.reverse).getD (-1)) else none
theorem FG_n {G : LwG} {k : Nat} (hk : k < 3) (h : G k = none) : FG G k = none := by unfold FG; rw [if_pos hk, h]; rfl
theorem FG_s {G : LwG} {k : Nat} {r : List BrT} (hk : k < 3) (h : G k = some r) : FG G k = some (fun g => (eB g r.reverse).getD (-1)) := by unfold FG; rw [if_pos hk, h]; rfl
theorem hel_n (most : Int32) : hel (-1) most = 0 := if_neg (by decide)
theorem eC_8 {f f' : Nat → Int32} (h : V8 f f') : ∀ C : Cd, yWf C → eC f C = eC f' C
  | [], _ => rfl
  | x :: C, w => by
    rw [eC, eC, eC_8 h C w.1]
    have : eI f x = eI f' x := by
      funext st
      unfold eI
      rcases w.2 with ⟨k1, -, -⟩ | ⟨k1, -, -⟩ | ⟨k1, ⟨j, hj, k2⟩, -⟩
      · rw [if_pos k1, if_pos k1]
      · rw [if_pos k1, if_pos k1]
      · rw [k2, cl (show j < 4096 by omega), h j hj]
    rw [this]
theorem eB_8 {f f' : Nat → Int32} (h : V8 f f') : ∀ r : List BrT, (∀ x, x ∈ r → brW x) → eB f r = eB f' r
  | [], _ => rfl
  | (none, C) :: q, w => by
    have w1 : brW (none, C) := w _ (List.mem_cons_self)
    rw [eB, eB, eC_8 h C w1.1]
  | (some y, C) :: q, w => by
    have w1 : brW (some y, C) := w _ (List.mem_cons_self)
    rw [eB, eB, eC_8 h C w1.2.2.1, eC_8 h _ w1.1.1, eC_8 h _ w1.2.1.1, eB_8 h q (fun x hx => w x (List.mem_cons_of_mem _ hx))]
theorem FG_8 {G : LwG} (hG : ∀ k, k < 3 → ∀ r, G k = some r → ∀ x, x ∈ r → brW x) : L8 (FG G) := by
  intro k g e f f' h
  unfold FG at e
  by_cases hk : k < 3
  · rw [if_pos hk] at e
    cases q : G k with
    | none => rw [q] at e; exact absurd e (by simp)
    | some r =>
      rw [q] at e
      have e := Option.some.inj e
      rw [← e]
      show (eB f r.reverse).getD (-1) = (eB f' r.reverse).getD (-1)
      rw [eB_8 h r.reverse (fun x hx => hG k hk r q x (List.mem_reverse.mp hx))]
  · rw [if_neg hk] at e; exact absurd e (by simp)
theorem Mo_asks128 {b a cb : Nat} {C : Cd} {S2 S' : Mem} (hb : b < 260) (h : tmM b a cb C S2) (hc : cb ≤ 840) (hw : cW C) (hF : TmF S2 S') (h55 : S'.1 0 55 = 0) {most : Int32} : Ok (fun z : Int32 × Mem => z.1 = hel ((hd1 (eC (S2.2.1 0 53) C)).getD (-1)) most ∧ TmF S2 z.2) (f_Mo_asks_b128 most (nI b) S') := by
  obtain ⟨t1, t2, t3, t4⟩ := h
  unfold f_Mo_asks_b128
  rw [gIn_n (show b < 260 by omega) (by decide), gIn_n (show b < 260 by omega) (by decide), cl (show b < 4096 by omega), hF.2.1 46 (by decide), hF.2.1 47 (by decide), t1, t2]
  have g := Mo_termOf (S := S') hw (show a + C.length ≤ 840 by omega) (by rw [hF.2.1 49 (by decide), hF.2.1 50 (by decide)]; exact t3)
  rw [hF.2.1 53 (by decide)] at g
  refine g.b (fun z hz => ?_)
  rw [letS_e]
  rcases hz.2 with ⟨e, e55⟩ | ⟨st, e, e1, e55⟩
  · rw [e55, i10, e]
    exact Ok.i ⟨(hel_n most).symm, hF.tr hz.1⟩
  · rw [e55, h55, i00, Mo_held, bind_e, e, e1]
    exact Ok.i ⟨rfl, hF.tr hz.1⟩
theorem bsM_dn {lo b cb : Nat} {S : Mem} : ∀ (n : Nat) (r : List BrT), bsM lo b cb S r → bsM lo b cb S (r.drop n)
  | 0, r, h => h
  | n + 1, [], h => h
  | n + 1, x :: r, h => bsM_dn n r h.2
theorem Mo_asks47 {u k b0 lo cb : Nat} {r : List BrT} {S2 : Mem} {most : Int32} (hu : u < 2) (hk : k < 3) (hb : b0 + r.length ≤ 260) (e41 : S2.2.1 0 41 (3 * u + k) = nI (b0 + r.length)) (hr : bsM lo b0 cb S2 r) (hc : cb ≤ 840) (hw : ∀ x, x ∈ r → brW x) : ∀ n, n ≤ r.length → ∀ (m : Nat) (S' : Mem), n < m → TmF S2 S' → S'.1 0 55 = 0 → Ok (fun z : Int32 × Mem => z.1 = hel ((eB (S2.2.1 0 53) (r.take n).reverse).getD (-1)) most ∧ TmF S2 z.2) (f_Mo_asks_l47 m most (nI (3 * u + k)) (nI (b0 + (r.length - n))) S') := by
  intro n
  induction n with
  | zero =>
    intro hn m S' hm hF h55
    obtain ⟨m, rfl⟩ : ∃ k, m = k + 1 := ⟨m - 1, by omega⟩
    show Ok _ (f_Mo_asks_b47 (f_Mo_asks_l47 m) most (nI (3 * u + k)) (nI (b0 + (r.length - 0))) S')
    unfold f_Mo_asks_b47
    rw [gIn_n (show 3 * u + k < 6 by omega) (by decide), cl (show 3 * u + k < 4096 by omega), hF.2.1 41 (by decide), e41, Nat.sub_zero, if_pos (le_rf _)]
    exact Ok.i ⟨(hel_n most).symm, hF⟩
  | succ n ih =>
    intro hn m S' hm hF h55
    obtain ⟨m, rfl⟩ : ∃ k, m = k + 1 := ⟨m - 1, by omega⟩
    show Ok _ (f_Mo_asks_b47 (f_Mo_asks_l47 m) most (nI (3 * u + k)) (nI (b0 + (r.length - (n + 1)))) S')
    obtain ⟨x, ex, et, em⟩ := dropS (L := r) (n := n) (by omega)
    have br := bsM_dn n r hr
    rw [ex] at br
    have br := br.1
    rw [List.length_drop] at br
    have w := hw x em
    have er : (r.take (n + 1)).reverse = x :: (r.take n).reverse := by rw [et]; simp
    rw [er]
    have nx : b0 + (r.length - (n + 1)) + 1 = b0 + (r.length - n) := by omega
    have hB : b0 + (r.length - (n + 1)) < 260 := by omega
    generalize b0 + (r.length - (n + 1)) = B at br nx hB ⊢
    unfold f_Mo_asks_b47
    rw [gIn_n (show 3 * u + k < 6 by omega) (by decide), cl (show 3 * u + k < 4096 by omega), hF.2.1 41 (by decide), e41, if_neg (le_nI (by omega) (by omega) (by omega)), gIn_n hB (by decide), cl (show B < 4096 by omega), hF.2.1 43 (by decide)]
    obtain ⟨q, C⟩ := x
    cases q with
    | none =>
      obtain ⟨e43, a, -, tm⟩ := br
      rw [e43, i00]
      exact Mo_asks128 hB tm hc w hF h55
    | some y =>
      obtain ⟨e43, a, ha, e44, e45, c1, c2, tm⟩ := br
      obtain ⟨w1, w2, w3⟩ := w
      have tl := tm.2.2.2
      rw [e43, i10, gIn_n hB (by decide), gIn_n hB (by decide), hF.2.1 44 (by decide), hF.2.1 45 (by decide), e44, e45]
      have g1 := Mo_termOf (S := S') w1 (show a + y.1.length ≤ 840 by omega) (by rw [hF.2.1 49 (by decide), hF.2.1 50 (by decide)]; exact c1)
      rw [hF.2.1 53 (by decide)] at g1
      refine g1.b (fun z1 hz1 => ?_)
      have F1 := hF.tr hz1.1
      rw [letS_e, gIn_n hB (by decide), gIn_n hB (by decide), F1.2.1 45 (by decide), F1.2.1 46 (by decide), e45, tm.1]
      have g2 := Mo_termOf (S := z1.2) w2 (show a + y.1.length + y.2.length ≤ 840 by omega) (by rw [F1.2.1 49 (by decide), F1.2.1 50 (by decide)]; exact c2)
      rw [F1.2.1 53 (by decide)] at g2
      refine g2.b (fun z2 hz2 => ?_)
      have F2 := F1.tr hz2.1
      rw [letS_e, eB]
      rcases hz1.2 with ⟨n1, n55⟩ | ⟨s1, n1, v1, n55⟩
      · have : z2.2.1 0 55 = 1 := by
          rcases hz2.2 with ⟨-, z⟩ | ⟨-, -, -, z⟩
          · exact z
          · rw [z, n55]
        rw [this, i10, n1]
        exact Ok.i ⟨(hel_n most).symm, F2⟩
      · rcases hz2.2 with ⟨k1, k55⟩ | ⟨s2, k1, v2, k55⟩
        · rw [k55, i10, n1, k1]
          exact Ok.i ⟨(hel_n most).symm, F2⟩
        · have z55 : z2.2.1 0 55 = 0 := by rw [k55, n55, h55]
          rw [z55, i00, n1, k1, v1, v2]
          show Ok (fun z : Int32 × Mem => z.1 = hel ((if s1.headD 0 < s2.headD 0 then hd1 (eC (S2.2.1 0 53) C) else eB (S2.2.1 0 53) (r.take n).reverse).getD (-1)) most ∧ TmF S2 z.2) _
          by_cases lt : s1.headD 0 < s2.headD 0
          · rw [if_pos lt, if_pos lt]
            exact Mo_asks128 hB tm hc w3 F2 z55
          · rw [if_neg lt, if_neg lt, nI_1, nx]
            exact ih (by omega) m z2.2 (by omega) F2 z55
theorem cdG_r {g : Int32 → Int32} {a lo m : Nat} {f1 f2 g1 g2 : Nat → Int32} (h : ∀ i, lo ≤ i → i < m → g1 i = f1 i ∧ g2 i = f2 i) (hl : lo ≤ a) : ∀ C : Cd, cdG g a f1 f2 C → a + C.length ≤ m → cdG g a g1 g2 C
  | [], _, _ => trivial
  | x :: C, hc, hm => by
    have hm : a + (C.length + 1) ≤ m := hm
    obtain ⟨e1, e2⟩ := h (a + C.length) (by omega) (by omega)
    exact ⟨by rw [e1]; exact hc.1, by rw [e2]; exact hc.2.1, cdG_r h hl C hc.2.2 (by omega)⟩
theorem brM_r {lo b cb : Nat} {S S' : Mem} (hB : ∀ f, 43 ≤ f → f ≤ 47 → S'.2.1 0 f b = S.2.1 0 f b) (hC : ∀ i, lo ≤ i → i < cb → S'.2.1 0 49 i = S.2.1 0 49 i ∧ S'.2.1 0 50 i = S.2.1 0 50 i) : ∀ x : BrT, brM lo b cb S x → brM lo b cb S' x := by
  have tm : ∀ a C, lo ≤ a → tmM b a cb C S → tmM b a cb C S' := fun a C hl h => by
    obtain ⟨t1, t2, t3, t4⟩ := h
    exact ⟨by rw [hB 46 (by omega) (by omega)]; exact t1, by rw [hB 47 (by omega) (by omega)]; exact t2, cdG_r hC hl C t3 t4, t4⟩
  intro x h
  obtain ⟨q, C⟩ := x
  cases q with
  | none =>
    obtain ⟨e, a, ha, t⟩ := h
    exact ⟨by rw [hB 43 (by omega) (by omega)]; exact e, a, ha, tm a C ha t⟩
  | some y =>
    obtain ⟨e, a, ha, e2, e3, c1, c2, t⟩ := h
    have tl := t.2.2.2
    exact ⟨by rw [hB 43 (by omega) (by omega)]; exact e, a, ha, by rw [hB 44 (by omega) (by omega)]; exact e2, by rw [hB 45 (by omega) (by omega)]; exact e3, cdG_r hC ha y.1 c1 (by omega), cdG_r hC (by omega) y.2 c2 (by omega), tm _ C (by omega) t⟩
theorem bsM_r {lo b cb hi : Nat} {S S' : Mem} (hB : ∀ f i, 43 ≤ f → f ≤ 47 → b ≤ i → i < hi → S'.2.1 0 f i = S.2.1 0 f i) (hC : ∀ i, lo ≤ i → i < cb → S'.2.1 0 49 i = S.2.1 0 49 i ∧ S'.2.1 0 50 i = S.2.1 0 50 i) : ∀ r : List BrT, b + r.length ≤ hi → bsM lo b cb S r → bsM lo b cb S' r
  | [], _, _ => trivial
  | x :: r, hl, h => by
    have hl : b + (r.length + 1) ≤ hi := hl
    exact ⟨brM_r (fun f h1 h2 => hB f _ h1 h2 (by omega) (by omega)) hC x h.1, bsM_r hB hC r (by omega) h.2⟩
theorem ML_of {u b cb : Nat} {S : Mem} {G : LwG} (hu : u < 2) (e18 : S.1 0 18 = nI u) (hG : lawsM u b cb S G) (hb : b ≤ 130 * u + 130) (hc : cb ≤ 420 * u + 420) : ML (FG G) S := by
  intro S2 k plain most hl hk
  have cu : (S.1 0 18).toNatClampNeg = u := by rw [e18]; exact cl (by omega)
  obtain ⟨l1, l2⟩ := hl
  rw [cu] at l2
  have c40 : ∀ f i, f = 40 ∨ f = 41 → 3 * u ≤ i → i < 3 * u + 3 → S2.2.1 0 f i = S.2.1 0 f i := fun f i h1 h2 h3 => l2 f i (Or.inl ⟨h1, h2, h3⟩)
  have c43 : ∀ f i, 43 ≤ f → f ≤ 47 → 130 * u ≤ i → i < 130 * u + 130 → S2.2.1 0 f i = S.2.1 0 f i := fun f i h1 h2 h3 h4 => l2 f i (Or.inr (Or.inl ⟨⟨h1, h2⟩, h3, h4⟩))
  have c49 : ∀ i, 420 * u ≤ i → i < cb → S2.2.1 0 49 i = S.2.1 0 49 i ∧ S2.2.1 0 50 i = S.2.1 0 50 i := fun i h1 h2 => ⟨l2 49 i (Or.inr (Or.inr ⟨Or.inl rfl, h1, by omega⟩)), l2 50 i (Or.inr (Or.inr ⟨Or.inr rfl, h1, by omega⟩))⟩
  have h := hG k hk
  unfold f_Mo_asks f_Mo_asks_b0
  rw [letS_e, l1, e18, m3, gIn_n (show 3 * u + k < 6 by omega) (by decide), gIn_n (show 3 * u + k < 6 by omega) (by decide), cl (show 3 * u + k < 4096 by omega)]
  cases q : G k with
  | none =>
    rw [q] at h
    obtain ⟨a1, a2⟩ := h
    rw [c40 40 _ (Or.inl rfl) (by omega) (by omega), c40 41 _ (Or.inr rfl) (by omega) (by omega), a1, a2, if_pos rfl, Mo_held, bind_e]
    refine Ok.i ⟨?_, (TmF.rf S2).fr, rfl, rfl, rfl, rfl⟩
    unfold aL
    rw [FG_n hk q]
  | some r =>
    rw [q] at h
    obtain ⟨b0, a1, a2, a3, a4, a5, a6, a7⟩ := h
    have hne : 0 < r.length := List.length_pos_iff.mpr a6
    rw [c40 40 _ (Or.inl rfl) (by omega) (by omega), c40 41 _ (Or.inr rfl) (by omega) (by omega), a1, a2, if_neg (fun z => by have := (nI_eq (by omega) (by omega)).mp z; omega), letS_e, gIn_n (show 3 * u + k < 6 by omega) (by decide), letS_e]
    rw [show (pI S2 0 55 0).2.1 0 40 (3 * u + k) = nI b0 from (c40 40 _ (Or.inl rfl) (by omega) (by omega)).trans a1]
    have bs := bsM_r (hi := b0 + r.length) (S' := pI S2 0 55 0) (fun f i h1 h2 h3 h4 => c43 f i h1 h2 (by omega) (by omega)) c49 r (Nat.le_refl _) a5
    have := Mo_asks47 (u := u) (k := k) (b0 := b0) (S2 := pI S2 0 55 0) (most := most) hu hk (by omega) ((c40 41 _ (Or.inr rfl) (by omega) (by omega)).trans a2) bs (by omega) a7 r.length (Nat.le_refl _) 5000 (pI S2 0 55 0) (by omega) (TmF.rf _) rfl
    rw [Nat.sub_self, Nat.add_zero, List.take_length] at this
    refine this.m (fun z hz => ?_)
    have F := ((TmF.rf S2).p 0).tr hz.2
    refine ⟨?_, F.fr, F.2.1 57 (by decide), F.2.1 53 (by decide), F.2.1 59 (by decide), F.1 58 (by decide)⟩
    rw [hz.1]
    unfold aL
    rw [FG_s hk q]
    rfl
