/-! READ: the class tells laws, branch by branch. -/
def posL : List BrT → Nat
  | [] => 0
  | (none, C) :: r => posL r + C.length + 1
  | (some y, C) :: r => posL r + y.1.length + y.2.length + 1 + C.length + 1
def cbM (f : Nat → Int32) : List BrT → Prop
  | [] => True
  | (none, C) :: r => stC (posL r) f C ∧ f (posL r + C.length) = enc (3, 0) ∧ cbM f r
  | (some y, C) :: r => stC (posL r) f y.1 ∧ stC (posL r + y.1.length) f y.2 ∧ f (posL r + y.1.length + y.2.length) = enc (2, nI (posL r + y.1.length + y.2.length + 1 + C.length + 1)) ∧ stC (posL r + y.1.length + y.2.length + 1) f C ∧ f (posL r + y.1.length + y.2.length + 1 + C.length) = enc (3, 0) ∧ cbM f r
theorem cbM_dn {f : Nat → Int32} : ∀ (n : Nat) (r : List BrT), cbM f r → cbM f (r.drop n)
  | 0, r, h => h
  | n + 1, [], h => h
  | n + 1, (none, C) :: r, h => cbM_dn n r h.2.2
  | n + 1, (some y, C) :: r, h => cbM_dn n r h.2.2.2.2.2
theorem posL_c (x : BrT) (r : List BrT) : posL r < posL (x :: r) := by
  obtain ⟨q, C⟩ := x
  cases q with
  | none => show posL r < posL r + C.length + 1; omega
  | some y => show posL r < posL r + y.1.length + y.2.length + 1 + C.length + 1; omega
theorem posL_dn : ∀ (n : Nat) (r : List BrT), posL (r.drop n) ≤ posL r
  | 0, r => Nat.le_refl _
  | n + 1, [] => Nat.le_refl _
  | n + 1, x :: r => Nat.le_trans (posL_dn n r) (Nat.le_of_lt (posL_c x r))
theorem one_of {L : List Int32} (h : L.length = 1) : ∃ x, L = [x] := by
  match L, h with
  | [x], _ => exact ⟨x, rfl⟩
theorem Lw_end {lw p N mo m : Nat} {S S2 : Mem} {x : Int32} (e2 : S.1 lw 2 = nI N) (hN : N ≤ 400) (hp : p < N) (he : S.2.1 lw 0 p = enc (3, 0)) (hmo : mo < 2 ^ 31) (h2 : DL lw S S2) (hx : S2.2.1 lw 1 0 = x) : f_Lw_value_l5 lw (m + 1) (nI mo) (nI 1) (nI p) S2 = some (hel x (nI mo), S2) := by
  show f_Lw_value_b5 lw (f_Lw_value_l5 lw m) (nI mo) (nI 1) (nI p) S2 = _
  have o1 : enc (3, 0) &&& 255 = 3 := by decide +kernel
  have c0 : ((nI 1) - 1).toNatClampNeg = 0 := by decide
  unfold f_Lw_value_b5
  rw [h2.1, e2, if_neg (le_nI (by omega) (by omega) (by omega)), if_neg (show ¬ (Int32.ofNat 400) ≤ nI p from le_nI (by omega) (by decide) (by omega)), gIn_n (show p < 400 by omega) (by decide), letS_e, gIn_n (show p < 400 by omega) (by decide), letS_e, cl (show p < 4096 by omega), h2.2.1 lw 0 (by omega), he, o1, if_pos (show (1 : Int32) < 3 by decide), if_pos rfl, if_pos (show (1 : Int32) ≤ nI 1 by decide), gIn_l (nI 1 - 1) 0 (by decide) (by decide) (by decide), c0, hx, max_hel hmo]
theorem Lw_unl {lw p N m tg : Nat} {S S2 : Mem} {a b most : Int32} (e2 : S.1 lw 2 = nI N) (hN : N ≤ 400) (hp : p < N) (ht : p < tg) (ht2 : tg ≤ N) (he : S.2.1 lw 0 p = enc (nI 2, nI (tg + 1))) (h2 : DL lw S S2) (hb : S2.2.1 lw 1 1 = b) (ha : S2.2.1 lw 1 0 = a) : f_Lw_value_l5 lw (m + 1) most (nI 2) (nI p) S2 = if a < b then f_Lw_value_l5 lw m most 0 (nI (p + 1)) S2 else f_Lw_value_l5 lw m most 0 (nI (tg + 1)) S2 := by
  show f_Lw_value_b5 lw (f_Lw_value_l5 lw m) most (nI 2) (nI p) S2 = _
  obtain ⟨o1, o2⟩ := enc_n (s := 2) (n := tg + 1) (by omega) (by omega)
  have c1 : ((nI 2) - 1).toNatClampNeg = 1 := by decide
  have c0 : ((nI 2) - 2).toNatClampNeg = 0 := by decide
  unfold f_Lw_value_b5
  rw [h2.1, e2, if_neg (le_nI (by omega) (by omega) (by omega)), if_neg (show ¬ (Int32.ofNat 400) ≤ nI p from le_nI (by omega) (by decide) (by omega)), gIn_n (show p < 400 by omega) (by decide), letS_e, gIn_n (show p < 400 by omega) (by decide), letS_e, cl (show p < 4096 by omega), h2.2.1 lw 0 (by omega), he, o1, o2, if_pos (show (1 : Int32) < nI 2 by decide), if_neg (show ¬ nI 2 = 3 by decide), if_pos (show (2 : Int32) ≤ nI 2 by decide), gIn_l (nI 2 - 1) 1 (by decide) (by decide) (by decide), letS_e, gIn_l (nI 2 - 2) 0 (by decide) (by decide) (by decide), letS_e, c1, c0, hb, ha, if_pos (show nI 2 = 2 from rfl), show nI 2 + (-2) = 0 from by decide]
  by_cases lt : a < b
  · rw [if_pos lt, if_neg (Int32.not_le.mpr lt), nI_1]
  · rw [if_neg lt, if_pos (Int32.not_lt.mp lt), letS_e, nI_pred]
    have : jMmax (nI p) (nI tg) = nI tg := by
      unfold jMmax; rw [if_pos (nI_lt ht (by omega))]
    rw [this, nI_1]
theorem Lw_term {lw p N mo : Nat} {C : Cd} {S S' : Mem} (hlw : lw ≠ 6) (e2 : S.1 lw 2 = nI N) (hN : N ≤ 400) (hp : p + C.length < N) (hW : cW C) (hst : stC p (S.2.1 lw 0) C) (he : S.2.1 lw 0 (p + C.length) = enc (3, 0)) (hmo : mo < 2 ^ 31) {m : Nat} (hm : C.length + 1 ≤ m) (hF : DL lw S S') : Ok (fun z : Int32 × Mem => z.1 = hel ((hd1 (eC (S.2.1 6 0) C)).getD (-1)) (nI mo) ∧ DL lw S z.2) (f_Lw_value_l5 lw m (nI mo) 0 (nI p) S') := by
  have hgood : ∀ st m S', eC (S.2.1 6 0) C = some st → DL lw S S' → wtG (fun x => x) (S'.2.1 lw 1) (st ++ []) → 1 ≤ m → Ok (fun z : Int32 × Mem => z.1 = hel ((hd1 (eC (S.2.1 6 0) C)).getD (-1)) (nI mo) ∧ DL lw S z.2) (f_Lw_value_l5 lw m (nI mo) (nI (st ++ []).length) (nI (p + C.length)) S') := by
    intro st m S2 e h2 hw hm
    obtain ⟨m, rfl⟩ : ∃ k, m = k + 1 := ⟨m - 1, by omega⟩
    have hl := eC_len C st hW.1 e
    rw [hW.2] at hl
    obtain ⟨x, rfl⟩ := one_of hl
    have hx : S2.2.1 lw 1 0 = x := hw.1
    have := Lw_end (m := m) e2 hN hp he hmo h2 hx
    refine ⟨_, this, ?_, h2⟩
    rw [e]; rfl
  have := Lw_run (M := 1) (base := []) (most := nI mo) hlw e2 hN hp hW.1 hst (Nat.zero_le _) (fun e S2 h2 => ⟨by rw [e]; exact (hel_n _).symm, h2⟩) hgood C.length (Nat.le_refl _) m S' [] (by omega) hF (by rw [List.drop_length]; rfl) trivial
  rw [Nat.sub_self, Nat.add_zero] at this
  exact this
theorem Lw_br {lw mo : Nat} {r : List BrT} {S : Mem} (hlw : lw ≠ 6) (e2 : S.1 lw 2 = nI (posL r)) (hN : posL r ≤ 400) (hr : cbM (S.2.1 lw 0) r) (hw : ∀ x, x ∈ r → brW x) (hmo : mo < 2 ^ 31) : ∀ n, n ≤ r.length → ∀ (m : Nat) (S' : Mem), posL r - posL (r.drop n) + 1 ≤ m → DL lw S S' → Ok (fun z : Int32 × Mem => z.1 = hel ((eB (S.2.1 6 0) (r.take n).reverse).getD (-1)) (nI mo) ∧ DL lw S z.2) (f_Lw_value_l5 lw m (nI mo) 0 (nI (posL (r.drop n))) S') := by
  intro n
  induction n with
  | zero =>
    intro hn m S' hm hF
    obtain ⟨m, rfl⟩ : ∃ k, m = k + 1 := ⟨m - 1, by omega⟩
    show Ok _ (f_Lw_value_b5 lw (f_Lw_value_l5 lw m) (nI mo) 0 (nI (posL r)) S')
    unfold f_Lw_value_b5
    rw [show S'.1 lw 2 = nI (posL r) by rw [hF.1]; exact e2, if_pos (le_rf _)]
    exact Ok.i ⟨(hel_n _).symm, hF⟩
  | succ n ih =>
    intro hn m S' hm hF
    obtain ⟨x, ex, et, em⟩ := dropS (L := r) (n := n) (by omega)
    have cb := cbM_dn n r hr
    have pd := posL_dn n r
    have w := hw x em
    have er : (r.take (n + 1)).reverse = x :: (r.take n).reverse := by rw [et]; simp
    have ihn := ih (by omega)
    rw [er]
    rw [ex] at cb pd ihn
    obtain ⟨q, C⟩ := x
    cases q with
    | none =>
      obtain ⟨c1, c2, -⟩ := cb
      have pd : posL (r.drop (n + 1)) + C.length + 1 ≤ posL r := pd
      rw [eB]
      exact Lw_term hlw e2 hN (by omega) w c1 c2 hmo (by omega) hF
    | some y =>
      obtain ⟨c1, c2, c3, c4, c5, -⟩ := cb
      obtain ⟨w1, w2, w3⟩ := w
      have pd : posL (r.drop (n + 1)) + y.1.length + y.2.length + 1 + C.length + 1 ≤ posL r := pd
      have ihn : ∀ (m : Nat) (S' : Mem), posL r - (posL (r.drop (n + 1)) + y.1.length + y.2.length + 1 + C.length + 1) + 1 ≤ m → DL lw S S' → Ok (fun z : Int32 × Mem => z.1 = hel ((eB (S.2.1 6 0) (r.take n).reverse).getD (-1)) (nI mo) ∧ DL lw S z.2) (f_Lw_value_l5 lw m (nI mo) 0 (nI (posL (r.drop (n + 1)) + y.1.length + y.2.length + 1 + C.length + 1)) S') := ihn
      generalize posL (r.drop (n + 1)) = p at c1 c2 c3 c4 c5 pd ihn hm ⊢
      rw [eB]
      obtain ⟨A, B⟩ := y
      have step : ∀ a, hd1 (eC (S.2.1 6 0) A) = some a → ∀ m S', posL r - (p + A.length) + 1 ≤ m → DL lw S S' → wtG (fun x => x) (S'.2.1 lw 1) [a] → Ok (fun z : Int32 × Mem => z.1 = hel ((Option.bind (hd1 (eC (S.2.1 6 0) A)) (fun a => Option.bind (hd1 (eC (S.2.1 6 0) B)) (fun b => if a < b then hd1 (eC (S.2.1 6 0) C) else eB (S.2.1 6 0) (r.take n).reverse))).getD (-1)) (nI mo) ∧ DL lw S z.2) (f_Lw_value_l5 lw m (nI mo) (nI 1) (nI (p + A.length)) S') := fun a ea m S' hm hF hw1 => by
        rw [ea]
        show Ok (fun z : Int32 × Mem => z.1 = hel ((Option.bind (hd1 (eC (S.2.1 6 0) B)) (fun b => if a < b then hd1 (eC (S.2.1 6 0) C) else eB (S.2.1 6 0) (r.take n).reverse)).getD (-1)) (nI mo) ∧ DL lw S z.2) _
        have := Lw_run (C := B) (p := p + A.length) (M := posL r - (p + A.length + B.length) + 1) (base := [a]) (most := nI mo) (R := fun z : Int32 × Mem => z.1 = hel ((Option.bind (hd1 (eC (S.2.1 6 0) B)) (fun b => if a < b then hd1 (eC (S.2.1 6 0) C) else eB (S.2.1 6 0) (r.take n).reverse)).getD (-1)) (nI mo) ∧ DL lw S z.2) hlw e2 hN (by show p + A.length + B.length < _; have : p + A.length + B.length + 1 + C.length + 1 ≤ posL r := pd; omega) w2.1 c2 (Nat.le_refl 1)
          (fun e S2 h2 => ⟨by rw [e]; exact (hel_n _).symm, h2⟩)
          (fun st m S2 e h2 hw hm => by
            have pd : p + A.length + B.length + 1 + C.length + 1 ≤ posL r := pd
            obtain ⟨m, rfl⟩ : ∃ k, m = k + 1 := ⟨m - 1, by omega⟩
            have hl := eC_len B st w2.1 e
            rw [w2.2] at hl
            obtain ⟨b, rfl⟩ := one_of hl
            have c3 : S.2.1 lw 0 (p + A.length + B.length) = enc (nI 2, nI (p + A.length + B.length + 1 + C.length + 1)) := c3
            have hb1 : S2.2.1 lw 1 1 = b := hw.1
            have ha1 : S2.2.1 lw 1 0 = a := hw.2.1
            have un := Lw_unl (m := m) (most := nI mo) (tg := p + A.length + B.length + 1 + C.length) e2 hN (by omega) (by omega) (by omega) c3 h2 hb1 ha1
            have un : f_Lw_value_l5 lw (m + 1) (nI mo) (nI ([b] ++ [a]).length) (nI (p + A.length + B.length)) S2 = _ := un
            rw [un, e]
            show Ok (fun z : Int32 × Mem => z.1 = hel ((if a < b then hd1 (eC (S.2.1 6 0) C) else eB (S.2.1 6 0) (r.take n).reverse).getD (-1)) (nI mo) ∧ DL lw S z.2) _
            by_cases lt : a < b
            · rw [if_pos lt, if_pos lt]
              exact Lw_term (p := p + A.length + B.length + 1) hlw e2 hN (by omega) w3 c4 c5 hmo (by omega) h2
            · rw [if_neg lt, if_neg lt]
              exact ihn m S2 (by show posL r - (p + A.length + B.length + 1 + C.length + 1) + 1 ≤ m; omega) h2)
          B.length (Nat.le_refl _) m S' [] (by have : p + A.length + B.length + 1 + C.length + 1 ≤ posL r := pd; omega) hF (by rw [List.drop_length]; rfl) hw1
        rw [Nat.sub_self, Nat.add_zero] at this
        exact this
      have pd : p + A.length + B.length + 1 + C.length + 1 ≤ posL r := pd
      have := Lw_run (C := A) (p := p) (M := posL r - (p + A.length) + 1) (base := []) (most := nI mo) (R := fun z : Int32 × Mem => z.1 = hel ((Option.bind (hd1 (eC (S.2.1 6 0) A)) (fun a => Option.bind (hd1 (eC (S.2.1 6 0) B)) (fun b => if a < b then hd1 (eC (S.2.1 6 0) C) else eB (S.2.1 6 0) (r.take n).reverse))).getD (-1)) (nI mo) ∧ DL lw S z.2) hlw e2 hN (by omega) w1.1 c1 (Nat.zero_le _)
          (fun e S2 h2 => ⟨by rw [e]; exact (hel_n _).symm, h2⟩)
          (fun st m S2 e h2 hw hm => by
            have hl := eC_len A st w1.1 e
            rw [w1.2] at hl
            obtain ⟨a, rfl⟩ := one_of hl
            exact step a (by rw [e]; rfl) m S2 hm h2 hw)
          A.length (Nat.le_refl _) m S' [] (by omega) hF (by rw [List.drop_length]; rfl) trivial
      rw [Nat.sub_self, Nat.add_zero] at this
      exact this
theorem Lw_all {lw mo : Nat} {r : List BrT} {S : Mem} (hlw : lw ≠ 6) (e2 : S.1 lw 2 = nI (posL r)) (hN : posL r ≤ 400) (hr : cbM (S.2.1 lw 0) r) (hw : ∀ x, x ∈ r → brW x) (hmo : mo < 2 ^ 31) : Ok (fun z : Int32 × Mem => z.1 = hel ((eB (S.2.1 6 0) r.reverse).getD (-1)) (nI mo) ∧ DL lw S z.2) (f_Lw_value lw (nI mo) S) := by
  have := Lw_br hlw e2 hN hr hw hmo r.length (Nat.le_refl _) 5000 S (by rw [List.drop_length]; show posL r - 0 + 1 ≤ 5000; omega) (DL.rf lw S)
  rw [List.drop_length, List.take_length] at this
  exact this
/-- a law of the class: r told, or plain as it began -/
def lwM (lw k : Nat) (S : Mem) : Option (List BrT) → Prop
  | some r => S.1 lw 2 = nI (posL r) ∧ posL r ≤ 400 ∧ cbM (S.2.1 lw 0) r ∧ r ≠ [] ∧ ∀ x, x ∈ r → brW x
  | none => if k = 2 then S.1 lw 2 = 0 else S.1 lw 2 = 2 ∧ S.2.1 lw 0 0 = enc (0, if k = 0 then 10 else 0) ∧ S.2.1 lw 0 1 = enc (3, 0)
def lwsM (tx : Nat) (S : Mem) (G : LwG) : Prop := ∀ k, k < 3 → lwM (tx + 1 + k) k S (G k)
theorem lwM_e {lw k : Nat} {S S' : Mem} (e1 : S'.1 lw = S.1 lw) (e2 : S'.2.1 lw 0 = S.2.1 lw 0) (x : Option (List BrT)) (h : lwM lw k S x) : lwM lw k S' x := by
  cases x with
  | none => unfold lwM; rw [e1, e2]; exact h
  | some r => unfold lwM; rw [e1, e2]; exact h
def pnB (n : Nat) : List BrT := [(none, [(0, nI n)])]
theorem pnB_w {n : Nat} (hn : n ≤ 9999) : ∀ x, x ∈ pnB n → brW x := fun x hx => by
  have : x = (none, [(0, nI n)]) := List.mem_singleton.mp hx
  rw [this]
  exact ⟨⟨trivial, Or.inr (Or.inl ⟨rfl, ⟨n, hn, rfl⟩, Nat.zero_le _⟩)⟩, rfl⟩
theorem LC_of {tx : Nat} {S : Mem} {G : LwG} (h20 : 20 ≤ tx) (h : lwsM tx S G) : LC (FG G) tx S := by
  intro S2 hl
  have g : ∀ k, k < 3 → lwM (tx + 1 + k) k S2 (G k) := fun k hk => by
    obtain ⟨e1, e2⟩ := hl (1 + k) (by omega) (by omega)
    rw [← Nat.add_assoc] at e1 e2
    exact lwM_e e1 e2 _ (h k hk)
  have main : ∀ k n mo, k < 2 → n = (if k = 0 then 10 else 0) → mo < 2 ^ 31 → Ok (fun z : Int32 × Mem => z.1 = aL (FG G) k (S2.2.1 6 0) (nI n) (nI mo) ∧ Dk S2 z.2) (f_Lw_value (tx + 1 + k) (nI mo) S2) := fun k n mo hk en hmo => by
    have gk := g k (by omega)
    cases q : G k with
    | none =>
      rw [q] at gk
      unfold lwM at gk
      rw [if_neg (by omega)] at gk
      obtain ⟨a1, a2, a3⟩ := gk
      have n9 : n ≤ 9999 := by rw [en]; split <;> omega
      have e0 : (if k = 0 then (10 : Int32) else 0) = nI n := by rw [en]; split <;> rfl
      rw [e0] at a2
      refine (Lw_all (r := pnB n) (by omega) a1 (show (2 : Nat) ≤ 400 by decide) ⟨⟨a2, trivial⟩, a3, trivial⟩ (pnB_w n9) hmo).m (fun z hz => ⟨?_, hz.2.dk (by omega)⟩)
      rw [hz.1]
      unfold aL
      rw [FG_n (by omega) q]
      rfl
    | some r =>
      rw [q] at gk
      obtain ⟨a1, a2, a3, a4, a5⟩ := gk
      refine (Lw_all (by omega) a1 a2 a3 a5 hmo).m (fun z hz => ⟨?_, hz.2.dk (by omega)⟩)
      rw [hz.1]
      unfold aL
      rw [FG_s (by omega) q]
  refine ⟨main 0 10 999 (by omega) rfl (by decide), main 1 0 100 (by omega) rfl (by decide), ?_⟩
  have gk := g 2 (by omega)
  cases q : G 2 with
  | none =>
    rw [q] at gk
    unfold lwM at gk
    rw [if_pos rfl] at gk
    refine Or.inl ⟨FG_n (by omega) q, ?_⟩
    unfold f_Lw_isTold f_Lw_isTold_b0
    rw [show S2.1 (tx + 3) 2 = 0 from gk, if_pos (by decide)]
  | some r =>
    rw [q] at gk
    obtain ⟨a1, a2, a3, a4, a5⟩ := gk
    have pos : 0 < posL r := by
      cases r with
      | nil => exact absurd rfl a4
      | cons x r => exact Nat.lt_of_le_of_lt (Nat.zero_le _) (posL_c x r)
    refine Or.inr ⟨?_, ?_⟩
    · unfold f_Lw_isTold f_Lw_isTold_b0
      rw [show S2.1 (tx + 3) 2 = nI (posL r) from a1, if_neg (nI_nle pos (by omega))]
    · refine (Lw_all (lw := tx + 3) (mo := 99) (by omega) a1 a2 a3 a5 (by decide)).m (fun z hz => ⟨fun plain => ?_, hz.2.dk (by omega)⟩)
      rw [hz.1]
      unfold aL
      rw [FG_s (by omega) q]
      rfl
