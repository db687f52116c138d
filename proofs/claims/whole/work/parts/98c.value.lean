/-! READ: the class tells laws: steps over a pile. -/
theorem enc_n {s n : Nat} (hs : s < 4) (hn : n ≤ 9999) : enc (nI s, nI n) &&& 255 = nI s ∧ enc (nI s, nI n) >>> ((8 : Int32) &&& 31) = nI n := by
  have := enc_t s hs (n / 100) (by omega) (n % 100) (by omega)
  rwa [show 100 * (n / 100) + n % 100 = n by omega] at this
theorem enc_o {k : Int32} (h : yIs k) : enc (k, 0) &&& 255 = k ∧ 1 < k ∧ ¬ k = 3 ∧ ¬ k = 2 := by
  rcases h with rfl | rfl | rfl | rfl <;> decide +kernel
def stC (a : Nat) (f : Nat → Int32) : Cd → Prop
  | [] => True
  | x :: C => f (a + C.length) = enc x ∧ stC a f C
theorem stC_dn {a : Nat} {f : Nat → Int32} : ∀ (n : Nat) (C : Cd), stC a f C → stC a f (C.drop n)
  | 0, C, h => h
  | n + 1, [], h => h
  | n + 1, x :: C, h => stC_dn n C h.2
def DL (lw : Nat) (S S' : Mem) : Prop := S'.1 = S.1 ∧ (∀ o f, ¬ (o = lw ∧ f = 1) → S'.2.1 o f = S.2.1 o f) ∧ S'.2.2 = S.2.2
theorem DL.rf (lw : Nat) (S : Mem) : DL lw S S := ⟨rfl, fun _ _ _ => rfl, rfl⟩
theorem DL.tr {lw : Nat} {A B C : Mem} (h1 : DL lw A B) (h2 : DL lw B C) : DL lw A C := ⟨h2.1.trans h1.1, fun o f h => (h2.2.1 o f h).trans (h1.2.1 o f h), h2.2.2.trans h1.2.2⟩
theorem DL.s {lw : Nat} {S S' : Mem} (h : DL lw S S') (i x : Int32) : DL lw S (sA S' lw 1 i x) := ⟨h.1, fun o f hn => by rw [sA_2, if_neg hn]; exact h.2.1 o f hn, h.2.2⟩
theorem DL.dk {lw : Nat} {S S' : Mem} (h : DL lw S S') (h20 : 20 ≤ lw) : Dk S S' := ⟨h.1, fun o f hn => h.2.1 o f (fun z => hn ⟨by omega, z.2⟩), h.2.2⟩
theorem join_c {k a b : Int32} (h : yIs k) (hb : ¬ (k = 47 ∧ b = 0)) : f_Lw_joined k a b = some (jn k a b) := by
  unfold f_Lw_joined f_Lw_joined_b0 jn
  rcases h with rfl | rfl | rfl | rfl
  · rw [if_pos rfl, if_pos rfl]
  · rw [if_neg (by decide), if_neg (by decide), if_neg (by decide), if_neg (fun z => hb ⟨rfl, z⟩), if_neg (by decide), if_neg (by decide), if_neg (by decide)]
    unfold gNz
    rw [if_neg (fun z => hb ⟨rfl, z⟩)]
  · rw [if_neg (by decide), if_pos rfl, if_neg (by decide), if_pos rfl]
  · rw [if_neg (by decide), if_neg (by decide), if_pos rfl, if_neg (by decide), if_neg (by decide), if_pos rfl]
theorem yDep_30 : ∀ D : Cd, yWf D → yDep D ≤ 30
  | [], _ => Nat.zero_le _
  | y :: D, w => by
    have := yDep_30 D w.1
    show (if yIs y.1 then yDep D - 1 else yDep D + 1) ≤ 30
    rcases w.2 with ⟨z1, -, -⟩ | ⟨z1, -, z3⟩ | ⟨z1, -, z3⟩
    · rw [if_pos z1]; omega
    · split <;> omega
    · split <;> omega
theorem m2 (n : Nat) : nI (n + 2) - 2 = nI n := by rw [show (2 : Int32) = nI 2 from rfl, pk_sub (by omega)]; rfl
theorem Lw_run {lw p N M : Nat} {C : Cd} {S : Mem} {most : Int32} {base : List Int32} {R : Int32 × Mem → Prop} (hlw : lw ≠ 6) (e2 : S.1 lw 2 = nI N) (hN : N ≤ 400) (hp : p + C.length < N) (hW : yWf C) (hst : stC p (S.2.1 lw 0) C) (hb : base.length ≤ 1)
    (hbad : eC (S.2.1 6 0) C = none → ∀ S', DL lw S S' → R (0, S'))
    (hgood : ∀ st m S', eC (S.2.1 6 0) C = some st → DL lw S S' → wtG (fun x => x) (S'.2.1 lw 1) (st ++ base) → M ≤ m → Ok R (f_Lw_value_l5 lw m most (nI (st ++ base).length) (nI (p + C.length)) S')) :
    ∀ n, n ≤ C.length → ∀ (m : Nat) (S' : Mem) (st : List Int32), n + M ≤ m → DL lw S S' → eC (S.2.1 6 0) (C.drop n) = some st → wtG (fun x => x) (S'.2.1 lw 1) (st ++ base) → Ok R (f_Lw_value_l5 lw m most (nI (st ++ base).length) (nI (p + (C.length - n))) S') := by
  intro n
  induction n with
  | zero =>
    intro hn m S' st hm hF he hp'
    rw [Nat.sub_zero]
    exact hgood st m S' he hF hp' (by omega)
  | succ n ih =>
    intro hn m S' st hm hF he hp'
    obtain ⟨m, rfl⟩ : ∃ k, m = k + 1 := ⟨m - 1, by omega⟩
    show Ok R (f_Lw_value_b5 lw (f_Lw_value_l5 lw m) most (nI (st ++ base).length) (nI (p + (C.length - (n + 1)))) S')
    obtain ⟨x, ex, -, -⟩ := dropS (L := C) (n := n) (by omega)
    have wf := yWf_dn n C hW
    have cd := stC_dn n C hst
    rw [ex] at wf cd
    have hl := eC_len _ st wf.1 he
    have d30 := yDep_30 _ wf.1
    have cd := cd.1
    rw [List.length_drop] at cd
    have ee : eC (S.2.1 6 0) (C.drop n) = eI (S.2.1 6 0) x st := by rw [ex, eC, he]; rfl
    have nx : p + (C.length - (n + 1)) + 1 = p + (C.length - n) := by omega
    have hI : p + (C.length - (n + 1)) < N := by omega
    generalize p + (C.length - (n + 1)) = I at cd nx hI ⊢
    unfold f_Lw_value_b5
    rw [show S'.1 lw 2 = nI N by rw [hF.1]; exact e2, if_neg (le_nI (by omega) (by omega) (by omega)), if_neg (show ¬ (Int32.ofNat 400) ≤ nI I from le_nI (by omega) (by decide) (by omega)), gIn_n (show I < 400 by omega) (by decide), letS_e, gIn_n (show I < 400 by omega) (by decide), letS_e, cl (show I < 4096 by omega), hF.2.1 lw 0 (by omega), cd]
    rcases wf.2 with ⟨k1, k2, k3⟩ | ⟨k1, ⟨j, hj, k2⟩, k3⟩ | ⟨k1, ⟨j, hj, k2⟩, k3⟩
    · obtain ⟨b, c, s2, rfl⟩ := two_of (show 2 ≤ st.length by omega)
      have hl2 : (s2 ++ base).length + 2 ≤ 40 := by
        have : (b :: c :: s2).length = s2.length + 2 := rfl
        rw [List.length_append]; omega
      obtain ⟨o1, o2, o3, o4⟩ := enc_o k1
      have ex2 : x = (x.1, 0) := Prod.ext rfl k2
      rw [show enc x = enc (x.1, 0) by rw [← ex2], o1, if_pos o2, if_neg o3]
      have p1 : S'.2.1 lw 1 ((s2 ++ base).length + 1) = b := hp'.1
      have p2 : S'.2.1 lw 1 (s2 ++ base).length = c := hp'.2.1
      rw [show nI ((b :: c :: s2) ++ base).length = nI ((s2 ++ base).length + 1 + 1) from rfl]
      have ea : (s2 ++ base).length = s2.length + base.length := List.length_append ..
      rw [if_pos (show (2 : Int32) ≤ nI ((s2 ++ base).length + 1 + 1) from nI_le (a := 2) (by omega) (by omega)), nI_pred, gIn_n (show (s2 ++ base).length + 1 < 64 by omega) (by decide), letS_e, m2, gIn_n (show (s2 ++ base).length < 64 by omega) (by decide), letS_e, cl (show (s2 ++ base).length < 4096 by omega), cl (show (s2 ++ base).length + 1 < 4096 by omega), p1, p2, if_neg o4]
      have good : ¬ (x.1 = 47 ∧ b = 0) → Ok R (f_Lw_value_b218 lw (f_Lw_value_l5 lw m) most (nI ((s2 ++ base).length + 1 + 1)) (nI I) x.1 b c S') := fun z => by
        unfold f_Lw_value_b218
        rw [join_c k1 z, bind_e, m1, nI_pred, gIn_n (show (s2 ++ base).length < 64 by omega) (by decide), letS_e, nI_1, nx]
        refine ih (by omega) m _ (jn x.1 c b :: s2) (by omega) (hF.s _ _) ?_ ⟨?_, ?_⟩
        · rw [ee]; unfold eI; rw [if_pos k1]; exact if_neg z
        · rw [sA_2, if_pos ⟨rfl, rfl⟩, cl (show (s2 ++ base).length < 4096 by omega)]
          exact if_pos rfl
        · rw [sA_2, if_pos ⟨rfl, rfl⟩, cl (show (s2 ++ base).length < 4096 by omega)]
          exact wtG_u _ hp'.2.2 (Nat.le_refl _)
      by_cases q : x.1 = 47
      · rw [if_pos q]
        by_cases q2 : b = 0
        · rw [if_pos q2]
          refine Ok.i (hbad (eC_dn (n := n) ?_) S' hF)
          rw [ee]; unfold eI; rw [if_pos k1]; exact if_pos ⟨q, q2⟩
        · rw [if_neg q2]; exact good (fun z => q2 z.2)
      · rw [if_neg q]; exact good (fun z => q z.1)
    · have ea : (st ++ base).length = st.length + base.length := List.length_append ..
      have ex2 : x = (nI 0, nI j) := Prod.ext k1 k2
      obtain ⟨o1, o2⟩ := enc_n (s := 0) (n := j) (by omega) (by omega)
      rw [ex2, o1, o2, if_neg (show ¬ (1 : Int32) < nI 0 by decide), if_neg (show ¬ (Int32.ofNat 64) ≤ nI (st ++ base).length from le_nI (by omega) (by decide) (by omega)), if_neg (show ¬ nI 0 = 1 by decide)]
      unfold f_Lw_value_b84 f_Lw_value_b103
      rw [if_pos (show nI 0 = 0 from rfl), gIn_n (show (st ++ base).length < 64 by omega) (by decide), letS_e, nI_1, nI_1, nx]
      refine ih (by omega) m _ (nI j :: st) (by omega) (hF.s _ _) ?_ ⟨?_, ?_⟩
      · rw [ee]; unfold eI; rw [if_neg (by rw [k1]; decide), if_pos k1, k2]
      · rw [sA_2, if_pos ⟨rfl, rfl⟩, cl (show (st ++ base).length < 4096 by omega)]
        exact if_pos rfl
      · rw [sA_2, if_pos ⟨rfl, rfl⟩, cl (show (st ++ base).length < 4096 by omega)]
        exact wtG_u _ hp' (Nat.le_refl _)
    · have ea : (st ++ base).length = st.length + base.length := List.length_append ..
      have ex2 : x = (nI 1, nI j) := Prod.ext k1 k2
      obtain ⟨o1, o2⟩ := enc_n (s := 1) (n := j) (by omega) (by omega)
      rw [ex2, o1, o2, if_neg (show ¬ (1 : Int32) < nI 1 by decide), if_neg (show ¬ (Int32.ofNat 64) ≤ nI (st ++ base).length from le_nI (by omega) (by decide) (by omega)), if_pos (show nI 1 = 1 from rfl), if_neg (nI_pos (by omega)), if_pos (show nI j < (Int32.ofNat 8) from nI_lt hj (by decide))]
      unfold f_Lw_value_b84 f_Lw_value_b103
      rw [if_neg (show ¬ nI 1 = 0 by decide), gIn_n (show j < 8 by omega) (by decide), gIn_n (show (st ++ base).length < 64 by omega) (by decide), letS_e, nI_1, nI_1, nx, cl (show j < 4096 by omega), hF.2.1 6 0 (by omega)]
      refine ih (by omega) m _ (S.2.1 6 0 j :: st) (by omega) (hF.s _ _) ?_ ⟨?_, ?_⟩
      · rw [ee]; unfold eI; rw [if_neg (by rw [k1]; decide), if_neg (by rw [k1]; decide), k2, cl (show j < 4096 by omega)]
      · rw [sA_2, if_pos ⟨rfl, rfl⟩, cl (show (st ++ base).length < 4096 by omega)]
        exact if_pos rfl
      · rw [sA_2, if_pos ⟨rfl, rfl⟩, cl (show (st ++ base).length < 4096 by omega)]
        exact wtG_u _ hp' (Nat.le_refl _)
theorem max_hel {m : Nat} (hm : m < 2 ^ 31) (x : Int32) : jMmax 0 (jMmin (nI m) x) = hel x (nI m) := by
  unfold jMmax jMmin hel
  by_cases q : x < 0
  · have q1 : x < nI m := Int32.lt_of_lt_of_le q (nI_pos' hm)
    rw [if_pos q1, if_neg (fun z => Int32.lt_irrefl (Int32.lt_trans z q)), if_neg (Int32.not_le.mpr q)]
  · obtain ⟨j, hj, rfl⟩ := nI_of q
    rw [if_pos (nI_pos' hj)]
    by_cases q1 : j < m
    · rw [if_pos (nI_lt q1 hm), if_pos (nI_le (by omega) hm)]
      by_cases q2 : j = 0
      · rw [q2]; rfl
      · rw [if_pos (show (0 : Int32) < nI j from nI_lt (a := 0) (by omega) hj)]
    · rw [if_neg (nI_nlt (by omega) hj)]
      have e2 : (if nI j ≤ nI m then nI j else nI m) = nI m := by
        by_cases q3 : j = m
        · rw [q3, if_pos (le_rf _)]
        · rw [if_neg (le_nI (by omega) hj hm)]
      rw [e2]
      by_cases q2 : m = 0
      · rw [q2]; rfl
      · rw [if_pos (show (0 : Int32) < nI m from nI_lt (a := 0) (by omega) hm)]
