/-! READ: all tokens, of the class and of the reference. -/
theorem runF_s {Q : Nat → Prop} [DecidablePred Q] {L : Nat} : ∀ n p, n = L - p → runF Q n p < L → ¬ Q (runF Q n p)
  | 0, p, e, h => by simp only [runF] at h; omega
  | n + 1, p, e, h => by
    unfold runF at h ⊢
    by_cases q : Q p
    · rw [if_pos q] at h ⊢
      exact runF_s n (p + 1) (by omega) h
    · rw [if_neg q]; exact q
theorem nb_ok {b : Nat → Int32} {L p : Nat} (hp : p ≤ L) : p ≤ nbP b L p ∧ nbP b L p ≤ L ∧ (nbP b L p < L → ¬ isBl (b (nbP b L p))) := by
  have := runF_b (Q := fun i => isBl (b i)) (L - p) p
  exact ⟨this.1, by unfold nbP; omega, fun h => runF_s (Q := fun i => isBl (b i)) (L - p) p rfl h⟩
theorem le_gt {b : Nat → Int32} {L p : Nat} (hp : p < L) (h : isLt (b p)) : p < leP b L p ∧ leP b L p ≤ L := by
  unfold leP
  rw [runF_y (Q := fun i => isLt (b i)) hp h]
  have := runF_b (Q := fun i => isLt (b i)) (L - (p + 1)) (p + 1)
  omega
theorem de_gt {b : Nat → Int32} {L p : Nat} (hp : p < L) (h : isDg (b p)) : p < deP b L p ∧ deP b L p ≤ L := by
  unfold deP
  rw [runF_y (Q := fun i => isDg (b i)) hp h]
  have := runF_b (Q := fun i => isDg (b i)) (L - (p + 1)) (p + 1)
  omega
theorem nx_ok {b : Nat → Int32} {L p : Nat} (hp : p ≤ L) : p ≤ nxP b L p ∧ nxP b L p ≤ L ∧ (p < L → p < nxP b L p) := by
  unfold nxP
  by_cases q : L ≤ p
  · rw [if_pos q]; omega
  · rw [if_neg q]
    by_cases q1 : isLt (b p)
    · rw [if_pos q1]; have := le_gt (L := L) (by omega) q1; omega
    · rw [if_neg q1]
      by_cases q2 : isDg (b p)
      · rw [if_pos q2]; have := de_gt (L := L) (by omega) q2; omega
      · rw [if_neg q2]; omega
theorem ps_ok (b : Nat → Int32) (L : Nat) : ∀ i, psP b L i ≤ L ∧ (psP b L i < L → ¬ isBl (b (psP b L i)))
  | 0 => (nb_ok (Nat.zero_le _)).2
  | i + 1 => (nb_ok (nx_ok (ps_ok b L i).1).2.1).2
abbrev stP (b : Nat → Int32) (L i : Nat) : Prop := kdP b L (psP b L i) = 0 ∨ kdP b L (psP b L i) = 1
/-- Q is the first token at which a text ends, or the last that there may be -/
def lastP (b : Nat → Int32) (L Q : Nat) : Prop := Q ≤ 400 ∧ (∀ i, i < Q → ¬ stP b L i) ∧ (Q < 400 → stP b L Q)
theorem O1.tr {A B C : Mem} (h1 : O1 A B) (h2 : O1 B C) : O1 A C := ⟨h2.1.trans h1.1, fun o f h => (h2.2.1 o f h).trans (h1.2.1 o f h), fun o f h => (h2.2.2 o f h).trans (h1.2.2 o f h)⟩
theorem Tp_scan {S : Mem} {b : Nat → Int32} {L Q : Nat} (hL : L ≤ 2000) (e : S.1 1 0 = nI L) (hb : byM b L (S.2.1 1 1)) (hg : byG b L) (hK : cK (S.2.2 1 2)) (hQ : lastP b L Q) : Ok (fun S' => O1 S S' ∧ ∀ i, i ≤ Q → tkC b L i (psP b L i) S') (f_Tp_scan S) := by
  obtain ⟨q1, q2, q3⟩ := hQ
  refine lpN (P := fun n i => ∀ S' p, O1 S S' → p ≤ L → nbP b L p = psP b L i → (∀ j, j < i → tkC b L j (psP b L j) S') → Ok (fun S' => O1 S S' ∧ ∀ i, i ≤ Q → tkC b L i (psP b L i) S') (f_Tp_scan_l4 (n + 1) (nI p) (nI i) S')) Q (fun n i hi ih S' p f1 hp hps hj => ?_) (fun n S' p f1 hp hps hj => ?_) 4999 0 (by omega) (by omega) S 0 (O1.rf S) (Nat.zero_le _) rfl (fun j hj => by omega)
  all_goals
    have one : ∀ i, i ≤ Q → nbP b L p = psP b L i → (∀ j, j < i → tkC b L j (psP b L j) S') → ∃ c, f_Tp_scanOne (nI i) (nI (psP b L i)) (sL (sA S' 1 4 (nI i) (nI (psP b L i))) 1 5 (nI i) 0) = some (nI (nxP b L (psP b L i)), c) ∧ O1 S c ∧ ∀ j, j ≤ i → tkC b L j (psP b L j) c := by
      intro i hi hps hj
      have ci : (nI i).toNatClampNeg = i := cl (by omega)
      have ps := ps_ok b L i
      have f2 : O1 S (sL (sA S' 1 4 (nI i) (nI (psP b L i))) 1 5 (nI i) 0) := (f1.s (Or.inr rfl) _ _).l _ _
      have h4 : (sL (sA S' 1 4 (nI i) (nI (psP b L i))) 1 5 (nI i) 0).2.1 1 4 i = nI (psP b L i) := by rw [sL_2, sA_2, if_pos ⟨rfl, rfl⟩, ci, upd_at, if_pos rfl]
      have ho : ∀ j, j ≠ i → (sL (sA S' 1 4 (nI i) (nI (psP b L i))) 1 5 (nI i) 0).2.1 1 3 j = S'.2.1 1 3 j ∧ (sL (sA S' 1 4 (nI i) (nI (psP b L i))) 1 5 (nI i) 0).2.1 1 4 j = S'.2.1 1 4 j ∧ (sL (sA S' 1 4 (nI i) (nI (psP b L i))) 1 5 (nI i) 0).2.2 1 5 j = S'.2.2 1 5 j := fun j hne => by
        refine ⟨rfl, ?_, ?_⟩
        · rw [sL_2, sA_2, if_pos ⟨rfl, rfl⟩, ci, upd_at, if_neg hne]
        · rw [sL_3, if_pos ⟨rfl, rfl⟩, ci, updL_at, if_neg hne, sA_3]
      obtain ⟨z, ez, z1, z2, z3, z4⟩ := Tp_scanOne (S := sL (sA S' 1 4 (nI i) (nI (psP b L i))) 1 5 (nI i) 0) hL (by rw [f2.1]; exact e) (by rw [f2.2.1 1 1 (by omega)]; exact hb) hg (by rw [f2.2.2 1 2 (by omega)]; exact hK) ps.1 ps.2 (show i ≤ 400 by omega) h4
      refine ⟨z.2, by rw [ez, ← z1], f2.tr z2, fun j hjl => ?_⟩
      by_cases y : j = i
      · rw [y]; exact z3
      · obtain ⟨w1, w2, w3⟩ := hj j (by omega)
        obtain ⟨v1, v2, v3⟩ := z4 j y
        obtain ⟨u1, u2, u3⟩ := ho j y
        exact ⟨by rw [v1, u1]; exact w1, by rw [v2, u2]; exact w2, fun hk => by rw [v3, u3]; exact w3 hk⟩
  · show Ok _ (f_Tp_scan_b4 (f_Tp_scan_l4 (n + 1)) (nI p) (nI i) S')
    obtain ⟨c, ec, c1, c2⟩ := one i (by omega) hps hj
    have gi : ∀ {α : Type} {k : Option α}, gIn (nI i) 401 k = k := gIn_n (by omega) (by decide)
    simp only [f_Tp_scan_b4, if_neg (show ¬ (400 : Int32) < nI i from nI_nlt (a := 400) (by omega) (by decide)), Tp_blanks (S := S') hL (by rw [f1.1]; exact e) (by rw [f1.2.1 1 1 (by omega)]; exact hb) hp, hps, bind_e, gi, letS_e, ec, cl (show i < 4096 by omega), (c2 i (Nat.le_refl _)).1, nI_1]
    have ns := q2 i hi
    rw [if_neg (fun z => ns (Or.inl z)), if_neg (fun z => ns (Or.inr z))]
    exact ih c _ c1 (nx_ok (ps_ok b L i).1).2.1 rfl (fun j hj => c2 j (by omega))
  · show Ok _ (f_Tp_scan_b4 (f_Tp_scan_l4 (n + 1)) (nI p) (nI Q) S')
    obtain ⟨c, ec, c1, c2⟩ := one Q (Nat.le_refl _) hps hj
    have gi : ∀ {α : Type} {k : Option α}, gIn (nI Q) 401 k = k := gIn_n (by omega) (by decide)
    simp only [f_Tp_scan_b4, if_neg (show ¬ (400 : Int32) < nI Q from nI_nlt (a := 400) (by omega) (by decide)), Tp_blanks (S := S') hL (by rw [f1.1]; exact e) (by rw [f1.2.1 1 1 (by omega)]; exact hb) hp, hps, bind_e, gi, letS_e, ec, cl (show Q < 4096 by omega), (c2 Q (Nat.le_refl _)).1, nI_1]
    have done : Ok (fun S' => O1 S S' ∧ ∀ i, i ≤ Q → tkC b L i (psP b L i) S') (some c) := Ok.i ⟨c1, c2⟩
    by_cases y1 : kdP b L (psP b L Q) = 0
    · rw [if_pos y1]; exact done
    rw [if_neg y1]
    by_cases y2 : kdP b L (psP b L Q) = 1
    · rw [if_pos y2]; exact done
    rw [if_neg y2]
    have Q400 : Q = 400 := by
      rcases Nat.lt_or_ge Q 400 with z | z
      · rcases q3 z with y | y
        · exact absurd y y1
        · exact absurd y y2
      · omega
    show Ok _ (f_Tp_scan_b4 (f_Tp_scan_l4 n) _ (nI (Q + 1)) c)
    unfold f_Tp_scan_b4
    rw [if_pos (show (400 : Int32) < nI (Q + 1) by rw [Q400]; decide)]
    exact done
-- the reference
def mkK (k : Int32) : Int32 := if k = 0 then 0 else if k = 1 then 3 else if k = 97 then 1 else if k = 48 then 2 else if k = 59 then 4 else if k = 61 then 5 else if k = 40 then 6 else if k = 41 then 7 else if k = 43 then 8 else if k = 45 then 9 else if k = 42 then 10 else if k = 60 then 13 else if k = 47 then 15 else if k = 138 then 23 else if k ≤ 130 then k - 108 else if k ≤ 137 then k - 107 else k - 108
def tkM (b : Nat → Int32) (L : Nat) (t p : Nat) (S : Mem) : Prop := S.2.1 0 5 t = mkK (kdP b L p) ∧ S.2.1 0 6 t = nI p ∧ (kdP b L p = 97 → S.2.2 0 8 t = lN (vlP b L p)) ∧ (kdP b L p = 48 → S.2.1 0 7 t = nI (vlP b L p))
def O2 (S S' : Mem) : Prop := (∀ k, k ≠ 10 → S'.1 0 k = S.1 0 k) ∧ (∀ f, f ≠ 5 → f ≠ 6 → f ≠ 7 → S'.2.1 0 f = S.2.1 0 f) ∧ (∀ f, f ≠ 8 → S'.2.2 0 f = S.2.2 0 f)
theorem O2.rf (S : Mem) : O2 S S := ⟨fun _ _ => rfl, fun _ _ _ _ => rfl, fun _ _ => rfl⟩
theorem O2.tr {A B C : Mem} (h1 : O2 A B) (h2 : O2 B C) : O2 A C := ⟨fun k h => (h2.1 k h).trans (h1.1 k h), fun f a b c => (h2.2.1 f a b c).trans (h1.2.1 f a b c), fun f h => (h2.2.2 f h).trans (h1.2.2 f h)⟩
theorem Mo_token {S : Mem} {t : Nat} (ht : t ≤ 400) (e : S.1 0 10 = nI t) (k p v : Int32) (x : Int64) : Ok (fun S' => O2 S S' ∧ S'.1 0 10 = nI (t + 1) ∧ S'.2.1 0 5 t = k ∧ S'.2.1 0 6 t = p ∧ S'.2.1 0 7 t = v ∧ S'.2.2 0 8 t = x ∧ ∀ j, j ≠ t → S'.2.1 0 5 j = S.2.1 0 5 j ∧ S'.2.1 0 6 j = S.2.1 0 6 j ∧ S'.2.1 0 7 j = S.2.1 0 7 j ∧ S'.2.2 0 8 j = S.2.2 0 8 j) (f_Mo_token k p v x S) := by
  have gt : ∀ {α : Type} {k : Option α}, gIn (nI t) 403 k = k := gIn_n (by omega) (by decide)
  have ct : (nI t).toNatClampNeg = t := cl (by omega)
  unfold f_Mo_token f_Mo_token_b0
  simp only [sA_1, sL_1, e, gt, letS_e, nI_1]
  refine Ok.i ⟨⟨fun k' hk => ?_, fun f a1 a2 a3 => ?_, fun f hf => ?_⟩, rfl, ?_, ?_, ?_, ?_, fun j hj => ⟨?_, ?_, ?_, ?_⟩⟩
  · rw [pI_1, if_neg (by omega)]; rfl
  · rw [pI_2, sL_2, sA_2, if_neg (by omega), sA_2, if_neg (by omega), sA_2, if_neg (by omega)]
  · rw [pI_2, sL_3, if_neg (by omega)]; rfl
  · show upd (S.2.1 0 5) (nI t).toNatClampNeg k t = k
    rw [ct, upd_at, if_pos rfl]
  · show upd (S.2.1 0 6) (nI t).toNatClampNeg p t = p
    rw [ct, upd_at, if_pos rfl]
  · show upd (S.2.1 0 7) (nI t).toNatClampNeg v t = v
    rw [ct, upd_at, if_pos rfl]
  · show vp_updL (S.2.2 0 8) (nI t).toNatClampNeg x t = x
    rw [ct, updL_at, if_pos rfl]
  · show upd (S.2.1 0 5) (nI t).toNatClampNeg k j = _
    rw [ct, upd_at, if_neg hj]
  · show upd (S.2.1 0 6) (nI t).toNatClampNeg p j = _
    rw [ct, upd_at, if_neg hj]
  · show upd (S.2.1 0 7) (nI t).toNatClampNeg v j = _
    rw [ct, upd_at, if_neg hj]
  · show vp_updL (S.2.2 0 8) (nI t).toNatClampNeg x j = _
    rw [ct, updL_at, if_neg hj]
/-- a byte as the reference sees it -/
def um (b : Nat → Int32) (L p : Nat) : Int32 := if p < L then b p &&& 255 else 0
theorem Mo_byteAt {S : Mem} {b : Nat → Int32} {L : Nat} (hL : L ≤ 2000) (e : S.1 0 4 = nI L) (hb : byM b L (S.2.1 0 3)) {p : Nat} (hp : p < 4000) : f_Mo_byteAt (nI p) S = some (um b L p) := by
  unfold f_Mo_byteAt f_Mo_byteAt_b0 um
  rw [e]
  rcases Nat.lt_or_ge p L with q | q
  · rw [if_neg (le_nI (show ¬ L ≤ p by omega) (by omega) (by omega)), gIn_n (show p < 2000 by omega) (by decide), cl (by omega), hb p q, if_pos q]
  · rw [if_pos (nI_le q (by omega)), if_neg (by omega)]
theorem Mo_isLetter (x : Int32) : f_Mo_isLetter x = some (if isLt x then 1 else 0) := by
  unfold f_Mo_isLetter f_Mo_isLetter_b0
  by_cases q : x < 97
  · rw [if_pos q, if_neg (fun z => z.1 q)]
  · rw [if_neg q]
    by_cases q2 : 122 < x
    · rw [if_pos q2, if_neg (fun z => z.2 q2)]
    · rw [if_neg q2, if_pos ⟨q, q2⟩]
theorem Mo_isDigit (x : Int32) : f_Mo_isDigit x = some (if isDg x then 1 else 0) := by
  unfold f_Mo_isDigit f_Mo_isDigit_b0
  by_cases q : x < 48
  · rw [if_pos q, if_neg (fun z => z.1 q)]
  · rw [if_neg q]
    by_cases q2 : 57 < x
    · rw [if_pos q2, if_neg (fun z => z.2 q2)]
    · rw [if_neg q2, if_pos ⟨q, q2⟩]
def sgM (x : Int32) : Int32 := if x = 60 then 13 else if x = 47 then 15 else if x = 42 then 10 else if x = 45 then 9 else if x = 43 then 8 else if x = 59 then 4 else if x = 61 then 5 else if x = 40 then 6 else if x = 41 then 7 else 3
theorem um_t : ∀ n, n < 256 → (isLt (nI n) ↔ isLt (Int8.ofNat n).toInt32) ∧ (isDg (nI n) ↔ isDg (Int8.ofNat n).toInt32) ∧ (isBl (nI n) ↔ isBl (Int8.ofNat n).toInt32) ∧ sgM (nI n) = mkK (if isSg (Int8.ofNat n).toInt32 then (Int8.ofNat n).toInt32 else 1) := by decide +kernel
theorem um_p {b : Nat → Int32} {L p : Nat} (hg : byG b L) (hp : p < L) : (isLt (um b L p) ↔ isLt (b p)) ∧ (isDg (um b L p) ↔ isDg (b p)) ∧ (isBl (um b L p) ↔ isBl (b p)) ∧ sgM (um b L p) = mkK (if isSg (b p) then b p else 1) := by
  obtain ⟨n, hn, en⟩ := hg.n hp
  unfold um
  rw [if_pos hp, en, (by_t n hn).2.2.2.2]
  exact um_t n hn
theorem um_0 {b : Nat → Int32} {L p : Nat} (hp : L ≤ p) : um b L p = 0 := by unfold um; rw [if_neg (by omega)]
theorem um_l {b : Nat → Int32} {L p : Nat} (hg : byG b L) : isLt (um b L p) ↔ p < L ∧ isLt (b p) := by
  rcases Nat.lt_or_ge p L with q | q
  · rw [(um_p hg q).1]; exact ⟨fun z => ⟨q, z⟩, fun z => z.2⟩
  · rw [um_0 q]; exact ⟨fun z => absurd z (by decide), fun z => by omega⟩
theorem um_d {b : Nat → Int32} {L p : Nat} (hg : byG b L) : isDg (um b L p) ↔ p < L ∧ isDg (b p) := by
  rcases Nat.lt_or_ge p L with q | q
  · rw [(um_p hg q).2.1]; exact ⟨fun z => ⟨q, z⟩, fun z => z.2⟩
  · rw [um_0 q]; exact ⟨fun z => absurd z (by decide), fun z => by omega⟩
theorem um_v {b : Nat → Int32} {L p m : Nat} (hp : p < L) (e : b p = nI m) (hm : m < 256) : um b L p = nI m := by
  unfold um
  rw [if_pos hp, e, pk_andN (by omega) (m := 255) 8 (by decide), Nat.mod_eq_of_lt hm]
