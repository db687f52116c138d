/-! READ: the shape of a text. kd: the kinds of its tokens; a state (fault, token). -/
def tk (kd : Nat → Int32) (k : Int32) (z : Nat × Nat) : Nat × Nat := if z.1 = 0 then (if kd z.2 = k then (if z.2 < 400 then (0, z.2 + 1) else (2, z.2)) else (1, z.2)) else z
def tks (kd : Nat → Int32) : List Int32 → Nat × Nat → Nat × Nat
  | [], z => z
  | k :: l, z => tks kd l (tk kd k z)
abbrev isVl (k : Int32) : Prop := k = 48 ∨ (¬ k < 142 ∧ ¬ 149 < k)
abbrev isSn (k : Int32) : Prop := k = 43 ∨ k = 45 ∨ k = 42 ∨ k = 47
def nmsF (kd : Nat → Int32) : Nat → Nat × Nat → Nat × Nat
  | 0, z => z
  | n + 1, z => if z.1 = 0 ∧ kd z.2 = 97 then nmsF kd n (tk kd 97 z) else z
def smF (kd : Nat → Int32) : Nat → Nat → Bool → Nat → Nat × Nat
  | 0, _, _, t => (0, t)
  | n + 1, o, due, t =>
    if due = true then
      (if kd t = 40 then (if o + 1 ≤ 6 then (if (tk kd 40 (0, t)).1 = 0 then smF kd n (o + 1) true (t + 1) else tk kd 40 (0, t)) else (2, t))
       else if isVl (kd t) then (if (tk kd (kd t) (0, t)).1 = 0 then smF kd n o false (t + 1) else tk kd (kd t) (0, t)) else (1, t))
    else if isSn (kd t) then (if (tk kd (kd t) (0, t)).1 = 0 then smF kd n o true (t + 1) else tk kd (kd t) (0, t))
    else if o = 0 then (0, t) else if kd t = 41 then (if (tk kd 41 (0, t)).1 = 0 then smF kd n (o - 1) false (t + 1) else tk kd 41 (0, t)) else (1, t)
def smP (kd : Nat → Int32) (z : Nat × Nat) : Nat × Nat := if z.1 = 0 then smF kd 402 0 true z.2 else z
def csP (kd : Nat → Int32) (z : Nat × Nat) : Nat × Nat := tk kd 141 (smP kd (tk kd 140 (smP kd (tk kd 60 (smP kd (tk kd 139 z))))))
def fnP (kd : Nat → Int32) (z : Nat × Nat) : Nat × Nat := tk kd 59 (smP kd z)
def lwF (kd : Nat → Int32) : Nat → Nat × Nat → Nat × Nat
  | 0, z => if z.1 = 0 then (if kd z.2 = 139 then (2, z.2) else fnP kd z) else z
  | n + 1, z => if z.1 = 0 then (if kd z.2 = 139 then lwF kd n (csP kd z) else fnP kd z) else z
def lwP (kd : Nat → Int32) (z : Nat × Nat) : Nat × Nat := lwF kd 4 (tk kd 61 z)
def scP (kd : Nat → Int32) (z : Nat × Nat) : Nat × Nat := if z.1 = 0 ∧ kd z.2 = 138 then tk kd 138 z else z
def seP (kd : Nat → Int32) (z : Nat × Nat) : Nat × Nat := tk kd 59 (nmsF kd 402 (scP kd (tks kd [97, 48] z)))
def mostN (k : Int32) : Nat := if k = 128 then 4 else if k = 129 then 7 else if k = 130 then 8 else 12
def srt (k : Int32) : Nat := (k - 128).toNatClampNeg
def bdP (kd : Nat → Int32) (k : Int32) (z : Nat × Nat) : Nat × Nat :=
  if k = 128 then tks kd [97, 48, 48, 59] z else if k = 129 then tks kd [97, 97, 48, 59] z else if k = 130 then seP kd z else if k = 131 then tks kd [97, 97, 59] z
  else if k = 132 ∨ k = 133 ∨ k = 134 then lwP kd z else tks kd [48, 59] z
def tlP (kd : Nat → Int32) (c : Nat → Nat) (t : Nat) : Nat × Nat :=
  if kd t < 128 ∨ 137 < kd t then (1, t) else if kd t ≤ 131 ∧ mostN (kd t) < c (srt (kd t)) + 1 then (2, t) else bdP kd (kd t) (tk kd (kd t) (0, t))
def cn1 (kd : Nat → Int32) (c : Nat → Nat) (t : Nat) : Nat → Nat := fun i => if ¬ kd t < 128 ∧ kd t ≤ 131 ∧ i = srt (kd t) then c i + 1 else c i
def skF (kd : Nat → Int32) : Nat → (Nat → Nat) → Nat → Nat × Nat
  | 0, _, t => (0, t)
  | n + 1, c, t => if kd t = 0 then (0, t) else if (tlP kd c t).1 = 0 then skF kd n (cn1 kd c t) (tlP kd c t).2 else tlP kd c t
/-- the tokens, of the class: kinds, places, values -/
def TC (kd : Nat → Int32) (pl vl : Nat → Nat) (Q : Nat) (S : Mem) : Prop := ∀ i, i ≤ Q → S.2.1 1 3 i = kd i ∧ S.2.1 1 4 i = nI (pl i) ∧ (kd i = 97 ∨ kd i = 48 → S.2.2 1 5 i = lN (vl i))
/-- Q is the last token that is looked at -/
def KQ (kd : Nat → Int32) (Q : Nat) : Prop := Q ≤ 400 ∧ (∀ i, i < Q → ¬ (kd i = 0 ∨ kd i = 1)) ∧ (Q < 400 → kd Q = 0 ∨ kd Q = 1)
theorem tk_ok {kd : Nat → Int32} {Q : Nat} (hQ : KQ kd Q) {k : Int32} (hk : ¬ (k = 0 ∨ k = 1)) {t : Nat} (ht : t ≤ Q) : (tk kd k (0, t)).2 ≤ Q ∧ ((tk kd k (0, t) = (0, t + 1) ∧ kd t = k ∧ t < 400) ∨ (tk kd k (0, t) = (2, t) ∧ kd t = k ∧ ¬ t < 400) ∨ (tk kd k (0, t) = (1, t) ∧ ¬ kd t = k)) := by
  unfold tk
  rw [if_pos rfl]
  by_cases q : kd t = k
  · rw [if_pos q]
    by_cases q2 : t < 400
    · rw [if_pos q2]
      refine ⟨?_, Or.inl ⟨rfl, q, q2⟩⟩
      show t + 1 ≤ Q
      rcases Nat.lt_or_ge t Q with z | z
      · exact z
      · have : t = Q := by omega
        subst this
        exact absurd (by rw [← q]; exact hQ.2.2 q2) hk
    · rw [if_neg q2]; exact ⟨ht, Or.inr (Or.inl ⟨rfl, q, q2⟩)⟩
  · rw [if_neg q]; exact ⟨ht, Or.inr (Or.inr ⟨rfl, q⟩)⟩
/-- only the shape is changed -/
def O3 (S S' : Mem) : Prop := (∀ o, o ≠ 2 → S'.1 o = S.1 o) ∧ (∀ o f, o ≠ 2 → S'.2.1 o f = S.2.1 o f) ∧ S'.2.2 = S.2.2
theorem O3.rf (S : Mem) : O3 S S := ⟨fun _ _ => rfl, fun _ _ _ => rfl, rfl⟩
theorem O3.tr {A B C : Mem} (h1 : O3 A B) (h2 : O3 B C) : O3 A C := ⟨fun o h => (h2.1 o h).trans (h1.1 o h), fun o f h => (h2.2.1 o f h).trans (h1.2.1 o f h), h2.2.2.trans h1.2.2⟩
theorem O3.s {S S' : Mem} (h : O3 S S') (f : Nat) (i x : Int32) : O3 S (sA S' 2 f i x) := ⟨h.1, fun o f' a => by rw [sA_2, if_neg (fun z => a z.1)]; exact h.2.1 o f' a, h.2.2⟩
theorem O3.p {S S' : Mem} (h : O3 S S') (k : Nat) (x : Int32) : O3 S (pI S' 2 k x) := ⟨fun o ho => by rw [← h.1 o ho]; funext k'; rw [pI_1, if_neg (fun z => ho z.1)], h.2.1, h.2.2⟩
theorem TC.o3 {kd : Nat → Int32} {pl vl : Nat → Nat} {Q : Nat} {S S' : Mem} (h : TC kd pl vl Q S) (hf : O3 S S') : TC kd pl vl Q S' := fun i hi => by
  rw [hf.2.1 1 3 (by omega), hf.2.1 1 4 (by omega), hf.2.2]; exact h i hi
/-- the shape's state -/
def Sy (Q : Nat) (z : Nat × Nat) (S : Mem) : Prop := S.1 2 2 = nI z.1 ∧ S.1 2 3 = nI z.2 ∧ z.2 ≤ Q ∧ z.1 ≤ 2
/-- it goes on where there is no fault -/
def Sz (Q : Nat) (S : Mem) (z : Nat × Nat) (x : Option (Int32 × Mem)) : Prop := Ok (fun y : Int32 × Mem => y.1 = (if z.1 = 0 then 1 else 0) ∧ O3 S y.2 ∧ Sy Q z y.2 ∧ y.2.2.1 2 4 = S.2.1 2 4) x
theorem Tp_kindAt {kd : Nat → Int32} {pl vl : Nat → Nat} {Q : Nat} {S : Mem} (hQ : Q ≤ 400) (h : TC kd pl vl Q S) {t : Nat} (ht : t ≤ Q) : f_Tp_kindAt (nI t) S = some (kd t) := by
  unfold f_Tp_kindAt f_Tp_kindAt_b0
  rw [if_neg (nI_pos (by omega)), if_neg (show ¬ (400 : Int32) < nI t from nI_nlt (a := 400) (by omega) (by decide)), gIn_n (by omega) (by decide), cl (by omega), (h t ht).1]
theorem Tp_placeAt {kd : Nat → Int32} {pl vl : Nat → Nat} {Q : Nat} {S : Mem} (hQ : Q ≤ 400) (h : TC kd pl vl Q S) {t : Nat} (ht : t ≤ Q) : f_Tp_placeAt (nI t) S = some (nI (pl t)) := by
  unfold f_Tp_placeAt f_Tp_placeAt_b0
  rw [if_neg (nI_pos (by omega)), if_neg (show ¬ (400 : Int32) < nI t from nI_nlt (a := 400) (by omega) (by decide)), gIn_n (by omega) (by decide), cl (by omega), (h t ht).2.1]
theorem Sh_failed {Q : Nat} {S : Mem} {t c : Nat} (h : Sy Q (0, t) S) (hc : c = 1 ∨ c = 2) : Sz Q S (c, t) (f_Sh_failed (nI c) S) := by
  unfold f_Sh_failed f_Sh_failed_b0
  rw [letS_e]
  exact Ok.i ⟨by rw [if_neg (by show ¬ c = 0; omega)], (O3.rf S).p 2 _, ⟨rfl, h.2.1, h.2.2.1, by show c ≤ 2; omega⟩, rfl⟩
theorem Sz.gz {Q : Nat} {S : Mem} {z : Nat × Nat} {x : Option (Int32 × Mem)} (h : Sz Q S z x) : Sz Q S z (Option.bind x (fun q => gZ q.1 (some (q.1, q.2)))) := by
  obtain ⟨y, rfl, h1, h2⟩ := h
  refine ⟨y, ?_, h1, h2⟩
  rw [bind_e]
  by_cases q : z.1 = 0
  · rw [if_pos q] at h1
    rw [h1, gZ_1, ← h1]
  · rw [if_neg q] at h1
    rw [h1, gZ_0, ← h1]
theorem Sh_isTaken {kd : Nat → Int32} {pl vl : Nat → Nat} {Q : Nat} {S : Mem} (hQ : KQ kd Q) (hT : TC kd pl vl Q S) {k : Int32} (hk : ¬ (k = 0 ∨ k = 1)) {t : Nat} (h : Sy Q (0, t) S) : Sz Q S (tk kd k (0, t)) (f_Sh_isTaken k S) := by
  unfold f_Sh_isTaken f_Sh_isTaken_b0
  have ht := h.2.2.1
  have hq := hQ.1
  have e23 : S.1 2 3 = nI t := h.2.1
  rw [e23, Tp_kindAt hQ.1 hT ht, bind_e]
  obtain ⟨k1, k2⟩ := tk_ok hQ hk ht
  have ht4 : t ≤ Q := ht
  rcases k2 with ⟨e, q1, q2⟩ | ⟨e, q1, q2⟩ | ⟨e, q1⟩
  · rw [e] at k1
    rw [if_pos q1, if_pos (show nI t < (400 : Int32) from nI_lt (b := 400) q2 (by decide)), letS_e, nI_1, e]
    exact Ok.i ⟨rfl, (O3.rf S).p 3 _, ⟨h.1, rfl, k1, by show 0 ≤ 2; omega⟩, rfl⟩
  · rw [if_pos q1, if_neg (show ¬ nI t < (400 : Int32) from nI_nlt (b := 400) (by omega) (by omega)), e]
    exact (Sh_failed h (Or.inr rfl)).gz
  · rw [if_neg q1, e]
    exact (Sh_failed h (Or.inl rfl)).gz
theorem pz {z : Nat × Nat} (h : z.1 = 0) : ((0 : Nat), z.2) = z := Prod.ext h.symm rfl
/-- one thing behind another -/
theorem Sz.b {Q : Nat} {S : Mem} {z : Nat × Nat} {x : Option (Int32 × Mem)} {w : Nat × Nat} {f : Int32 × Mem → Option (Int32 × Mem)} (h : Sz Q S z x) (hw : ¬ z.1 = 0 → w = z) (hf : ∀ y : Int32 × Mem, O3 S y.2 → z.1 = 0 → Sy Q z y.2 → y.2.2.1 2 4 = S.2.1 2 4 → Sz Q y.2 w (f y)) : Sz Q S w (Option.bind x (fun q => if q.1 = 0 then some (0, q.2) else f q)) := by
  obtain ⟨y, rfl, h1, h2, h3, h4⟩ := h
  rw [bind_e]
  by_cases q : z.1 = 0
  · rw [if_pos q] at h1
    rw [h1, i10]
    obtain ⟨u, e, u1, u2, u3, u4⟩ := hf y h2 q h3 h4
    exact ⟨u, e, u1, h2.tr u2, u3, u4.trans h4⟩
  · rw [if_neg q] at h1
    rw [h1, i00]
    exact ⟨_, rfl, by rw [hw q, if_neg q], h2, by rw [hw q]; exact h3, h4⟩
theorem tk_f {kd : Nat → Int32} {k : Int32} {z : Nat × Nat} (h : ¬ z.1 = 0) : tk kd k z = z := by unfold tk; rw [if_neg h]
theorem tks_f {kd : Nat → Int32} {z : Nat × Nat} (h : ¬ z.1 = 0) : ∀ l, tks kd l z = z
  | [] => rfl
  | k :: l => by rw [tks, tk_f h]; exact tks_f h l
theorem Sy.z {Q : Nat} {z : Nat × Nat} {S : Mem} (h : Sy Q z S) (e : z.1 = 0) : Sy Q (0, z.2) S := by
  obtain ⟨h1, h2, h3, h4⟩ := h
  exact ⟨by rw [h1, e], h2, h3, by show 0 ≤ 2; omega⟩
def chS (si i : Nat) : Int32 := ((((jsByt.getD si []).getD i 0) &&& 255).toUInt32 % 65536).toInt32
theorem chA {si i : Nat} (h : i < jsLen.getD si 0) (hl : jsLen.getD si 0 < 2 ^ 30) (hc : ((chS si i).toUInt32 % 65536).toInt32 = chS si i) (S : Mem) : f_JStr_charAt si (nI i) S = some (chS si i, S) := by
  unfold f_JStr_charAt f_JStr_charAt_b0 f_JStr_isLatin1 f_JStr_isLatin1_b0 f_JLat_charAt f_JLat_charAt_b0 f_JStr_checkIndex f_JStr_checkIndex_b0 f_JPre_checkIndex f_JPre_checkIndex_b0
  rw [i10, i00, bind_e, i10, if_neg (nI_pos (by omega)), if_pos (show nI i < Int32.ofNat (jsLen.getD si 0) from nI_lt h (by omega)), bind_e, bind_e, gIn_n h (by omega), nI_clamp (by omega)]
  have e : ((((jsByt.getD si []).getD i 0) &&& 255).toUInt32 % 65536).toInt32 = chS si i := rfl
  rw [e]
  unfold gC
  rw [if_pos hc, bind_e, if_pos hc]
theorem lenS (si : Nat) : f_JStr_length si = some ((Int32.ofNat (jsLen.getD si 0)) >>> (0 &&& 31)) := by
  unfold f_JStr_length f_JStr_length_b0 f_JStr_coder f_JStr_coder_b0
  rw [i10, bind_e]
theorem Sh_areTaken {kd : Nat → Int32} {pl vl : Nat → Nat} {Q : Nat} {S : Mem} (hQ : KQ kd Q) (hT : TC kd pl vl Q S) {si : Nat} {l : List Int32} (hlen : (Int32.ofNat (jsLen.getD si 0)) >>> (0 &&& 31) = nI l.length) (hl2 : jsLen.getD si 0 = l.length) (hl3 : l.length < 10) (hch : ∀ i, i < l.length → chS si i = l.getD i 0 ∧ ((chS si i).toUInt32 % 65536).toInt32 = chS si i ∧ ¬ (chS si i = 0 ∨ chS si i = 1)) {t : Nat} (h : Sy Q (0, t) S) : Sz Q S (tks kd l (0, t)) (f_Sh_areTaken si S) := by
  have main : ∀ n i S' t', i ≤ l.length → l.length - i < n → TC kd pl vl Q S' → Sy Q (0, t') S' → Sz Q S' (tks kd (l.drop i) (0, t')) (f_Sh_areTaken_l2 si n (nI i) S') := by
    intro n
    induction n with
    | zero => intro i S' t' _ h; omega
    | succ n ih =>
      intro i S' t' hi hn hT' h'
      show Sz Q S' _ (f_Sh_areTaken_b2 si (f_Sh_areTaken_l2 si n) (nI i) S')
      unfold f_Sh_areTaken_b2
      rw [lenS, bind_e, hlen]
      rcases Nat.lt_or_ge i l.length with q | q
      · obtain ⟨c1, c2, c3⟩ := hch i q
        rw [if_neg (le_nI (show ¬ l.length ≤ i by omega) (by omega) (by omega)), chA (by omega) (by omega) c2, bind_e]
        have ed : l.drop i = l.getD i 0 :: l.drop (i + 1) := by
          rw [List.drop_eq_getElem_cons q]
          congr 1
          rw [List.getD_eq_getElem?_getD, List.getElem?_eq_getElem q]; rfl
        rw [ed, tks, ← c1]
        refine (Sh_isTaken hQ hT' c3 h').b (fun hz => tks_f hz _) (fun S2 f1 hz f2 f3 => ?_)
        have := ih (i + 1) S2.2 (tk kd (chS si i) (0, t')).2 (by omega) (by omega) (hT'.o3 f1) (f2.z hz)
        rw [pz hz] at this
        rw [nI_1]; exact this
      · have : i = l.length := by omega
        subst this
        rw [if_pos (le_rf _), List.drop_length]
        exact Ok.i ⟨rfl, O3.rf _, h', rfl⟩
  have := main 5000 0 S t (by omega) (by omega) hT h
  rw [List.drop_zero] at this
  exact this
