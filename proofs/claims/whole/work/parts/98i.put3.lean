/-! READ: the class puts down numbers and secrets. -/
variable {kd : Nat → Int32} {pl vl : Nat → Nat} {Q tx : Nat} {c : Nat → Nat} {l : NLt} {T : TX} {G : LwG} {w : Nat × Nat} {t : Nat} {S S' : Mem}
/-- a number told of the text: field f of the class, number j of the text -/
theorem CJ.num (hI : CJ tx c l T G S) (h20 : 20 ≤ tx) (hf : F3 S S') {f j n : Nat} (hfj : (f = 5 ∧ j = 4 ∧ 1 ≤ n ∧ n ≤ 99) ∨ (f = 6 ∧ j = 5 ∧ n ≤ 99) ∨ (f = 7 ∧ j = 6)) : CJ tx c l (upd2 T 0 j (nI n)) G (pI S' tx f (nI n)) := by
  obtain ⟨hN, hL, hP, hG, hW⟩ := hI
  have I2 : ∀ o, o ≠ 3 → (pI S' tx f (nI n)).1 o = (pI S tx f (nI n)).1 o := fun o ho => by
    funext k
    rw [pI_1, pI_1, hf.1 o ho]
  have A : (pI S' tx f (nI n)).2 = S.2 := hf.2
  refine ⟨hN.e (by rw [A]), hL, ?_, ?_, ?_⟩
  · obtain ⟨p1, p2, p3, p4, p5, p6, p7, p8⟩ := hP
    unfold CP
    rw [I2 tx (by omega), A]
    rcases hfj with ⟨rfl, rfl, -, -⟩ | ⟨rfl, rfl, -⟩ | ⟨rfl, rfl⟩
    all_goals
      refine ⟨by simp [pI_1, p1], by simp [pI_1, upd2, p2], by simp [pI_1, upd2, p3], fun u hu => ?_, fun a ha => ?_, fun a ha => ?_, fun s hs => ?_, fun k hk => ?_⟩
      · have := p4 u hu; simp [upd2, this]
      · have := p5 a ha; simp [upd2, this]
      · have := p6 a ha; simp [upd2, this]
      · have := p7 s hs; simp [upd2, this]
      · have := p8 k hk; simp [upd2, this]
  · obtain ⟨p1, p2, p3, p4, p5, p6, p7⟩ := hG
    rcases hfj with ⟨rfl, rfl, n1, n2⟩ | ⟨rfl, rfl, n2⟩ | ⟨rfl, rfl⟩
    · exact ⟨p1, p2, p3, p4, p5, ⟨n, n1, n2, by simp [upd2]⟩, p7⟩
    · exact ⟨p1, p2, p3, p4, p5, p6, n, n2, by simp [upd2]⟩
    · exact ⟨p1, p2, p3, p4, p5, p6, p7⟩
  · refine hW.e (fun o o1 o2 => ?_) (fun o o1 o2 => by rw [A])
    rw [I2 o (by omega), pI_o (by omega)]
theorem Mn_putNum (E : EV kd pl vl Q) (h20 : 20 ≤ tx) (hT : TC kd pl vl Q S) (h : CS pl w t S) (hI : CJ tx c l T G S) (ht : t ≤ Q) (k0 : kd t = 48) {lo hi f j : Nat} (hlo : lo ≤ 9999) (hhi : hi ≤ 9999) (hfj : (f = 5 ∧ j = 4 ∧ 1 ≤ lo ∧ hi ≤ 99) ∨ (f = 6 ∧ j = 5 ∧ hi ≤ 99) ∨ (f = 7 ∧ j = 6)) : Ok (fun z : Int32 × Mem => tlC pl tx c l (upd2 T 0 j (nI (vl t))) G (bdW vl lo hi t w) (t + 1) S (pI z.2 tx f z.1)) (f_Mn_number (nI lo) (nI hi) S) := by
  refine (Mn_number E.1.1 hT h ht k0 (E.2.2.2.2.1 _ ht k0) hlo hhi).m (fun z g => ?_)
  obtain ⟨a, f1, s1⟩ := g
  refine ⟨(F3.o4 f1).tr (O4.p _), s1.o (pI_o (by omega)), ⟨by rw [pI_1, if_neg (by omega), f1.1 tx (by omega)]; exact hI.2.2.1.1.2.1, hI.2.1.2.1, by rw [pI_1, if_neg (by omega), f1.1 tx (by omega)]; exact hI.2.2.1.1.2.2.1, hI.2.1.2.2.1⟩, fun y => ?_⟩
  obtain ⟨-, b1, b2⟩ := bdW_0 y
  rw [a]
  exact hI.num h20 f1 (by omega)
/-- what the names behind a secret may change -/
def FK (tx : Nat) (S S' : Mem) : Prop := (∀ o, o ≠ 3 → S'.1 o = S.1 o) ∧ (∀ o f, ¬ (o = tx ∧ f = 12) → S'.2.1 o f = S.2.1 o f) ∧ S'.2.2 = S.2.2
theorem FK.rf (tx : Nat) (S : Mem) : FK tx S S := ⟨fun _ _ => rfl, fun _ _ _ => rfl, rfl⟩
theorem FK.tr {A B C : Mem} (h1 : FK tx A B) (h2 : FK tx B C) : FK tx A C := ⟨fun o h => (h2.1 o h).trans (h1.1 o h), fun o f h => (h2.2.1 o f h).trans (h1.2.1 o f h), h2.2.2.trans h1.2.2⟩
theorem F3.fk (h : F3 S S') : FK tx S S' := ⟨h.1, fun o f _ => by rw [h.2], by rw [h.2]⟩
theorem FK.o4 (h : FK tx S S') : O4 tx S S' := ⟨fun o a _ => h.1 o a, fun o f a => h.2.1 o f (fun z => a (by omega)), fun o f _ => by rw [h.2.2]⟩
theorem FK.s (i x : Int32) : FK tx S (sA S tx 12 i x) := ⟨fun _ _ => rfl, fun o f h => by rw [sA_2, if_neg h], rfl⟩
/-- who know secret s: the set b as bits s of the men -/
def KnM (tx s : Nat) (K : Nat → Int32) (b : Int32) (S : Mem) : Prop := ∀ a, a < 7 → S.2.1 tx 12 a = K a ||| (if bitOf b a = 1 then bitM s else 0)
theorem bit_K {K : Int32} {s : Nat} (hs : s < 8) (hK : bt K s = false) (b : Int32) (a : Nat) : bitOf (K ||| (if bitOf b a = 1 then bitM s else 0)) s = bitOf b a := by
  rcases bit01 b a with q | q
  · rw [if_neg (by rw [q]; decide), q, Int32.or_zero]
    rcases bit01 K s with z | z
    · exact z
    · rw [(bitOf_1 _ (show s < 32 by omega)).mp z] at hK; exact absurd hK (by decide)
  · rw [if_pos q, q]
    refine (bitOf_1 _ (show s < 32 by omega)).mpr ?_
    rw [b_or, bt_bitM (by omega) (by omega)]; simp
def kW (vl : Nat → Nat) (l : NLt) (t : Nat) (w : Nat × Nat) (b : Int32) : Nat × Nat := if fdN l 1 (vl t) l.1 < l.1 then (if bitOf b (l.2 (fdN l 1 (vl t) l.1)).2.2 = 1 then wr 3 t w else w) else wr 4 t w
def kB (vl : Nat → Nat) (l : NLt) (t : Nat) (b : Int32) : Int32 := if fdN l 1 (vl t) l.1 < l.1 then b ||| bitM (l.2 (fdN l 1 (vl t) l.1)).2.2 else b
theorem knF_e {n : Nat} {b : Int32} (hN : NmC l c S) (hL : cLe c) (hk : kd t = 97) (h : tk kd 97 (0, t) = (0, t + 1)) : knF kd vl l (n + 1) ((0, t), w) b = knF kd vl l n ((0, t + 1), kW vl l t w b) (kB vl l t b) := by
  rw [knF, if_pos ⟨rfl, hk⟩]
  show (if (tk kd 97 (0, t)).1 = 0 ∧ 0 ≤ odX vl l 1 t then knF kd vl l n (if ((b >>> (odX vl l 1 t &&& 31)) &&& 1) = 1 then wrS 3 t (odS kd vl l 1 ((0, t), w)) else odS kd vl l 1 ((0, t), w)) (b ||| ((1 : Int32) <<< (odX vl l 1 t &&& 31))) else knF kd vl l n (odS kd vl l 1 ((0, t), w)) b) = _
  rw [odS_e h, h]
  unfold odX odW kW kB
  by_cases q : fdN l 1 (vl t) l.1 < l.1
  · have y := (fd_y q).2.resolve_left (by omega)
    have bb := (hN.1 _ q).2.1
    rw [y] at bb
    have := hL.2.1
    simp only [if_pos q]
    rw [if_pos ⟨trivial, nI_pos' (by omega)⟩]
    show knF kd vl l n (if bitOf b (l.2 (fdN l 1 (vl t) l.1)).2.2 = 1 then wrS 3 t ((0, t + 1), w) else ((0, t + 1), w)) (b ||| bitM (l.2 (fdN l 1 (vl t) l.1)).2.2) = _
    by_cases q2 : bitOf b (l.2 (fdN l 1 (vl t) l.1)).2.2 = 1
    · rw [if_pos q2, if_pos q2]
      have : wrS 3 t ((0, t + 1), w) = ((0, t + 1), wr 3 t w) := Prod.ext (wrS_1 _ _ _) (wr_e 3 t (t + 1) w)
      rw [this]
    · rw [if_neg q2, if_neg q2]
  · simp only [if_neg q]
    rw [if_neg (fun z => neg1 z.2)]
theorem Mn_putKnower (E : EV kd pl vl Q) (h20 : 20 ≤ tx) (hT : TC kd pl vl Q S) (h : CS pl w t S) (ht : t ≤ Q) (hk : kd t = 97) (hN : NmC l c S) (hL : cLe c) (e1 : S.1 tx 1 = nI (c 1)) {s : Nat} {K : Nat → Int32} {b : Int32} (hs : s < 8) (hK : ∀ a, a < 7 → bt (K a) s = false) (hb : KnM tx s K b S) : Ok (fun S' => FK tx S S' ∧ CS pl (kW vl l t w b) (t + 1) S' ∧ KnM tx s K (kB vl l t b) S') (f_Mn_putKnower tx (nI s) S) := by
  unfold f_Mn_putKnower f_Mn_putKnower_b0
  rw [e1]
  refine (show Ok _ (f_Mn_oldName 5 _ _) from Mn_oldName (s := 1) E.1.1 hT h ht hk (E.2.2.2.2.2 _ ht hk) (by omega) hN hL).b (fun z1 g1 => ?_)
  obtain ⟨a1, f1, s1⟩ := g1
  rw [letS_e, a1]
  unfold odX kW kB
  unfold odW at s1
  by_cases q : fdN l 1 (vl t) l.1 < l.1
  · have y := (fd_y q).2.resolve_left (by omega)
    have bb := (hN.1 _ q).2.1
    rw [y] at bb
    have b7 := hL.2.1
    rw [if_pos q] at s1
    simp only [if_pos q]
    generalize (l.2 (fdN l 1 (vl t) l.1)).2.2 = i at bb ⊢
    have ci : (nI i).toNatClampNeg = i := cl (by omega)
    rw [if_pos (nI_pos' (by omega)), gIn_n (show i < 7 by omega) (by decide), ci, f1.2, hb i (by omega)]
    rw [show (((K i ||| (if bitOf b i = 1 then bitM s else 0)) >>> (nI s &&& 31)) &&& 1) = bitOf (K i ||| (if bitOf b i = 1 then bitM s else 0)) s from rfl, bit_K hs (hK i (by omega))]
    have fin : ∀ S2 w', F3 S S2 → CS pl w' (t + 1) S2 → Ok (fun S' => FK tx S S' ∧ CS pl w' (t + 1) S' ∧ KnM tx s K (b ||| bitM i) S') (f_Mn_putKnower_b42 tx (nI s) (nI i) S2) := fun S2 w' fs ss => by
      unfold f_Mn_putKnower_b42
      rw [gIn_n (show i < 7 by omega) (by decide), gIn_n (show i < 7 by omega) (by decide), letS_e, ci, fs.2, hb i (by omega)]
      refine Ok.i ⟨(F3.fk fs).tr (FK.s _ _), ss, fun a ha => ?_⟩
      rw [sA_2, if_pos ⟨rfl, rfl⟩, ci, upd_at, fs.2]
      by_cases qa : a = i
      · subst qa
        have e1 : bitOf (b ||| bitM a) a = 1 := (bitOf_1 _ (show a < 32 by omega)).mpr (by rw [b_or, bt_bitM (by omega) (by omega)]; simp)
        rw [if_pos rfl, if_pos e1]
        show (K a ||| (if bitOf b a = 1 then bitM s else 0)) ||| bitM s = K a ||| bitM s
        split
        · rw [Int32.or_assoc, Int32.or_self]
        · rw [Int32.or_zero]
      · rw [if_neg qa, hb a ha]
        have : bitOf (b ||| bitM i) a = 1 ↔ bitOf b a = 1 := by
          rw [bitOf_1 _ (show a < 32 by omega), bitOf_1 _ (show a < 32 by omega), b_or, bt_bitM (by omega) (by omega)]
          simp [qa]
        by_cases z : bitOf b a = 1
        · rw [if_pos z, if_pos (this.mpr z)]
        · rw [if_neg z, if_neg (fun y => z (this.mp y))]
    rcases bit01 b i with q2 | q2
    · rw [q2, i00, if_neg (show ¬ (0 : Int32) = 1 by decide)]
      exact fin z1.2 w f1 s1
    · rw [q2, i10, if_pos rfl, s1.2.2, nI_pred]
      refine (show Ok _ (f_Mn_failed 3 _ _) from Mn_failed (k := 3) E.1.1 (hT.f3 f1) s1 (by omega) ht).b (fun S3 g3 => ?_)
      exact fin S3 _ (f1.tr g3.1) g3.2
  · rw [if_neg q] at s1
    simp only [if_neg q]
    rw [if_neg neg1]
    exact Ok.i ⟨F3.fk f1, s1, fun a ha => by rw [f1.2]; exact hb a ha⟩
theorem Mn_knows (E : EV kd pl vl Q) (h20 : 20 ≤ tx) (hL : cLe c) {s : Nat} {K : Nat → Int32} (hs : s < 8) (hK : ∀ a, a < 7 → bt (K a) s = false) : ∀ (n m i t : Nat) (w : Nat × Nat) (b : Int32) (S : Mem), TC kd pl vl Q S → CS pl w t S → NmC l c S → S.1 tx 1 = nI (c 1) → KnM tx s K b S → (∀ i, c 1 ≤ i → i < 32 → bt b i = false) → t ≤ Q → i ≤ t → Q + 1 - t ≤ n → Q + 2 - t ≤ m → (nmsF kd n (0, t)).1 = 0 → Ok (fun S' => FK tx S S' ∧ CS pl (knF kd vl l n ((0, t), w) b).1.2 (nmsF kd n (0, t)).2 S' ∧ KnM tx s K (knF kd vl l n ((0, t), w) b).2 S' ∧ (∀ i, c 1 ≤ i → i < 32 → bt (knF kd vl l n ((0, t), w) b).2 i = false)) (f_Mn_putSecret_l87 tx m (nI s) (nI i) S) := by
  intro n
  induction n with
  | zero => intro m i t w b S _ _ _ _ _ _ a _ c; omega
  | succ n ih =>
    intro m i t w b S hT h hN e1 hb h1 ht hi hn hm hz
    have hQ := E.1.1
    obtain ⟨m, rfl⟩ : ∃ k, m = k + 1 := ⟨m - 1, by omega⟩
    show Ok _ (f_Mn_putSecret_b87 tx (f_Mn_putSecret_l87 tx m) (nI s) (nI i) S)
    unfold f_Mn_putSecret_b87
    rw [if_neg (show ¬ (400 : Int32) < nI i from nI_nlt (a := 400) (by omega) (by decide)), h.2.2, Tp_kindAt hQ hT ht, bind_e]
    by_cases q : kd t = 97
    · have en : nmsF kd (n + 1) (0, t) = nmsF kd n (tk kd 97 (0, t)) := by rw [nmsF, if_pos ⟨rfl, q⟩]
      rw [en] at hz ⊢
      have z0 := nms_0 _ _ hz
      obtain ⟨-, -, -, ek⟩ := tk_0 z0
      have ek : tk kd 97 (0, t) = (0, t + 1) := ek
      have tQ : t + 1 ≤ Q := by
        have := (tk_ok E.1 (k := 97) (by decide) ht).1
        rw [ek] at this; exact this
      rw [ek] at hz ⊢
      rw [if_pos q, knF_e hN hL q ek]
      refine (Mn_putKnower E h20 hT h ht q hN hL e1 hs hK hb).b (fun S1 g1 => ?_)
      obtain ⟨f1, s1, k1⟩ := g1
      rw [nI_1]
      refine (ih m (i + 1) (t + 1) _ _ S1 (hT.o4 f1.o4 h20) s1 (hN.e (by rw [f1.2.2])) (by rw [f1.1 tx (by omega)]; exact e1) k1 (fun j hj hj2 => ?_) tQ (by omega) (by omega) (by omega) hz).m (fun S2 g2 => ⟨f1.tr g2.1, g2.2⟩)
      unfold kB
      by_cases q2 : fdN l 1 (vl t) l.1 < l.1
      · have y := (fd_y q2).2.resolve_left (by omega)
        have bb := (hN.1 _ q2).2.1
        rw [y] at bb
        rw [if_pos q2, b_or, h1 j hj hj2, bt_bitM (by have := hL.2.1; omega) hj2]
        simp; omega
      · rw [if_neg q2]; exact h1 j hj hj2
    · rw [if_neg q]
      have en : nmsF kd (n + 1) (0, t) = (0, t) := by rw [nmsF, if_neg (fun z => q z.2)]
      have ek : knF kd vl l (n + 1) ((0, t), w) b = (((0, t), w), b) := by rw [knF, if_neg (fun z => q z.2)]
      rw [en, ek]
      exact Ok.i ⟨FK.rf tx S, h, hb, h1⟩
