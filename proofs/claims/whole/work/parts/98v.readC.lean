/-! READ: the class reads. -/
variable {tx : Nat} {S S' : Mem} {T T0 : TX} {F : LF} {r : RW} {U : UX} {H : HX} {N : NX} {B : BX} {P : Int32} {c : Nat → Nat} {l : NLt} {G : LwG}
theorem CT.e (h : CT T tx S) (e1 : S'.1 tx = S.1 tx) (e2 : ∀ f, S'.2.1 tx f = S.2.1 tx f) : CT T tx S' := by
  unfold CT
  rw [e1, e2, e2, e2, e2, e2, e2, e2, e2, e2]; exact h
theorem CX2.e (h : CX2 T F tx S) (e1 : ∀ o, tx ≤ o → o ≤ tx + 3 → S'.1 o = S.1 o) (e2 : ∀ o f, tx ≤ o → o ≤ tx + 3 → S'.2.1 o f = S.2.1 o f) : CX2 T F tx S' := ⟨h.1, h.2.1.e (e1 tx (by omega) (by omega)) (fun f => e2 tx f (by omega) (by omega)), h.2.2.lw (fun l h1 h2 => ⟨e1 _ (by omega) (by omega), e2 _ _ (by omega) (by omega)⟩)⟩
theorem CX2.p (h : CX2 T F tx S) {o k : Nat} (ho : o < 20) (x : Int32) : CX2 T F tx (pI S o k x) := h.e (fun o' h1 _ => pI_o (by have := h.1; omega)) (fun _ _ _ _ => rfl)
theorem COK.kp (h : COK tx T F r U H N B P S) (e1 : ∀ o, (4 ≤ o ∧ o ≤ 19) ∨ (tx ≤ o ∧ o ≤ tx + 3) → S'.1 o = S.1 o) (e0 : ∀ k, k ≠ 13 → S'.1 0 k = S.1 0 k) (e2 : ∀ o f, (4 ≤ o ∧ o ≤ 19) ∨ (tx ≤ o ∧ o ≤ tx + 3) → S'.2.1 o f = S.2.1 o f) (e3 : S'.2.2 1 2 = S.2.2 1 2) (e4 : S'.1 1 0 = 0) : COK tx T F r U H N (0, B.2) (S'.1 0 13) S' := by
  obtain ⟨⟨⟨h1, ht, hl, h11, h12⟩, h2, h3, h4, h5, h6, h7⟩, hB, hM, hR⟩ := h
  refine ⟨⟨⟨h1.e (fun o a b => e1 o (Or.inr ⟨a, b⟩)) (fun o f a b => e2 o f (Or.inr ⟨a, b⟩)), ht, by rw [e1 tx (Or.inr (by omega))]; exact hl, by rw [e0 11 (by decide)]; exact h11, by rw [e0 12 (by decide)]; exact h12⟩, ?_, ?_, ?_, ⟨e4, by show 0 ≤ 2000; omega, fun i hi => absurd hi (by show ¬ i < 0; omega)⟩, rfl, by rw [e3]; exact h7⟩, ?_, ?_, ?_⟩
  · rw [e0 14 (by decide), e0 15 (by decide), e2 10 0 (by omega)]; exact h2
  · rw [e0 16 (by decide), e2 11 0 (by omega)]; exact h3
  · rw [e1 9 (by omega), e2 9 1 (by omega), e2 9 2 (by omega), e2 9 3 (by omega)]; exact h4
  · unfold CB
    rw [e1 4 (by omega), e2 4 4 (by omega), e2 4 5 (by omega), e2 4 6 (by omega), e2 4 7 (by omega), e2 4 8 (by omega)]; exact hB
  · exact hM.o (fun f _ _ => e2 4 f (by omega))
  · rw [e1 7 (by omega), e2 7 4 (by omega)]; exact hR
/-- the class takes up the new text -/
theorem Co_beginAnew {ty : Nat} (hty : ty = 20 ∨ ty = 30) (hT : TG T F) (hI : RI T (rB T)) (hg : GR T (iter (cutR T) (nW T) (rB T))) (hX : CX2 T F ty S) (e4 : S.1 ty 4 = orF (fun s => if T 6 s = 0 then 0 else bitM s) (nS T)) (e11 : S.1 0 11 = nI (50 - ty)) (e12 : S.1 0 12 = nI ty) (e10 : S.1 1 0 = 0) (eK : cK (S.2.2 1 2)) : Ok (fun S' => COK ty T F (iter (cutR T) (nW T) (rB T)) (0, U.2) (fun _ => false, H.2) (0, N.2) (0, B.2) (S.1 0 13) S') (f_Co_beginAnew S) := by
  unfold f_Co_beginAnew f_Co_beginAnew_b0
  rw [e11, e12, gTx_t (show 50 - ty = 20 ∨ 50 - ty = 30 by omega), gTx_t hty, letS_e, letS_e, cl (show ty < 4096 by omega), cl (show 50 - ty < 4096 by omega)]
  have i11 : (pI (pI S 0 11 (nI ty)) 0 12 (nI (50 - ty))).1 0 11 = nI ty := rfl
  rw [i11, gTx_t hty, cl (show ty < 4096 by omega)]
  have hX1 : CX2 T F ty (pI (pI S 0 11 (nI ty)) 0 12 (nI (50 - ty))) := (hX.p (by decide) _).p (by decide) _
  refine (St_begin hT hI hX1).b (fun S1 g1 => ?_)
  obtain ⟨fq, b1, m1⟩ := g1
  have hX2 := hX1.fq fq (by decide)
  rw [letS_e, letS_e]
  unfold f_Co_forgetDone f_Co_forgetDone_b0
  rw [letS_e, letS_e, bind_e]
  have i0 : S1.1 0 = (pI (pI S 0 11 (nI ty)) 0 12 (nI (50 - ty))).1 0 := fq.1 0 (by decide)
  have it : ∀ o, o ≠ 9 → o ≠ 0 → (pI (pI (pI (pI S1 9 0 0) 0 16 0) 0 14 0) 0 15 0).1 o = S1.1 o := fun o a b => by rw [pI_o b, pI_o b, pI_o b, pI_o a]
  have cr : CR ty T F (0, U.2) (fun _ => false, H.2) (0, N.2) (0, B.2) (S.1 0 13) (pI (pI (pI (pI S1 9 0 0) 0 16 0) 0 14 0) 0 15 0) := by
    refine ⟨⟨(((hX2.p (by decide) _).p (by decide) _).p (by decide) _).p (by decide) _, hty, ?_, ?_, ?_⟩, ⟨0, by decide, rfl, rfl, by show 0 ≤ 40; omega, fun i hi => absurd hi (by show ¬ i < 0; omega)⟩, ⟨show (0 : Int32) = orF (fun s => if false = true then bitM s else 0) 3 by decide, fun s _ h => absurd h (show ¬ false = true by decide)⟩, ⟨rfl, by show 0 ≤ 20; omega, fun i hi => absurd hi (by show ¬ i < 0; omega)⟩, ⟨?_, by show 0 ≤ 2000; omega, fun i hi => absurd hi (by show ¬ i < 0; omega)⟩, ?_, ?_⟩
    · rw [it ty (by omega) (by omega), fq.1 ty (by omega), pI_o (by omega), pI_o (by omega)]; exact e4
    · show S1.1 0 11 = _; rw [i0]; rfl
    · show S1.1 0 12 = _; rw [i0]; rfl
    · show S1.1 1 0 = _; rw [fq.1 1 (by decide)]; exact e10
    · show S1.1 0 13 = _; rw [i0]; rfl
    · show cK (S1.2.2 1 2); rw [fq.2.2]; exact eK
  have hB : CB T (iter (cutR T) (nW T) (rB T)) 4 (pI (pI (pI (pI S1 9 0 0) 0 16 0) 0 14 0) 0 15 0) := b1
  refine (Co_changed hT hg.1 cr hB).b (fun S2 g2 => Ok.i ?_)
  rw [cut_id hg.2.2.1] at g2
  exact g2
def kdX (B : BX) : Nat → Int32 := fun i => kdP B.2 B.1 (psP B.2 B.1 i)
def vlX (B : BX) : Nat → Nat := fun i => vlP B.2 B.1 (psP B.2 B.1 i)
def plX (B : BX) : Nat → Nat := psP B.2 B.1
def skX (B : BX) : Nat × Nat := skF (kdX B) 402 c00 0
def rdX (B : BX) (T0 : TX) : (Nat → Nat) × DX := rdF (kdX B) (vlX B) 402 c00 ((0, 0), l00, T0, G00) 0
/-- what read answers, and where -/
def anX (B : BX) (T0 : TX) : Nat := if (skX B).1 = 0 then (rdX B T0).2.1.1 else (skX B).1
def paX (B : BX) (T0 : TX) : Int32 := if (skX B).1 = 0 then (if (rdX B T0).2.1.1 = 0 then -1 else nI (plX B (rdX B T0).2.1.2)) else nI (plX B (skX B).2)
theorem Co_read (w : WO T F r U H N B) (h : COK tx T F r U H N B P S) (h0 : T00 T0) (an5 : anX B T0 ≤ 5) : Ok (fun z : Int32 × Mem => z.1 = nI (anX B T0) ∧ (¬ anX B T0 = 0 → COK tx T F r U H N (0, B.2) (paX B T0) z.2) ∧ (anX B T0 = 0 → GT (rdX B T0).1 (rdX B T0).2.2.2.1 ∧ cLe (rdX B T0).1 ∧ L8 (FG (rdX B T0).2.2.2.2) ∧ COK (50 - tx) (rdX B T0).2.2.2.1 (FG (rdX B T0).2.2.2.2) (iter (cutR (rdX B T0).2.2.2.1) (nW (rdX B T0).2.2.2.1) (rB (rdX B T0).2.2.2.1)) (0, U.2) (fun _ => false, H.2) (0, N.2) (0, B.2) (paX B T0) z.2)) (f_Co_read S) := by
  have htx := h.1.1.2.1
  have hB := h.1.2.2.2.2.1
  have hK := h.1.2.2.2.2.2.2
  obtain ⟨Q, hQ⟩ := last_ex B.2 B.1
  have hg : byG B.2 B.1 := w.2.2.2.2.2
  have E := EV_of hB.2.1 hg hQ
  unfold f_Co_read f_Co_read_b0
  refine (Tp_scan hB.2.1 hB.1 hB.2.2 hg hK hQ).b (fun S1 g1 => ?_)
  obtain ⟨o1, t1⟩ := g1
  rw [letS_e]
  have T1 : TC (kdX B) (plX B) (vlX B) Q (pI S1 1 0 0) := TC_of t1
  have sk0 := Sh_seek E.1 T1
  have ec : (fun _ : Nat => 0) = c00 := rfl
  rw [ec] at sk0
  refine sk0.b (fun y2 g2 => ?_)
  obtain ⟨a2, o3, p2⟩ := g2
  have a2 : y2.1 = nI (skX B).1 := a2
  have p2 : y2.2.1 2 0 = if (skX B).1 = 0 then -1 else nI (plX B (skX B).2) := p2
  rw [letS_e, letS_e, a2, p2]
  -- what is as it was
  have J : ∀ o, o ≠ 0 → o ≠ 1 → o ≠ 2 → ∀ x, (pI y2.2 0 13 x).1 o = S.1 o := fun o x0 x1 x2 x => by rw [pI_o x0, o3.1 o x2, pI_o x1, o1.1]
  have J0 : ∀ k, k ≠ 13 → ∀ x, (pI y2.2 0 13 x).1 0 k = S.1 0 k := fun k hk x => by rw [pI_1, if_neg (by omega), o3.1 0 (by decide), pI_o (by decide), o1.1]
  have J1 : ∀ x, (pI y2.2 0 13 x).1 1 0 = 0 := fun x => by rw [pI_o (by decide), o3.1 1 (by decide)]; rfl
  have A : ∀ o f, o ≠ 1 → o ≠ 2 → ∀ x, (pI y2.2 0 13 x).2.1 o f = S.2.1 o f := fun o f x1 x2 x => by rw [pI_2, o3.2.1 o f x2, pI_2, o1.2.1 o f (by omega)]
  have L2 : ∀ x, (pI y2.2 0 13 x).2.2 1 2 = S.2.2 1 2 := fun x => by rw [pI_2, o3.2.2, pI_2, o1.2.2 1 2 (by omega)]
  by_cases z : (skX B).1 = 0
  · have an : anX B T0 = (rdX B T0).2.1.1 := if_pos z
    have pa : paX B T0 = if (rdX B T0).2.1.1 = 0 then -1 else nI (plX B (rdX B T0).2.1.2) := if_pos z
    rw [if_pos z, if_pos (show nI (skX B).1 = 0 by rw [z]; rfl), J0 12 (by decide), h.1.1.2.2.2.2, gTx_t (show 50 - tx = 20 ∨ 50 - tx = 30 by omega), cl (show 50 - tx < 4096 by omega)]
    have T2 : TC (kdX B) (plX B) (vlX B) Q (pI y2.2 0 13 (-1)) := fun i hi => by
      have := T1 i hi
      rw [pI_2, o3.2.1 1 3 (by decide), o3.2.1 1 4 (by decide), o3.2.2]; exact this
    have ms := Mn_seek (tx := 50 - tx) E (show 20 ≤ 50 - tx by omega) T2 h0 z
    refine ms.b (fun y3 g3 => ?_)
    obtain ⟨a3, o4, p3, k3⟩ := g3
    have a3 : y3.1 = nI (rdX B T0).2.1.1 := a3
    have p3 : y3.2.1 3 0 = (if (rdX B T0).2.1.1 = 0 then -1 else nI (plX B (rdX B T0).2.1.2)) := p3
    have k3 : (rdX B T0).2.1.1 = 0 → CJ (50 - tx) (rdX B T0).1 (rdX B T0).2.2.1 (rdX B T0).2.2.2.1 (rdX B T0).2.2.2.2 y3.2 ∧ ∀ s, s < (rdX B T0).1 2 → y3.2.2.1 (50 - tx) 14 s = msV (50 - tx) (rdX B T0).1 y3.2 s := k3
    rw [letS_e, letS_e, a3, p3, ← pa, ← an]
    have k3 : anX B T0 = 0 → CJ (50 - tx) (rdX B T0).1 (rdX B T0).2.2.1 (rdX B T0).2.2.2.1 (rdX B T0).2.2.2.2 y3.2 ∧ ∀ s, s < (rdX B T0).1 2 → y3.2.2.1 (50 - tx) 14 s = msV (50 - tx) (rdX B T0).1 y3.2 s := fun x => k3 (by rw [← an]; exact x)
    have JJ : ∀ o, o ≠ 0 → o ≠ 1 → o ≠ 2 → o ≠ 3 → ¬ (50 - tx ≤ o ∧ o ≤ 50 - tx + 3) → ∀ x, (pI y3.2 0 13 x).1 o = S.1 o := fun o x0 x1 x2 x3 x4 x => by rw [pI_o x0, o4.1 o x3 x4, J o x0 x1 x2]
    have JJ0 : ∀ k, k ≠ 13 → ∀ x, (pI y3.2 0 13 x).1 0 k = S.1 0 k := fun k hk x => by rw [pI_1, if_neg (by omega), o4.1 0 (by decide) (by omega), J0 k hk]
    have JJ1 : ∀ x, (pI y3.2 0 13 x).1 1 0 = 0 := fun x => by rw [pI_o (by decide), o4.1 1 (by decide) (by omega), J1]
    have AA : ∀ o f, o ≠ 1 → o ≠ 2 → ¬ (50 - tx ≤ o ∧ o ≤ 50 - tx + 3) → ∀ x, (pI y3.2 0 13 x).2.1 o f = S.2.1 o f := fun o f x1 x2 x4 x => by rw [pI_2, o4.2.1 o f x4, A o f x1 x2]
    have LL : ∀ x, (pI y3.2 0 13 x).2.2 1 2 = S.2.2 1 2 := fun x => by rw [pI_2, o4.2.2 1 2 (by decide), L2]
    unfold f_Co_read_b61
    by_cases q : anX B T0 = 0
    · rw [if_pos (show nI (anX B T0) = 0 by rw [q]; rfl)]
      obtain ⟨cj, cm⟩ := k3 q
      obtain ⟨hN', hL', hP', hG', hW'⟩ := id cj
      generalize (rdX B T0).1 = c at cj cm hN' hL' hP' hG' ⊢
      generalize (rdX B T0).2.2.1 = l at cj hN'
      generalize (rdX B T0).2.2.2.1 = T' at cj cm hP' hG' ⊢
      generalize (rdX B T0).2.2.2.2 = G at cj hW' ⊢
      have g8 : L8 (FG G) := FG_8 (fun k hk r e => by
        have := hW' k hk
        rw [e] at this; exact this.2.2.2.2)
      have tg := TG_of hG' hL' g8
      obtain ⟨ri, wi, ti⟩ := rB_I hG' hL'
      have gr := GR.cut tg ri wi ti
      have x2 : CX2 T' (FG G) (50 - tx) y3.2 := ⟨by omega, CT_of cj cm, LC_of (by omega) hW'⟩
      have e4' : (pI y3.2 0 13 (paX B T0)).1 (50 - tx) 4 = orF (fun s => if T' 6 s = 0 then 0 else bitM s) (nS T') := by
        rw [pI_o (by omega), (cT hG' hL').2.2.1]; exact hP'.2.2.1
      refine (Co_beginAnew (U := U) (H := H) (N := N) (B := B) (ty := 50 - tx) (show 50 - tx = 20 ∨ 50 - tx = 30 by omega) tg ri gr (x2.p (by decide) _) e4' ?_ ?_ (JJ1 _) (by rw [LL]; exact hK)).b (fun S6 g6 => ?_)
      · rw [JJ0 11 (by decide), h.1.1.2.2.2.1]; congr 1; omega
      · rw [JJ0 12 (by decide)]; exact h.1.1.2.2.2.2
      · exact Ok.i ⟨rfl, fun y => absurd q y, fun _ => ⟨hG', hL', g8, g6⟩⟩
    · rw [if_neg (nI_ne0 (by omega) (by omega))]
      refine Ok.i ⟨rfl, fun _ => ?_, fun y => absurd y q⟩
      exact h.kp (fun o ho => JJ o (by omega) (by omega) (by omega) (by omega) (by omega) _) (fun k hk => JJ0 k hk _) (fun o f ho => AA o f (by omega) (by omega) (by omega) _) (LL _) (JJ1 _)
  · have an : anX B T0 = (skX B).1 := if_neg z
    have pa : paX B T0 = nI (plX B (skX B).2) := if_neg z
    rw [if_neg z, ← pa, ← an]
    rw [← an] at z
    rw [if_neg (nI_ne0 (by omega) (by omega))]
    unfold f_Co_read_b61
    rw [if_neg (nI_ne0 (by omega) (by omega))]
    refine Ok.i ⟨rfl, fun _ => ?_, fun y => absurd y z⟩
    exact h.kp (fun o ho => J o (by omega) (by omega) (by omega) _) (fun k hk => J0 k hk _) (fun o f ho => A o f (by omega) (by omega) _) (L2 _) (J1 _)
