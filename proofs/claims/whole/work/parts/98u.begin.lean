/-! READ: the class begins. -/
variable {tx : Nat} {S S' : Mem} {T : TX} {F : LF}
theorem St_begin (hT : TG T F) (hI : RI T (rB T)) (hX : CX2 T F tx S) : Ok (fun S' => Fq 4 S S' ∧ CB T (iter (cutR T) (nW T) (rB T)) 4 S' ∧ CM T (iter (cutR T) (nW T) (rB T)) 4 S') (f_St_begin 4 tx S) := by
  have hN := hT.1
  have h4 := hN.1.2
  have h7 := hN.2.1.2
  have h8 := hN.2.2.1.2
  have h20 := hX.1
  obtain ⟨c1, c2, c3, c4, c5, c6, c7⟩ := hX.2.1
  unfold f_St_begin f_St_begin_b0
  simp only [letS_e, gCp4, gCp7]
  rw [JArr_fill 4 6 7 (by decide), bind_e, JArr_fill 4 8 8 (by decide), bind_e]
  have e1 : (pI S 4 0 0).1 tx 1 = nI (nM T) := by rw [pI_o (by omega), c1.2.1]; exact hN.2.1.1
  rw [e1]
  have i4 : (4 : Int32).toNatClampNeg = 4 := by decide
  have i7 : (7 : Int32).toNatClampNeg = 7 := by decide
  have i0 : (0 : Int32).toNatClampNeg = 0 := by decide
  -- the memory behind it
  obtain ⟨M, hM⟩ : ∃ M, M = pA (pA (sCp (sCp (sCp (pI (pI (pI (pI S 4 0 0) 4 1 (((1 : Int32) <<< (nI (nM T) &&& 31)) - 1)) 4 2 0) 4 3 0) tx 9 4 4 0 0 4) tx 10 4 5 0 0 7) tx 12 4 7 0 0 7) 4 6 (cpF 0 7 (fun _ => 0) ((sCp (sCp (sCp (pI (pI (pI (pI S 4 0 0) 4 1 (((1 : Int32) <<< (nI (nM T) &&& 31)) - 1)) 4 2 0) 4 3 0) tx 9 4 4 0 0 4) tx 10 4 5 0 0 7) tx 12 4 7 0 0 7).2.1 4 6))) 4 8 (cpF 0 8 (fun _ => -2) ((pA (sCp (sCp (sCp (pI (pI (pI (pI S 4 0 0) 4 1 (((1 : Int32) <<< (nI (nM T) &&& 31)) - 1)) 4 2 0) 4 3 0) tx 9 4 4 0 0 4) tx 10 4 5 0 0 7) tx 12 4 7 0 0 7) 4 6 (cpF 0 7 (fun _ => 0) ((sCp (sCp (sCp (pI (pI (pI (pI S 4 0 0) 4 1 (((1 : Int32) <<< (nI (nM T) &&& 31)) - 1)) 4 2 0) 4 3 0) tx 9 4 4 0 0 4) tx 10 4 5 0 0 7) tx 12 4 7 0 0 7).2.1 4 6))).2.1 4 8)) := ⟨_, rfl⟩
  rw [← hM]
  have J : ∀ o, o ≠ 4 → M.1 o = S.1 o := fun o ho => by rw [hM, pA_1, pA_1, sCp_1, sCp_1, sCp_1, pI_o ho, pI_o ho, pI_o ho, pI_o ho]
  have J4 : M.1 4 0 = 0 ∧ M.1 4 1 = bitM (nM T) - 1 ∧ M.1 4 2 = 0 ∧ M.1 4 3 = 0 := by
    rw [hM, pA_1, pA_1, sCp_1, sCp_1, sCp_1]
    exact ⟨rfl, rfl, rfl, rfl⟩
  have A : ∀ o f, o ≠ 4 → M.2.1 o f = S.2.1 o f := fun o f ho => by
    rw [hM, pA_2, if_neg (fun z => ho z.1), pA_2, if_neg (fun z => ho z.1), sCp_2, if_neg (fun z => ho z.1), sCp_2, if_neg (fun z => ho z.1), sCp_2, if_neg (fun z => ho z.1)]; rfl
  have L : M.2.2 = S.2.2 := by rw [hM]; rfl
  have n4 : ∀ f, ¬ (tx = 4 ∧ f = f) := fun f z => by omega
  have A4 : ∀ w, w < 4 → M.2.1 4 4 w = S.2.1 tx 9 w := fun w hw => by
    rw [hM, pA_2, if_neg (by omega), pA_2, if_neg (by omega), sCp_2, if_neg (by omega), sCp_2, if_neg (by omega), sCp_2, if_pos ⟨rfl, rfl⟩, i0, i4, pk_cpy_in (by omega) (by omega), Nat.zero_add, Nat.sub_zero]; rfl
  have A5 : ∀ w, w < 7 → M.2.1 4 5 w = S.2.1 tx 10 w := fun w hw => by
    rw [hM, pA_2, if_neg (by omega), pA_2, if_neg (by omega), sCp_2, if_neg (by omega), sCp_2, if_pos ⟨rfl, rfl⟩, i0, i7, pk_cpy_in (by omega) (by omega), Nat.zero_add, Nat.sub_zero, sCp_2, if_neg (by omega)]; rfl
  have A7 : ∀ w, w < 7 → M.2.1 4 7 w = S.2.1 tx 12 w := fun w hw => by
    rw [hM, pA_2, if_neg (by omega), pA_2, if_neg (by omega), sCp_2, if_pos ⟨rfl, rfl⟩, i0, i7, pk_cpy_in (by omega) (by omega), Nat.zero_add, Nat.sub_zero, sCp_2, if_neg (by omega), sCp_2, if_neg (by omega)]; rfl
  have A6 : ∀ w, w < 7 → M.2.1 4 6 w = 0 := fun w hw => by
    rw [hM, pA_2, if_neg (by omega), pA_2, if_pos ⟨rfl, rfl⟩]; unfold cpF; rw [if_pos (by omega)]
  have A8 : ∀ w, w < 8 → M.2.1 4 8 w = -2 := fun w hw => by
    rw [hM, pA_2, if_pos ⟨rfl, rfl⟩]; unfold cpF; rw [if_pos (by omega)]
  clear hM
  have fq : Fq 4 S M := ⟨J, fun o f a _ _ => A o f a, L⟩
  have hX2 := hX.fq fq (by decide)
  have hB : CB T (rB T) 4 M := by
    refine ⟨⟨by rw [rB_z (by omega)]; exact J4.1, J4.2.1, by rw [rB_z (by omega)]; exact J4.2.2.1, by rw [rB_z (by omega)]; exact J4.2.2.2⟩, fun w hw => ?_, fun a ha => ⟨?_, ?_, ?_⟩, fun s hs => ?_⟩
    · rw [A4 w (by omega), rB_w hw h4]; exact (c4 w hw).2
    · rw [A5 a (by omega), rB_h ha h7]; exact (c5 a ha).1
    · rw [A6 a (by omega), rB_t (by omega)]
    · rw [A7 a (by omega), rB_k ha h7]; exact (c5 a ha).2.2
    · rw [A8 s (by omega), rB_s (by omega)]
  refine (CG.meas hT hI hX2 (by decide) hB).b (fun q hq => ?_)
  refine (St_settle hN (show tx ≠ 4 by omega) h20 (by decide) hq.2.2.1 hq.2.2.2.2.1 hq.2.2.2.2.2).b (fun q2 hq2 => ?_)
  exact Ok.i ⟨(fq.tr hq.1.fq).tr hq2.1, hq2.2.1, hq2.2.2.1⟩
