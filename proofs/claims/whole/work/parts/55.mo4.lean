set_option maxHeartbeats 100000 in
theorem Mo_tellsOf {v : Nat} {T : TX} {F : LF} {S : Mem} {r : RW} (hN : TN T) (hT : TV v T S) (hL : ML F S) (h8 : L8 F) (hr : MR r S) (hH : RH T r) (hE : TE_ok T) {t s : Nat} (ht : t < nT T) (hs : s < 8) : Ok (fun z : Int32 × Mem => z.1 = TE T F r t s ∧ Fs S z.2) (f_Mo_tellsOf (nI t) (nI s) S) := by
  have hT12 : nT T ≤ 12 := hN.2.2.2.2
  obtain ⟨hfm, ef, -, -⟩ := hE t ht
  have hT0 := hT
  obtain ⟨hv, e18, -, -, -, -, -, h12⟩ := hT
  have e35 : S.2.1 0 35 (12 * v + t) = nI (fm T t) := ((h12 t (by omega)).1).trans ef
  unfold f_Mo_tellsOf f_Mo_tellsOf_b0
  simp only [e18, m12, g24 (show 12 * v + t < 24 by omega), cl (show 12 * v + t < 4096 by omega), e35]
  obtain ⟨m, hfm'⟩ : ∃ m, fm T t = m := ⟨_, rfl⟩
  rw [hfm'] at hfm ⊢
  refine (Mo_setsMan hN hT0 hr hH hfm).b (fun S1 h1 => ?_)
  obtain ⟨hV, e0, e1, e2, e3, e4, e5, e6, e7⟩ := h1
  obtain ⟨hv, e18, -, -, -, -, h88, -⟩ := hV.fr.tv hT0
  simp only [e18, m8, g16 (show 8 * v + s < 16 by omega), cl (show 8 * v + s < 4096 by omega), (h88 s hs).1, gv5, gv7, letS_e]
  have V2 := (hV.s 5 (T 5 s)).s 7 (nI t)
  have hv8 : V8 ((sA (sA S1 0 53 5 (T 5 s)) 0 53 7 (nI t)).2.1 0 53) (var8 (r 35) (dp T r (hm r m)) (r (hm r m)) (r (19 + m)) (bits (r (26 + m))) (T 5 s) (bits (drk T r (hm r m))) (nI t)) := by
    refine lt8 ?_ ?_ ?_ ?_ ?_ ?_ ?_ ?_ <;> simp [v53, ic_5, ic_7, var8, e0, e1, e2, e3, e4, e6]
  have hA := asks_at hL h8 V2.fr (k := 1) (by decide) hv8 0 100
  rw [show nI 1 = 1 from rfl] at hA
  refine hA.b (fun z hz => Ok.i ⟨?_, V2.fs.tr hz.2⟩)
  unfold TE
  rw [hfm']
  exact hz.1
