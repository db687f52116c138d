theorem lk_Law_9 : Cond.methodLink "SecretWellsLaw" 9 y_Co_init ∈ gTbl := gt_1 25 (by decide +kernel) (by decide +kernel)
theorem lk_Law_12 : Cond.methodLink "SecretWellsLaw" 12 y_Mo_init ∈ gTbl := gt_6 84 (by decide +kernel) (by decide +kernel)
theorem cl_Law_7 : Cond.classLink "SecretWellsLaw" 7 "SecretWells" ∈ gTbl := gt_1 23 (by decide +kernel) (by decide +kernel)
theorem cl_Law_10 : Cond.classLink "SecretWellsLaw" 10 "SecretWellsModel" ∈ gTbl := gt_6 82 (by decide +kernel) (by decide +kernel)
theorem tm_mem {P : Nat → Cond} (h : ∀ i, i < 7 → P i ∈ flatC (Jvm.Cond.and given_1 narrow_1)) {args : Array Value} {s : State} (hgv : (Jvm.Cond.and given_1 narrow_1).before args s = true) : ∀ i, i < 7 → (P i).before args s = true := fun i hi => flat_of_before _ hgv _ (h i hi)
def tmJ (i : Nat) : Term := .string (jsK.getD i ("", 0, "")).1 (jsK.getD i ("", 0, "")).2.1
theorem tm_ex : ∀ i, i < 7 → (Cond.exactly (tmJ i) "java/lang/String") ∈ flatC (Jvm.Cond.and given_1 narrow_1) := by decide +kernel
theorem tm_co : ∀ i, i < 7 → (Cond.eq (.field (tmJ i) "java/lang/String" "coder" "B") (.int 0)) ∈ flatC (Jvm.Cond.and given_1 narrow_1) := by decide +kernel
theorem tm_ar : ∀ i, i < 7 → (Cond.arrayOf (.field (tmJ i) "java/lang/String" "value" "[B") .byte) ∈ flatC (Jvm.Cond.and given_1 narrow_1) := by decide +kernel
theorem tm_le : ∀ i, i < 7 → (Cond.eq (.length (.field (tmJ i) "java/lang/String" "value" "[B")) (.int (Int32.ofNat (jsLen.getD i 0)))) ∈ flatC (Jvm.Cond.and given_1 narrow_1) := by decide +kernel
theorem tm_el : ∀ i, i < 7 → ∀ j, j < jsLen.getD i 0 → (Cond.eq (.elem (.field (tmJ i) "java/lang/String" "value" "[B") (.int (Int32.ofNat j))) (.int ((jsByt.getD i []).getD j 0))) ∈ flatC (Jvm.Cond.and given_1 narrow_1) := by decide +kernel
theorem tm_ne : ∀ i, i < 7 → ∀ j, j < 7 → i ≠ j → (Cond.not (Cond.eq (tmJ i) (tmJ j))) ∈ flatC (Jvm.Cond.and given_1 narrow_1) ∨ (Cond.not (Cond.eq (tmJ j) (tmJ i))) ∈ flatC (Jvm.Cond.and given_1 narrow_1) := by decide +kernel
theorem tm_cs : (Cond.eq (.static "java/lang/String" "COMPACT_STRINGS" "Z") (.int 1)) ∈ flatC (Jvm.Cond.and given_1 narrow_1) := by decide +kernel
theorem tm_si : (Cond.isRef (.static "jdk/internal/util/Preconditions" "SIOOBE_FORMATTER" "Ljava/util/function/BiFunction;")) ∈ flatC (Jvm.Cond.and given_1 narrow_1) := by decide +kernel
theorem tm_sr : ∀ i, i < 7 → (Cond.stringRef (jsK.getD i ("", 0, "")).1 (jsK.getD i ("", 0, "")).2.1 (jsK.getD i ("", 0, "")).2.2) ∈ tables_1 := by decide +kernel
theorem tm_ls : Cond.laysStatic "java/lang/String" "COMPACT_STRINGS" "Z" ∈ tables_1 ∧ Cond.laysStatic "jdk/internal/util/Preconditions" "SIOOBE_FORMATTER" "Ljava/util/function/BiFunction;" ∈ tables_1 ∧ Cond.initialized "java/lang/String" ∈ tables_1 ∧ Cond.initialized "jdk/internal/util/Preconditions" ∈ tables_1 := by decide +kernel
theorem tm_nw : ∀ q ∈ nestL, Cond.methodLinkNest q.1 q.2.1 q.2.2 "SecretWells" ∈ tables_1 := by decide +kernel
theorem in_tbl {w : Cond} (h : w ∈ tables_1) : w ∈ lw_tbl := List.mem_append_right _ h
theorem e_gl {X : CX} {D : va_G} {cy : Nat → ClassId} {K : KS} {cc : ByteArray} {fr lo rc rs : Nat} {nc ns pc : Nat} {lv : List (Option Value)} {st : List Value} {VC VM : WV} {SC SM : Mem} {b L : Nat} {xs : Nat → Int32} (hC : Ek X D cy K cc 4 "SecretWellsLaw" fr lo rc rs) (hC1 : VC.1 = D) (hM1 : VM.1 = D) (hC2 : VC.2.1 = (cy, K)) (hM2 : VM.2.1 = (cy, K)) (hlaw : match X with | (_, _, _, R, s, _, args, _, meth, c, A, _, _) => c.code = code ∧ meth.sig.returnType = ret ∧ va_X b L xs s s.heap ∧ b < s.heap.size ∧ R = room_1 ∧ args = #[Value.ref b] ∧ A = (fun q : Nat => s.heap.size ≤ q)) (h1 : nc ≤ 600000 ∧ ns ≤ 7302250)
    (k : CkL (XC X nc ns) VC VM b L xs → GL (XC X nc ns) VC VM pc lv st SC SM) : E X D 4 (QLw X) nc ns pc lv st (WD VC SC ++ WD VM SM) := by
  obtain ⟨p, l, e, R, s, m, args, below, meth, c, A, xc, xs2⟩ := X
  obtain ⟨hx, hb, hml, hown, hts, hlk, hr, hnm, hK, hfr, hlo, hrc, hrs, hA, hSK, hNW⟩ := hC
  obtain ⟨hcode, hret, hX, hbl, hR, hargs, hAe⟩ := hlaw
  intro H locs ls hP hD hS hl
  have hPC : va_P VC.1 vwCl (WD VC SC) H := by
    rw [hC1]
    exact hP.by (fun k => k) (fun k q hk => by rw [List.getElem?_append]; rw [if_pos (List.getElem?_eq_some_iff.mp hk).1]; exact hk)
  have hPM : va_P VM.1 vwCl (WD VM SM) H := by
    rw [hM1]
    exact hP.by (fun k => (WD VC SC).length + k) (fun k q hk => by rw [List.getElem?_append]; simp [hk])
  have eV : ∀ (V : WV) (S : Mem), (WD V S).map (fun x => x.1) = V.2.2.2.1.map (fun x => V.2.2.1 x.1 0) ++ V.2.2.2.2.map (fun x => V.2.2.1 x.1 (x.2.1 + 1)) := fun V S => by simp [WD, eO, eA, Function.comp_def]
  have inV : ∀ (V : WV) (S : Mem) (q : Nat), AV V q → ∃ (k : Nat) (x : Nat × va_E), (WD V S)[k]? = some x ∧ x.1 = q := by
    intro V S q hq
    have hq : q ∈ (WD V S).map (fun x => x.1) := by rw [eV]; exact hq
    obtain ⟨x, hx1, hx2⟩ := List.mem_map.mp hq
    obtain ⟨j, hj⟩ := List.getElem?_of_mem hx1
    exact ⟨j, x, hj, hx2⟩
  have avV : ∀ (V : WV) (S : Mem) (k : Nat) (x : Nat × va_E), (WD V S)[k]? = some x → AV V x.1 := by
    intro V S k x hk
    show x.1 ∈ _
    rw [← eV V S]
    exact List.mem_map.mpr ⟨x, List.mem_of_getElem? hk, rfl⟩
  have hDC : va_D (AV VC) (WD VC SC) := ⟨fun i j x y hi hj e => hD.1 i j x y (by rw [List.getElem?_append, if_pos (List.getElem?_eq_some_iff.mp hi).1]; exact hi) (by rw [List.getElem?_append, if_pos (List.getElem?_eq_some_iff.mp hj).1]; exact hj) e, avV VC SC⟩
  have hDM : va_D (AV VM) (WD VM SM) := ⟨fun i j x y hi hj e => by
    have := hD.1 ((WD VC SC).length + i) ((WD VC SC).length + j) x y (by rw [List.getElem?_append]; simp [hi]) (by rw [List.getElem?_append]; simp [hj]) e
    omega, avV VM SM⟩
  have hdj : ∀ q, AV VC q → ¬ AV VM q := by
    intro q h1 h2
    obtain ⟨i, x, hi, hxi⟩ := inV VC SC q h1
    obtain ⟨j, y, hj, hyj⟩ := inV VM SM q h2
    have hil := (List.getElem?_eq_some_iff.mp hi).1
    have := hD.1 i ((WD VC SC).length + j) x y (by rw [List.getElem?_append, if_pos hil]; exact hi) (by rw [List.getElem?_append]; simp [hj]) (by rw [hxi, hyj])
    omega
  have hAC : ∀ q, AV VC q → A q := fun q h => by
    obtain ⟨i, x, hi, hxi⟩ := inV VC SC q h
    rw [← hxi]
    exact hD.2 i x (by rw [List.getElem?_append, if_pos (List.getElem?_eq_some_iff.mp hi).1]; exact hi)
  have hAM : ∀ q, AV VM q → A q := fun q h => by
    obtain ⟨i, x, hi, hxi⟩ := inV VM SM q h
    rw [← hxi]
    exact hD.2 ((WD VC SC).length + i) x (by rw [List.getElem?_append]; simp [hi])
  have hty : tyV VC = tyC cy := by simp [tyV, tyC, hC2]
  have hSK2 : SK VC A s := by
    have hSK : SK (V0 D cy K) A s := hSK
    unfold SK at hSK ⊢
    rw [hC2]
    exact hSK
  exact k ⟨hx, hcode, hml, hown, hts, hlk, hret, by rw [hty, hC1]; exact hK, hM1.trans hC1.symm, hM2.trans hC2.symm, WD_D hDC, WD_D hDM, hdj, hAC, hAM, hX, hbl, hSK2, hR, hargs, hAe, h1.1, h1.2⟩ H locs ls hPC hPM hS hl
theorem rg_map {w : va_W} {x : Nat × va_E} {n : Nat} (h : w.length = n) : (List.range n).map (fun i => (w ++ [x])[i]?) = w.map some := by
  subst h
  apply List.ext_getElem?
  intro i
  by_cases hi : i < w.length
  · simp [hi, List.getElem?_append]
  · simp [hi]
set_option maxHeartbeats 4000000 in
set_option maxRecDepth 100000 in
theorem start_of (hpure : ∀ (L : Nat) (xs : Nat → Int32), L ≤ 3072 → ∃ zt zC zM : Mem, f_Tp_initT_b53 memZ = some zt ∧ f_Co_initT_b178 (memC zt) = some zC ∧ f_Mo_initT_b400 memM = some zM ∧ f_Law_law_l18 L xs 600 0 zC zM = some 1) {p : Program} {e : Env} {s : State} {m : MethodId} {below : List Frame} {meth : Method} {c : Code} (l : Launch) (hflags : l.flags = flags0) {b L : Nat} {xs : Nat → Int32} (hL : L ≤ 3072) (C0 : lw_At p s m meth c b L xs) : W p l e room_1 s m #[Value.ref b] below meth c s.heap [] 0 0 (lw_Z below #[Value.ref b] s) (entryFrame m ([Value.ref b] : List Value).toArray 4) := by
  obtain ⟨hx, hb, hr, hml, hown, hts0, hX, hbl, hlocks, hgv⟩ := id C0
  obtain ⟨zt, zC, zM, hzt, hzC, hzM, hlaw⟩ := hpure L xs hL
  have hts : ∀ w ∈ gTbl, w.before #[Value.ref b] s = true := fun w h => hts0 w (List.mem_filter.mp h).1
  have hA0 : ∀ q : Nat, q < s.heap.size → ¬ (fun q : Nat => s.heap.size ≤ q) q := fun q h => Nat.not_le.mpr h
  obtain ⟨c0, iS0, k0⟩ := u_known (C := RX0) (T := TX0) (N := 2) (n := 2) hts inX0 (hts _ in_Dy)
  obtain ⟨c1, iS1, k1⟩ := u_known (C := RX1) (T := TX1) (N := 5) (n := 5) hts inX1 (hts _ in_Lw)
  obtain ⟨c2, iS2, k2⟩ := u_known (C := RX2) (T := TX2) (N := 7) (n := 7) hts inX2 (hts _ in_Mn)
  obtain ⟨c3, iS3, k3⟩ := u_known (C := RX3) (T := TX3) (N := 5) (n := 5) hts inX3 (hts _ in_Nt)
  obtain ⟨c4, iS4, k4⟩ := u_known (C := RX4) (T := TX4) (N := 2) (n := 2) hts inX4 (hts _ in_Pe)
  obtain ⟨c5, iS5, k5⟩ := u_known (C := RX5) (T := TX5) (N := 10) (n := 10) hts inX5 (hts _ in_Rn)
  obtain ⟨c6, iS6, k6⟩ := u_known (C := RX6) (T := TX6) (N := 1) (n := 1) hts inX6 (hts _ in_Rw)
  obtain ⟨c7, iS7, k7⟩ := u_known (C := RX7) (T := TX7) (N := 5) (n := 5) hts inX7 (hts _ in_Sh)
  obtain ⟨c8, iS8, k8⟩ := u_known (C := RX8) (T := TX8) (N := 13) (n := 13) hts inX8 (hts _ in_St)
  obtain ⟨c9, iS9, k9⟩ := u_known (C := RX9) (T := TX9) (N := 6) (n := 6) hts inX9 (hts _ in_Tp)
  obtain ⟨c10, iS10, k10⟩ := u_known (C := RX10) (T := TX10) (N := 20) (n := 20) hts inX10 (hts _ in_Tx)
  obtain ⟨c11, iS11, k11⟩ := u_known (C := RX11) (T := TX11) (N := 17) (n := 17) hts inX11 (hts _ in_Co)
  obtain ⟨c12, iS12, k12⟩ := u_known (C := RX12) (T := TX12) (N := 74) (n := 74) hts inX12 (hts _ in_Mo)
  obtain ⟨dC, dI, hKc⟩ : ∃ (dC : Nat → ClassId) (dI : Nat → Nat → Nat), ∀ (k : Nat) (q : vw_C), vwCl[k]? = some q → u_Kn s q.1 q.2.1 q.2.2 (dC k) (dI k) := by
    refine ⟨fun k => [c0, c1, c2, c3, c4, c5, c6, c7, c8, c9, c10, c11, c12].getD k c0, fun k => [iS0, iS1, iS2, iS3, iS4, iS5, iS6, iS7, iS8, iS9, iS10, iS11, iS12].getD k iS0, ?_⟩
    intro k q hq
    match k, hq with
    | 0, hq => cases hq; exact k0
    | 1, hq => cases hq; exact k1
    | 2, hq => cases hq; exact k2
    | 3, hq => cases hq; exact k3
    | 4, hq => cases hq; exact k4
    | 5, hq => cases hq; exact k5
    | 6, hq => cases hq; exact k6
    | 7, hq => cases hq; exact k7
    | 8, hq => cases hq; exact k8
    | 9, hq => cases hq; exact k9
    | 10, hq => cases hq; exact k10
    | 11, hq => cases hq; exact k11
    | 12, hq => cases hq; exact k12
    | k + 13, hq => simp [vwCl] at hq
  obtain ⟨cI, kI, mI, aI, bI, dI2⟩ := Cond.arrayClass_spec (args := #[Value.ref b]) (first := s) (o := none) (s := s) (idx := []) (hts _ gw_arr_int)
  obtain ⟨cB, kB, mB, aB, bB, dB⟩ := Cond.arrayClass_spec (args := #[Value.ref b]) (first := s) (o := none) (s := s) (idx := []) (hts _ gw_arr_byte)
  obtain ⟨cJ, kJ, mJ, aJ, bJ, dJ⟩ := Cond.arrayClass_spec (args := #[Value.ref b]) (first := s) (o := none) (s := s) (idx := []) (hts _ gw_arr_long)
  obtain ⟨cZ, kZ, mZ, aZ, bZ, dZ⟩ := Cond.arrayClass_spec (args := #[Value.ref b]) (first := s) (o := none) (s := s) (idx := []) (hts _ gw_arr_boolean)
  obtain ⟨cy, hcy⟩ : ∃ cy : Nat → ClassId, va_K (dC, dI) vwCl (tyC cy) s := by
    refine ⟨fun t => if t = 0 then cI else if t = 1 then cB else if t = 2 then cJ else cZ, hKc, ?_⟩
    intro k q hq
    match k, hq with
    | 0, hq => cases hq; exact ⟨fun N z => ⟨(fun k h => by cases h), kI, bI, mI, dI2⟩, aI⟩
    | 1, hq => cases hq; exact ⟨fun N z => ⟨(fun k h => by cases h), kB, bB, mB, dB⟩, aB⟩
    | 2, hq => cases hq; exact ⟨fun N z => ⟨(fun k h => by cases h), kJ, bJ, mJ, dJ⟩, aJ⟩
    | 3, hq => cases hq; exact ⟨fun N z => ⟨(fun k h => by cases h), kZ, bZ, mZ, dZ⟩, aZ⟩
    | k + 4, hq => simp [tyC] at hq
  obtain ⟨adK, adV, hSt, hev⟩ := vk_Sof (N := 7) (tm := tmJ) (len := jsLen) (byt := jsByt) (A := fun q : Nat => s.heap.size ≤ q) (args := #[Value.ref b]) (s := s) (by decide) (tm_mem tm_ex hgv) (tm_mem tm_co hgv) (tm_mem tm_ar hgv) (tm_mem tm_le hgv) (fun i hi j hj => flat_of_before _ hgv _ (tm_el i hi j hj)) (fun i j hi hj hne => (tm_ne i hi j hj hne).imp (flat_of_before _ hgv _) (flat_of_before _ hgv _)) hA0
  have hcs : (Term.static "java/lang/String" "COMPACT_STRINGS" "Z").eval #[Value.ref b] s none [] s = some (.int 1) := by
    have h := flat_of_before _ hgv _ tm_cs
    simp only [Cond.before, Cond.holds, Cond.value] at h
    generalize (Term.static "java/lang/String" "COMPACT_STRINGS" "Z").eval #[Value.ref b] s none [] s = o at h ⊢
    cases o with
    | none => simp at h
    | some v => cases v <;> simp [Term.eval] at h ⊢ <;> exact h
  have hSK : SK (V0 (dC, dI) cy (7, adK, adV)) (fun q : Nat => s.heap.size ≤ q) s := ⟨hSt, fun i hi => vk_R.of (hts0 _ (in_tbl (tm_sr i hi))) (hev i hi), fun _ => ⟨va_Zof (hts0 _ (in_tbl tm_ls.1)) (hts0 _ (in_tbl tm_ls.2.2.1)) hcs hA0, va_Zqof (hts0 _ (in_tbl tm_ls.2.1)) (hts0 _ (in_tbl tm_ls.2.2.2)) (flat_of_before _ hgv _ tm_si) hA0⟩⟩
  have hNW : NW s := fun q hq => va_Nw.of rfl (hts0 _ (in_tbl (tm_nw q hq)))
  have hE : Ek (p, l, e, room_1, s, m, #[Value.ref b], below, meth, c, (fun q : Nat => s.heap.size ≤ q), 0, 0) (dC, dI) cy (7, adK, adV) code 4 "SecretWellsLaw" 15 594 600000 7302250 := ⟨hx, hb, hml, hown, hts, hlocks, Or.inl rfl, Or.inl rfl, hcy, Nat.le_refl _, Nat.le_refl _, Nat.le_refl _, Nat.le_refl _, fun _ h => h, hSK, hNW⟩
  have hl := lv_entry ([.ref b]) (n := 4) (Nat.le_of_ble_eq_true rfl)
  rw [lg_entry_eq]
  suffices hgoal : E (p, l, e, room_1, s, m, #[Value.ref b], below, meth, c, (fun q : Nat => s.heap.size ≤ q), 0, 0) (dC, dI) 4 (QLw (p, l, e, room_1, s, m, #[Value.ref b], below, meth, c, (fun q : Nat => s.heap.size ≤ q), 0, 0)) 0 0 0 [some (.ref b), none, none, none] [] [] by
    refine hgoal s.heap [] _ (fun k q h => by simp at h) ⟨fun i j p q h => by simp at h, fun k q h => by simp at h⟩ va_S.rf ⟨hl.1, hl.2.1, fun i v hi => ?_⟩
    match i, hi with
    | 0, hi => cases hi; exact hl.2.2 (0, .ref b) (by simp [lv_args])
    | 1, hi => simp at hi
    | 2, hi => simp at hi
    | 3, hi => simp at hi
    | i + 4, hi => simp at hi
  refine e_new (pc := 0) (nc := 0) (ns := 0) hE (ci := 11) tyX11 [.null, .null, .null, .null, .null, .null, .null, .null, .null, .null, .null, .null, .null, .int 0, .int 0, .int 0, .int 0] rfl inX11 tyX11_ok cl_Law_7 in_Co ini_Co df_Co ⟨Nat.le_of_ble_eq_true rfl, Nat.le_of_ble_eq_true rfl⟩ d_Law_law_0 (fun o0 => ?_)
  refine e_ws (nc := 1) (ns := 17) (ws2 := [(o0, .inr (11, [.null, .null, .null, .null, .null, .null, .null, .null, .null, .null, .null, .null, .null, .int 0, .int 0, .int 0, .int 0]))]) rfl ?_
  refine e_dup (pc := 3) (nc := 1) (ns := 17) hE rfl d_Law_law_3 ?_
  refine e_call (pc := 4) (nc := 1) (ns := 17) hE (a := o0) (As := []) (st := [.ref o0]) [0] [] [(o0, .inr (11, [.null, .null, .null, .null, .null, .null, .null, .null, .null, .null, .null, .null, .null, .int 0, .int 0, .int 0, .int 0]))] [] im_Co_init ini_Co cm_Co_init (by decide +kernel) rfl lk_Law_9 (Nat.le_of_ble_eq_true rfl) ⟨Nat.le_of_ble_eq_true rfl, Nat.le_of_ble_eq_true rfl⟩ rfl rfl rfl rfl (by decide) ⟨Nat.le_of_ble_eq_true rfl, Nat.le_of_ble_eq_true rfl⟩ rfl d_Law_law_4 (k_Co rfl hzt hzC) (fun w1 hw1 => ?_)
  obtain ⟨adC, hadC, rfl⟩ := hw1
  refine e_ws (nc := 89) (ns := 8121) (ws2 := WD ((dC, dI), (cy, (7, adK, adV)), adC, obsC, arsC) zC) rfl ?_
  refine es_astore_n (pc := 7) (nc := 89) (ns := 8121) hE (i := 1) rfl (by decide) d_Law_law_7 (lv2 := [some (.ref b), some (.ref o0), none, none]) rfl ?_
  refine e_new (pc := 8) (nc := 89) (ns := 8121) hE (ci := 12) tyX12 [.int 0, .null, .int 0, .null, .int 0, .null, .null, .null, .null, .null, .int 0, .int 0, .int 0, .int 0, .int 0, .int 0, .int 0, .int 0, .int 0, .int 0, .int 0, .null, .null, .null, .null, .null, .null, .null, .null, .null, .null, .null, .null, .null, .null, .null, .null, .null, .null, .null, .null, .null, .int 0, .null, .null, .null, .null, .null, .int 0, .null, .null, .null, .int 0, .null, .null, .int 0, .null, .null, .int 0, .null, .int 0, .null, .int 0, .int 0, .int 0, .int 0, .null, .int 0, .int 0, .null, .null, .null, .null, .null] rfl inX12 tyX12_ok cl_Law_10 in_Mo ini_Mo df_Mo ⟨Nat.le_of_ble_eq_true rfl, Nat.le_of_ble_eq_true rfl⟩ d_Law_law_8 (fun o8 => ?_)
  refine e_dup (pc := 11) (nc := 90) (ns := 8195) hE rfl d_Law_law_11 ?_
  refine e_call (pc := 12) (nc := 90) (ns := 8195) hE (a := o8) (As := []) (st := [.ref o8]) [89] (List.range 89) [(o8, .inr (12, [.int 0, .null, .int 0, .null, .int 0, .null, .null, .null, .null, .null, .int 0, .int 0, .int 0, .int 0, .int 0, .int 0, .int 0, .int 0, .int 0, .int 0, .int 0, .null, .null, .null, .null, .null, .null, .null, .null, .null, .null, .null, .null, .null, .null, .null, .null, .null, .null, .null, .null, .null, .int 0, .null, .null, .null, .null, .null, .int 0, .null, .null, .null, .int 0, .null, .null, .int 0, .null, .null, .int 0, .null, .int 0, .null, .int 0, .int 0, .int 0, .int 0, .null, .int 0, .int 0, .null, .null, .null, .null, .null]))] (WD ((dC, dI), (cy, (7, adK, adV)), adC, obsC, arsC) zC) im_Mo_init ini_Mo cm_Mo_init (by decide +kernel) rfl lk_Law_12 (Nat.le_of_ble_eq_true rfl) ⟨Nat.le_of_ble_eq_true rfl, Nat.le_of_ble_eq_true rfl⟩ rfl (rg_map rfl) rfl (by decide +kernel) (by decide +kernel) ⟨Nat.le_of_ble_eq_true rfl, Nat.le_of_ble_eq_true rfl⟩ rfl d_Law_law_12 (k_Mo hzM) (fun w1 hw1 => ?_)
  obtain ⟨adM, hadM, rfl⟩ := hw1
  refine es_astore_n (pc := 15) (nc := 138) (ns := 19381) hE (i := 2) rfl (by decide) d_Law_law_15 (lv2 := [some (.ref b), some (.ref o0), some (.ref o8), none]) rfl ?_
  refine e_iconst (pc := 16) (nc := 138) (ns := 19381) hE kc_0 d_Law_law_16 ?_
  refine es_istore_n (pc := 17) (nc := 138) (ns := 19381) hE (i := 3) rfl (by decide) d_Law_law_17 (lv2 := [some (.ref b), some (.ref o0), some (.ref o8), some (.int 0)]) rfl ?_
  refine e_gl (VC := ((dC, dI), (cy, (7, adK, adV)), adC, obsC, arsC)) (VM := ((dC, dI), (cy, (7, adK, adV)), adM, obsM, arsM)) (SC := zC) (SM := zM) (nc := 138) (ns := 19381) hE rfl rfl rfl rfl ⟨hb, hr, hX, hbl, rfl, rfl, rfl⟩ ⟨Nat.le_of_ble_eq_true rfl, Nat.le_of_ble_eq_true rfl⟩ (fun hC => ?_)
  subst hadC hadM
  exact w_Law_law_l18 ⟨rfl, rfl, rfl⟩ ⟨rfl, rfl, trivial⟩ hC 600 0 zC zM hlaw
