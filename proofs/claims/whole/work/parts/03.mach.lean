/-! THE MACHINE OVER A PURE MEMORY: a configuration (pc, locals, operand stack, memory) and what the machine does from it. -/
abbrev Mem : Type := (Nat → Nat → Int32) × (Nat → Nat → Nat → Int32) × (Nat → Nat → Nat → Int64)
def pI (S : Mem) (o k : Nat) (v : Int32) : Mem := (fun o' k' => if o' = o ∧ k' = k then v else S.1 o' k', S.2)
def pA (S : Mem) (o f : Nat) (g : Nat → Int32) : Mem := (S.1, fun o' f' => if o' = o ∧ f' = f then g else S.2.1 o' f', S.2.2)
def pL (S : Mem) (o f : Nat) (g : Nat → Int64) : Mem := (S.1, S.2.1, fun o' f' => if o' = o ∧ f' = f then g else S.2.2 o' f')
def sA (S : Mem) (o f : Nat) (i x : Int32) : Mem := pA S o f (upd (S.2.1 o f) i.toNatClampNeg x)
def sL (S : Mem) (o f : Nat) (i : Int32) (x : Int64) : Mem := pL S o f (vp_updL (S.2.2 o f) i.toNatClampNeg x)
/-- an object of the layout: its number, its class in vwCl, the kinds of its fields (0 a number, 1 its own array, 2 an object whose number the memory holds, j + 3 the object j) -/
abbrev LO : Type := Nat × Nat × List Nat
/-- an array of the layout: its object, its field, its type (0 int, 1 byte, 2 long, 3 boolean), its length -/
abbrev LA : Type := Nat × Nat × Nat × Nat
/-- the classes and slots; the array classes, how many String constants, their cells, their bytes' cells; the addresses; the layout -/
abbrev WV : Type := va_G × ((Nat → ClassId) × Nat × (Nat → Nat) × (Nat → Nat)) × (Nat → Nat → Nat) × List LO × List LA
def fv (ad : Nat → Nat → Nat) (S : Mem) (o k : Nat) : Nat → Value
  | 0 => .int (S.1 o k)
  | 1 => .ref (ad o (k + 1))
  | 2 => .ref (ad (S.1 o k).toNatClampNeg 0)
  | j + 3 => .ref (ad j 0)
def flds (ad : Nat → Nat → Nat) (S : Mem) (o : Nat) : Nat → List Nat → List Value
  | _, [] => []
  | k, x :: xs => fv ad S o k x :: flds ad S o (k + 1) xs
def eO (V : WV) (S : Mem) (q : LO) : Nat × va_E := (V.2.2.1 q.1 0, .inr (q.2.1, flds V.2.2.1 S q.1 0 q.2.2))
def eA (V : WV) (S : Mem) (q : LA) : Nat × va_E := (V.2.2.1 q.1 (q.2.1 + 1), .inl (V.2.1.1 q.2.2.1, q.2.2.2, if q.2.2.1 = 2 then .inr (.inl (S.2.2 q.1 q.2.1)) else .inl (S.2.1 q.1 q.2.1)))
def WD (V : WV) (S : Mem) : va_W := V.2.2.2.1.map (eO V S) ++ V.2.2.2.2.map (eA V S)
def tyV (V : WV) : List (ClassId × FieldType) := [(V.2.1.1 0, .int), (V.2.1.1 1, .byte), (V.2.1.1 2, .long), (V.2.1.1 3, .boolean)]
def AV (V : WV) : Nat → Prop := fun q => q ∈ V.2.2.2.1.map (fun x => V.2.2.1 x.1 0) ++ V.2.2.2.2.map (fun x => V.2.2.1 x.1 (x.2.1 + 1))
def jsK : List (String × Nat × String) := [("SecretWells$Tape", 33, "well man secret tie fills tells drinks thirst salt seed false if then else day deep wet dry know heavy with which"), ("SecretWells$Tape", 72, ";=+-*/<()"), ("SecretWells$Shape", 68, "a00;"), ("SecretWells$Shape", 74, "aa0;"), ("SecretWells$Shape", 79, "aa;"), ("SecretWells$Shape", 84, "0;"), ("SecretWells$Shape", 89, "a0")]
def jsLen : List Nat := [113, 9, 4, 4, 3, 2, 2]
def jsByt : List (List Int32) := [[119, 101, 108, 108, 32, 109, 97, 110, 32, 115, 101, 99, 114, 101, 116, 32, 116, 105, 101, 32, 102, 105, 108, 108, 115, 32, 116, 101, 108, 108, 115, 32, 100, 114, 105, 110, 107, 115, 32, 116, 104, 105, 114, 115, 116, 32, 115, 97, 108, 116, 32, 115, 101, 101, 100, 32, 102, 97, 108, 115, 101, 32, 105, 102, 32, 116, 104, 101, 110, 32, 101, 108, 115, 101, 32, 100, 97, 121, 32, 100, 101, 101, 112, 32, 119, 101, 116, 32, 100, 114, 121, 32, 107, 110, 111, 119, 32, 104, 101, 97, 118, 121, 32, 119, 105, 116, 104, 32, 119, 104, 105, 99, 104], [59, 61, 43, 45, 42, 47, 60, 40, 41], [97, 48, 48, 59], [97, 97, 48, 59], [97, 97, 59], [48, 59], [97, 48]]
/-- the String constants that a world knows, and two statics of the JDK -/
def SK (V : WV) (A : Nat → Prop) (U : State) : Prop := vk_S V.2.1.2.1 jsLen jsByt V.2.1.2.2.1 V.2.1.2.2.2 A U U.heap ∧ (∀ i, i < V.2.1.2.1 → vk_R (jsK.getD i ("", 0, "")).1 (jsK.getD i ("", 0, "")).2.1 (jsK.getD i ("", 0, "")).2.2 (V.2.1.2.2.1 i) U) ∧ (0 < V.2.1.2.1 → va_Z "java/lang/String" "COMPACT_STRINGS" "Z" (.int 1) A U U.heap ∧ va_Zq "jdk/internal/util/Preconditions" "SIOOBE_FORMATTER" "Ljava/util/function/BiFunction;" A U U.heap)
theorem SK.go {V : WV} {A : Nat → Prop} {s U : State} {H : Heap} {locs : List Loc} (h : SK V A s) (hS : va_S A s.heap H locs) (hU : U.heap = H) (hW : s.WarmedH U.vm) : SK V A U := by
  have hq : ∀ a : Nat, a < s.heap.size → ¬ A a → U.heap[a]? = s.heap[a]? := fun a h1 h2 => by rw [hU]; exact hS.2.1 a h1 h2
  refine ⟨(h.1.moved hW.alike).kept hq, fun i hi => (h.2.1 i hi).warm hW, fun h0 => ⟨((h.2.2 h0).1.moved hW.alike).kept hq, ((h.2.2 h0).2.moved hW.alike).kept hq⟩⟩
theorem SK.same {V : WV} {A : Nat → Prop} {s U : State} (h : SK V A s) (hH : U.heap = s.heap) (hv : U.vm = s.vm) : SK V A U := by
  have ha : s.vm.Alike U.vm := by rw [hv]; exact Vm.Alike.refl _
  have hq : ∀ a : Nat, a < s.heap.size → ¬ A a → U.heap[a]? = s.heap[a]? := fun a _ _ => by rw [hH]
  refine ⟨(h.1.moved ha).kept hq, fun i hi => (h.2.1 i hi).same hv, fun h0 => ⟨((h.2.2 h0).1.moved ha).kept hq, ((h.2.2 h0).2.moved ha).kept hq⟩⟩
theorem SK.nar {V : WV} {A B : Nat → Prop} {U : State} (h : SK V A U) (hAB : ∀ q, B q → A q) : SK V B U := ⟨h.1.narrow hAB, h.2.1, fun h0 => ⟨(h.2.2 h0).1.narrow hAB, (h.2.2 h0).2.narrow hAB⟩⟩
def WH (V : WV) (S : Mem) (U : State) : Prop := va_P V.1 vwCl (WD V S) U.heap ∧ va_K V.1 vwCl (tyV V) U ∧ va_D (AV V) (WD V S) ∧ SK V (AV V) U
def VOk (V : WV) : Prop := (V.2.2.2.1.map (fun x => x.1)).Nodup ∧ (V.2.2.2.2.map (fun x => (x.1, x.2.1))).Nodup
theorem flds_get (ad : Nat → Nat → Nat) (S : Mem) (o : Nat) : ∀ (fl : List Nat) (b k x : Nat), fl[k]? = some x → (flds ad S o b fl)[k]? = some (fv ad S o (b + k) x)
  | [], _, _, _, h => by simp at h
  | y :: ys, b, 0, x, h => by
    simp at h
    subst h
    simp [flds]
  | y :: ys, b, k + 1, x, h => by
    simp at h
    have := flds_get ad S o ys (b + 1) k x h
    simp only [flds, List.getElem?_cons_succ, this]
    rw [show b + 1 + k = b + (k + 1) by omega]
theorem flds_len (ad : Nat → Nat → Nat) (S : Mem) (o : Nat) : ∀ (fl : List Nat) (b : Nat), (flds ad S o b fl).length = fl.length
  | [], _ => rfl
  | _ :: ys, b => by simp [flds, flds_len ad S o ys (b + 1)]
theorem fv_other (ad : Nat → Nat → Nat) (S : Mem) (o o' k k' : Nat) (v : Int32) (h : ¬ (o' = o ∧ k' = k)) (x : Nat) : fv ad (pI S o k v) o' k' x = fv ad S o' k' x := by
  match x with
  | 0 => simp [fv, pI, h]
  | 1 => rfl
  | 2 => simp [fv, pI, h]
  | j + 3 => rfl
theorem flds_oth (ad : Nat → Nat → Nat) (S : Mem) (o o' k : Nat) (v : Int32) (h : o' ≠ o) : ∀ (fl : List Nat) (b : Nat), flds ad (pI S o k v) o' b fl = flds ad S o' b fl
  | [], _ => rfl
  | x :: ys, b => by
    simp only [flds, flds_oth ad S o o' k v h ys (b + 1)]
    rw [fv_other ad S o o' k b v (fun q => h q.1) x]
theorem flds_set (ad : Nat → Nat → Nat) (S : Mem) (o : Nat) (v : Int32) : ∀ (fl : List Nat) (b k x : Nat), fl[k]? = some x → (flds ad S o b fl).set k (fv ad (pI S o (b + k) v) o (b + k) x) = flds ad (pI S o (b + k) v) o b fl
  | [], _, _, _, h => by simp at h
  | y :: ys, b, 0, x, h => by
    simp at h
    subst h
    simp only [flds, List.set_cons_zero, Nat.add_zero]
    congr 1
    have : ∀ (zs : List Nat) (c : Nat), b < c → flds ad S o c zs = flds ad (pI S o b v) o c zs := by
      intro zs
      induction zs with
      | nil => intro c _; rfl
      | cons z zs ih =>
        intro c hc
        simp only [flds]
        rw [ih (c + 1) (by omega), fv_other ad S o o b c v (by omega) z]
    exact this ys (b + 1) (by omega)
  | y :: ys, b, k + 1, x, h => by
    simp at h
    have := flds_set ad S o v ys (b + 1) k x h
    simp only [flds, List.set_cons_succ]
    rw [show b + (k + 1) = b + 1 + k by omega, this, fv_other ad S o o (b + 1 + k) b v (by omega) y]
theorem WD_getO {V : WV} {S : Mem} {q : LO} (h : q ∈ V.2.2.2.1) : ∃ k : Nat, (WD V S)[k]? = some (eO V S q) := by
  obtain ⟨k, hk⟩ := List.getElem?_of_mem h
  refine ⟨k, ?_⟩
  obtain ⟨hl, hk2⟩ := List.getElem?_eq_some_iff.mp hk
  simp [WD, List.getElem?_append, hl, hk2]
theorem WD_getA {V : WV} {S : Mem} {q : LA} (h : q ∈ V.2.2.2.2) : ∃ k : Nat, (WD V S)[k]? = some (eA V S q) := by
  obtain ⟨k, hk⟩ := List.getElem?_of_mem h
  refine ⟨V.2.2.2.1.length + k, ?_⟩
  simp [WD, List.getElem?_append, hk]
theorem WD_setO {V : WV} {S : Mem} {o ci k x : Nat} {fl : List Nat} (v : Int32) (hV : VOk V) (h : (o, ci, fl) ∈ V.2.2.2.1) (hk : fl[k]? = some x) :
    ∃ q0 : Nat, (WD V S)[q0]? = some (eO V S (o, ci, fl)) ∧ (WD V S).set q0 (V.2.2.1 o 0, .inr (ci, (flds V.2.2.1 S o 0 fl).set k (fv V.2.2.1 (pI S o k v) o k x))) = WD V (pI S o k v) := by
  obtain ⟨j, hj⟩ := List.getElem?_of_mem h
  obtain ⟨hl, hj2⟩ := List.getElem?_eq_some_iff.mp hj
  refine ⟨j, by simp [WD, List.getElem?_append, hl, hj2], ?_⟩
  have e2 : V.2.2.2.2.map (eA V (pI S o k v)) = V.2.2.2.2.map (eA V S) := List.map_congr_left (fun q _ => rfl)
  simp only [WD, e2]
  rw [List.set_append_left _ _ (by simpa using hl)]
  congr 1
  apply List.ext_getElem?
  intro i
  rw [List.getElem?_set]
  by_cases hij : j = i
  · subst hij
    have hfs := flds_set V.2.2.1 S o v fl 0 k x hk
    simp only [Nat.zero_add] at hfs
    simp [hl, hj2, eO, hfs]
  · simp only [hij, if_false, List.getElem?_map]
    cases hi : V.2.2.2.1[i]? with
    | none => rfl
    | some q =>
      have hne : q.1 ≠ o := by
        intro he
        have h1 : (V.2.2.2.1.map (fun x => x.1))[i]? = some o := by simp [hi, he]
        have h2 : (V.2.2.2.1.map (fun x => x.1))[j]? = some o := by simp [hj]
        have il : i < (V.2.2.2.1.map (fun x => x.1)).length := (List.getElem?_eq_some_iff.mp h1).1
        exact hij ((List.getElem?_inj (by simpa using hl) hV.1).mp (h2.trans h1.symm))
      simp [eO, flds_oth V.2.2.1 S o q.1 k v hne q.2.2 0]
theorem WD_setA {V : WV} {S : Mem} {o f t n : Nat} (g : Nat → Int32) (hV : VOk V) (h : (o, f, t, n) ∈ V.2.2.2.2) (ht : t ≠ 2) :
    ∃ q0 : Nat, (WD V S)[q0]? = some (V.2.2.1 o (f + 1), .inl (V.2.1.1 t, n, .inl (S.2.1 o f))) ∧ (WD V S).set q0 (V.2.2.1 o (f + 1), .inl (V.2.1.1 t, n, .inl g)) = WD V (pA S o f g) := by
  obtain ⟨j, hj⟩ := List.getElem?_of_mem h
  obtain ⟨hl, hj2⟩ := List.getElem?_eq_some_iff.mp hj
  refine ⟨V.2.2.2.1.length + j, by simp [WD, List.getElem?_append, hj, eA, ht], ?_⟩
  have e1 : V.2.2.2.1.map (eO V (pA S o f g)) = V.2.2.2.1.map (eO V S) := by
    apply List.map_congr_left
    intro q _
    have : ∀ (fl : List Nat) (b : Nat), flds V.2.2.1 (pA S o f g) q.1 b fl = flds V.2.2.1 S q.1 b fl := by
      intro fl
      induction fl with
      | nil => intro b; rfl
      | cons x xs ih =>
        intro b
        simp only [flds, ih]
        congr 1
    simp [eO, this]
  simp only [WD, e1]
  rw [List.set_append_right _ _ (by simp)]
  congr 1
  simp only [List.length_map, Nat.add_sub_cancel_left]
  apply List.ext_getElem?
  intro i
  rw [List.getElem?_set]
  by_cases hij : j = i
  · subst hij
    simp [hl, hj2, eA, ht, pA]
  · simp only [hij, if_false, List.getElem?_map]
    cases hi : V.2.2.2.2[i]? with
    | none => rfl
    | some q =>
      have hne : ¬ (q.1 = o ∧ q.2.1 = f) := by
        intro he
        have h1 : (V.2.2.2.2.map (fun x => (x.1, x.2.1)))[i]? = some (o, f) := by simp [hi, he.1, he.2]
        have h2 : (V.2.2.2.2.map (fun x => (x.1, x.2.1)))[j]? = some (o, f) := by simp [hj]
        exact hij ((List.getElem?_inj (by simpa using hl) hV.2).mp (h2.trans h1.symm))
      simp [eA, pA, hne]
theorem WD_setL {V : WV} {S : Mem} {o f n : Nat} (g : Nat → Int64) (hV : VOk V) (h : (o, f, 2, n) ∈ V.2.2.2.2) :
    ∃ q0 : Nat, (WD V S)[q0]? = some (V.2.2.1 o (f + 1), .inl (V.2.1.1 2, n, .inr (.inl (S.2.2 o f)))) ∧ (WD V S).set q0 (V.2.2.1 o (f + 1), .inl (V.2.1.1 2, n, .inr (.inl g))) = WD V (pL S o f g) := by
  obtain ⟨j, hj⟩ := List.getElem?_of_mem h
  obtain ⟨hl, hj2⟩ := List.getElem?_eq_some_iff.mp hj
  refine ⟨V.2.2.2.1.length + j, by simp [WD, List.getElem?_append, hj, eA], ?_⟩
  have e1 : V.2.2.2.1.map (eO V (pL S o f g)) = V.2.2.2.1.map (eO V S) := by
    apply List.map_congr_left
    intro q _
    have : ∀ (fl : List Nat) (b : Nat), flds V.2.2.1 (pL S o f g) q.1 b fl = flds V.2.2.1 S q.1 b fl := by
      intro fl
      induction fl with
      | nil => intro b; rfl
      | cons x xs ih =>
        intro b
        simp only [flds, ih]
        congr 1
    simp [eO, this]
  simp only [WD, e1]
  rw [List.set_append_right _ _ (by simp)]
  congr 1
  simp only [List.length_map, Nat.add_sub_cancel_left]
  apply List.ext_getElem?
  intro i
  rw [List.getElem?_set]
  by_cases hij : j = i
  · subst hij
    simp [hl, hj2, eA, pL]
  · simp only [hij, if_false, List.getElem?_map]
    cases hi : V.2.2.2.2[i]? with
    | none => rfl
    | some q =>
      have hne : ¬ (q.1 = o ∧ q.2.1 = f) := by
        intro he
        have h1 : (V.2.2.2.2.map (fun x => (x.1, x.2.1)))[i]? = some (o, f) := by simp [hi, he.1, he.2]
        have h2 : (V.2.2.2.2.map (fun x => (x.1, x.2.1)))[j]? = some (o, f) := by simp [hj]
        exact hij ((List.getElem?_inj (by simpa using hl) hV.2).mp (h2.trans h1.symm))
      simp [eA, pL, hne]
