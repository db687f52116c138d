/-! NAMES: the words that keep (gTbl), the classes and their fields, methods. By program (wip/whole/gen/gen_names.py) out of the printed names and the tables. -/
def gTbl : List Cond := lw_tbl.filter goodWord
theorem gt_mem {w : Cond} (h : w ∈ tables_1) (g : goodWord w = true) : w ∈ gTbl := List.mem_filter.mpr ⟨List.mem_append_right _ h, g⟩
theorem gt_sel {w : Cond} (h : w ∈ k2_sels lw_privs) (g : goodWord w = true) : w ∈ gTbl := List.mem_filter.mpr ⟨List.mem_append_left _ h, g⟩
theorem gt_good {w : Cond} (h : w ∈ gTbl) : goodWord w = true := (List.mem_filter.mp h).2
theorem gt_1 {w : Cond} (i : Nat) (h0 : tables_1_1[i]? = some w) (g : goodWord w = true) : w ∈ gTbl := gt_mem (have h : w ∈ tables_1_1 := List.mem_of_getElem? h0; (List.mem_append_left _ h)) g
theorem gt_2 {w : Cond} (i : Nat) (h0 : tables_1_2[i]? = some w) (g : goodWord w = true) : w ∈ gTbl := gt_mem (have h : w ∈ tables_1_2 := List.mem_of_getElem? h0; (List.mem_append_right _ (List.mem_append_left _ h))) g
theorem gt_3 {w : Cond} (i : Nat) (h0 : tables_1_3[i]? = some w) (g : goodWord w = true) : w ∈ gTbl := gt_mem (have h : w ∈ tables_1_3 := List.mem_of_getElem? h0; (List.mem_append_right _ (List.mem_append_right _ (List.mem_append_left _ h)))) g
theorem gt_4 {w : Cond} (i : Nat) (h0 : tables_1_4[i]? = some w) (g : goodWord w = true) : w ∈ gTbl := gt_mem (have h : w ∈ tables_1_4 := List.mem_of_getElem? h0; (List.mem_append_right _ (List.mem_append_right _ (List.mem_append_right _ (List.mem_append_left _ h))))) g
theorem gt_5 {w : Cond} (i : Nat) (h0 : tables_1_5[i]? = some w) (g : goodWord w = true) : w ∈ gTbl := gt_mem (have h : w ∈ tables_1_5 := List.mem_of_getElem? h0; (List.mem_append_right _ (List.mem_append_right _ (List.mem_append_right _ (List.mem_append_right _ (List.mem_append_left _ h)))))) g
theorem gt_6 {w : Cond} (i : Nat) (h0 : tables_1_6[i]? = some w) (g : goodWord w = true) : w ∈ gTbl := gt_mem (have h : w ∈ tables_1_6 := List.mem_of_getElem? h0; (List.mem_append_right _ (List.mem_append_right _ (List.mem_append_right _ (List.mem_append_right _ (List.mem_append_right _ (List.mem_append_left _ h))))))) g
theorem gt_7 {w : Cond} (i : Nat) (h0 : tables_1_7[i]? = some w) (g : goodWord w = true) : w ∈ gTbl := gt_mem (have h : w ∈ tables_1_7 := List.mem_of_getElem? h0; (List.mem_append_right _ (List.mem_append_right _ (List.mem_append_right _ (List.mem_append_right _ (List.mem_append_right _ (List.mem_append_right _ (List.mem_append_left _ h)))))))) g
theorem gt_8 {w : Cond} (i : Nat) (h0 : tables_1_8[i]? = some w) (g : goodWord w = true) : w ∈ gTbl := gt_mem (have h : w ∈ tables_1_8 := List.mem_of_getElem? h0; (List.mem_append_right _ (List.mem_append_right _ (List.mem_append_right _ (List.mem_append_right _ (List.mem_append_right _ (List.mem_append_right _ (List.mem_append_right _ (List.mem_append_left _ h))))))))) g
theorem gt_9 {w : Cond} (i : Nat) (h0 : tables_1_9[i]? = some w) (g : goodWord w = true) : w ∈ gTbl := gt_mem (have h : w ∈ tables_1_9 := List.mem_of_getElem? h0; (List.mem_append_right _ (List.mem_append_right _ (List.mem_append_right _ (List.mem_append_right _ (List.mem_append_right _ (List.mem_append_right _ (List.mem_append_right _ (List.mem_append_right _ h))))))))) g
def RX0 : String := "SecretWells$Days"
def TX0 : u_T := fun k => match k with
  | 0 => ("SecretWells$Days", "variables", "[I", true)
  | _ => ("SecretWells$Days", "knewAhead", "[I", true)
def tyX0 : Nat → FieldType := fun k => match k with
  | 0 => .array .int
  | _ => .array .int
theorem nmX0 : ∀ a, a < 2 → ∀ b, b < 2 → a ≠ b → (TX0 a).2.1 ≠ (TX0 b).2.1 := by decide +kernel
theorem tyX0_ok : ∀ k, k < 2 → parseFieldDescriptor (TX0 k).2.2.1 = some (tyX0 k) := by decide +kernel
theorem inX0 : ∀ w ∈ u_ws RX0 TX0 2, w ∈ gTbl := fun w h => gt_mem ((by decide +kernel : ∀ w ∈ u_ws RX0 TX0 2, w ∈ tables_1) w h) ((by decide +kernel : ∀ w ∈ u_ws RX0 TX0 2, goodWord w = true) w h)
def RX1 : String := "SecretWells$Law"
def TX1 : u_T := fun k => match k with
  | 0 => ("SecretWells$Law", "steps", "[I", true)
  | 1 => ("SecretWells$Law", "stack", "[I", true)
  | 2 => ("SecretWells$Law", "size", "I", false)
  | 3 => ("SecretWells$Law", "waiting", "I", false)
  | _ => ("SecretWells$Law", "branch", "I", false)
def tyX1 : Nat → FieldType := fun k => match k with
  | 0 => .array .int
  | 1 => .array .int
  | 2 => .int
  | 3 => .int
  | _ => .int
theorem nmX1 : ∀ a, a < 5 → ∀ b, b < 5 → a ≠ b → (TX1 a).2.1 ≠ (TX1 b).2.1 := by decide +kernel
theorem tyX1_ok : ∀ k, k < 5 → parseFieldDescriptor (TX1 k).2.2.1 = some (tyX1 k) := by decide +kernel
theorem inX1 : ∀ w ∈ u_ws RX1 TX1 5, w ∈ gTbl := fun w h => gt_mem ((by decide +kernel : ∀ w ∈ u_ws RX1 TX1 5, w ∈ tables_1) w h) ((by decide +kernel : ∀ w ∈ u_ws RX1 TX1 5, goodWord w = true) w h)
def RX2 : String := "SecretWells$Meaning"
def TX2 : u_T := fun k => match k with
  | 0 => ("SecretWells$Meaning", "place", "I", false)
  | 1 => ("SecretWells$Meaning", "tape", "LSecretWells$Tape;", true)
  | 2 => ("SecretWells$Meaning", "fault", "I", false)
  | 3 => ("SecretWells$Meaning", "at", "I", false)
  | 4 => ("SecretWells$Meaning", "wellNames", "[J", true)
  | 5 => ("SecretWells$Meaning", "manNames", "[J", true)
  | _ => ("SecretWells$Meaning", "secretNames", "[J", true)
def tyX2 : Nat → FieldType := fun k => match k with
  | 0 => .int
  | 1 => .object "SecretWells$Tape"
  | 2 => .int
  | 3 => .int
  | 4 => .array .long
  | 5 => .array .long
  | _ => .array .long
theorem nmX2 : ∀ a, a < 7 → ∀ b, b < 7 → a ≠ b → (TX2 a).2.1 ≠ (TX2 b).2.1 := by decide +kernel
theorem tyX2_ok : ∀ k, k < 7 → parseFieldDescriptor (TX2 k).2.2.1 = some (tyX2 k) := by decide +kernel
theorem inX2 : ∀ w ∈ u_ws RX2 TX2 7, w ∈ gTbl := fun w h => gt_mem ((by decide +kernel : ∀ w ∈ u_ws RX2 TX2 7, w ∈ tables_1) w h) ((by decide +kernel : ∀ w ∈ u_ws RX2 TX2 7, goodWord w = true) w h)
def RX3 : String := "SecretWells$Notes"
def TX3 : u_T := fun k => match k with
  | 0 => ("SecretWells$Notes", "size", "I", false)
  | 1 => ("SecretWells$Notes", "wellOf", "[I", true)
  | 2 => ("SecretWells$Notes", "setOf", "[I", true)
  | 3 => ("SecretWells$Notes", "deepOf", "[I", true)
  | _ => ("SecretWells$Notes", "deeper", "[I", true)
def tyX3 : Nat → FieldType := fun k => match k with
  | 0 => .int
  | 1 => .array .int
  | 2 => .array .int
  | 3 => .array .int
  | _ => .array .int
theorem nmX3 : ∀ a, a < 5 → ∀ b, b < 5 → a ≠ b → (TX3 a).2.1 ≠ (TX3 b).2.1 := by decide +kernel
theorem tyX3_ok : ∀ k, k < 5 → parseFieldDescriptor (TX3 k).2.2.1 = some (tyX3 k) := by decide +kernel
theorem inX3 : ∀ w ∈ u_ws RX3 TX3 5, w ∈ gTbl := fun w h => gt_mem ((by decide +kernel : ∀ w ∈ u_ws RX3 TX3 5, w ∈ tables_1) w h) ((by decide +kernel : ∀ w ∈ u_ws RX3 TX3 5, goodWord w = true) w h)
def RX4 : String := "SecretWells$People"
def TX4 : u_T := fun k => match k with
  | 0 => ("SecretWells$People", "own", "[I", true)
  | _ => ("SecretWells$People", "players", "I", false)
def tyX4 : Nat → FieldType := fun k => match k with
  | 0 => .array .int
  | _ => .int
theorem nmX4 : ∀ a, a < 2 → ∀ b, b < 2 → a ≠ b → (TX4 a).2.1 ≠ (TX4 b).2.1 := by decide +kernel
theorem tyX4_ok : ∀ k, k < 2 → parseFieldDescriptor (TX4 k).2.2.1 = some (tyX4 k) := by decide +kernel
theorem inX4 : ∀ w ∈ u_ws RX4 TX4 2, w ∈ gTbl := fun w h => gt_mem ((by decide +kernel : ∀ w ∈ u_ws RX4 TX4 2, w ∈ tables_1) w h) ((by decide +kernel : ∀ w ∈ u_ws RX4 TX4 2, goodWord w = true) w h)
def RX5 : String := "SecretWells$Rain"
def TX5 : u_T := fun k => match k with
  | 0 => ("SecretWells$Rain", "isFresh", "Z", false)
  | 1 => ("SecretWells$Rain", "fewestDead", "I", false)
  | 2 => ("SecretWells$Rain", "leastThirst", "I", false)
  | 3 => ("SecretWells$Rain", "fewestWhispers", "I", false)
  | 4 => ("SecretWells$Rain", "best", "[I", true)
  | 5 => ("SecretWells$Rain", "chosen", "[I", true)
  | 6 => ("SecretWells$Rain", "way", "[I", true)
  | 7 => ("SecretWells$Rain", "size", "I", false)
  | 8 => ("SecretWells$Rain", "freshSet", "I", false)
  | _ => ("SecretWells$Rain", "freshDays", "I", false)
def tyX5 : Nat → FieldType := fun k => match k with
  | 0 => .boolean
  | 1 => .int
  | 2 => .int
  | 3 => .int
  | 4 => .array .int
  | 5 => .array .int
  | 6 => .array .int
  | 7 => .int
  | 8 => .int
  | _ => .int
theorem nmX5 : ∀ a, a < 10 → ∀ b, b < 10 → a ≠ b → (TX5 a).2.1 ≠ (TX5 b).2.1 := by decide +kernel
theorem tyX5_ok : ∀ k, k < 10 → parseFieldDescriptor (TX5 k).2.2.1 = some (tyX5 k) := by decide +kernel
theorem inX5 : ∀ w ∈ u_ws RX5 TX5 10, w ∈ gTbl := fun w h => gt_mem ((by decide +kernel : ∀ w ∈ u_ws RX5 TX5 10, w ∈ tables_1) w h) ((by decide +kernel : ∀ w ∈ u_ws RX5 TX5 10, goodWord w = true) w h)
def RX6 : String := "SecretWells$Rows"
def TX6 : u_T := fun k => match k with
  | _ => ("SecretWells$Rows", "cells", "[I", true)
def tyX6 : Nat → FieldType := fun k => match k with
  | _ => .array .int
theorem nmX6 : ∀ a, a < 1 → ∀ b, b < 1 → a ≠ b → (TX6 a).2.1 ≠ (TX6 b).2.1 := by decide +kernel
theorem tyX6_ok : ∀ k, k < 1 → parseFieldDescriptor (TX6 k).2.2.1 = some (tyX6 k) := by decide +kernel
theorem inX6 : ∀ w ∈ u_ws RX6 TX6 1, w ∈ gTbl := fun w h => gt_mem ((by decide +kernel : ∀ w ∈ u_ws RX6 TX6 1, w ∈ tables_1) w h) ((by decide +kernel : ∀ w ∈ u_ws RX6 TX6 1, goodWord w = true) w h)
def RX7 : String := "SecretWells$Shape"
def TX7 : u_T := fun k => match k with
  | 0 => ("SecretWells$Shape", "place", "I", false)
  | 1 => ("SecretWells$Shape", "tape", "LSecretWells$Tape;", true)
  | 2 => ("SecretWells$Shape", "fault", "I", false)
  | 3 => ("SecretWells$Shape", "at", "I", false)
  | _ => ("SecretWells$Shape", "told", "[I", true)
def tyX7 : Nat → FieldType := fun k => match k with
  | 0 => .int
  | 1 => .object "SecretWells$Tape"
  | 2 => .int
  | 3 => .int
  | _ => .array .int
theorem nmX7 : ∀ a, a < 5 → ∀ b, b < 5 → a ≠ b → (TX7 a).2.1 ≠ (TX7 b).2.1 := by decide +kernel
theorem tyX7_ok : ∀ k, k < 5 → parseFieldDescriptor (TX7 k).2.2.1 = some (tyX7 k) := by decide +kernel
theorem inX7 : ∀ w ∈ u_ws RX7 TX7 5, w ∈ gTbl := fun w h => gt_mem ((by decide +kernel : ∀ w ∈ u_ws RX7 TX7 5, w ∈ tables_1) w h) ((by decide +kernel : ∀ w ∈ u_ws RX7 TX7 5, goodWord w = true) w h)
def RX8 : String := "SecretWells$State"
def TX8 : u_T := fun k => match k with
  | 0 => ("SecretWells$State", "day", "I", false)
  | 1 => ("SecretWells$State", "alive", "I", false)
  | 2 => ("SecretWells$State", "cuts", "I", false)
  | 3 => ("SecretWells$State", "whispers", "I", false)
  | 4 => ("SecretWells$State", "water", "[I", true)
  | 5 => ("SecretWells$State", "home", "[I", true)
  | 6 => ("SecretWells$State", "thirst", "[I", true)
  | 7 => ("SecretWells$State", "knows", "[I", true)
  | 8 => ("SecretWells$State", "into", "[I", true)
  | 9 => ("SecretWells$State", "deep", "[I", true)
  | 10 => ("SecretWells$State", "holding", "[I", true)
  | 11 => ("SecretWells$State", "drinkers", "[I", true)
  | _ => ("SecretWells$State", "would", "[I", true)
def tyX8 : Nat → FieldType := fun k => match k with
  | 0 => .int
  | 1 => .int
  | 2 => .int
  | 3 => .int
  | 4 => .array .int
  | 5 => .array .int
  | 6 => .array .int
  | 7 => .array .int
  | 8 => .array .int
  | 9 => .array .int
  | 10 => .array .int
  | 11 => .array .int
  | _ => .array .int
theorem nmX8 : ∀ a, a < 13 → ∀ b, b < 13 → a ≠ b → (TX8 a).2.1 ≠ (TX8 b).2.1 := by decide +kernel
theorem tyX8_ok : ∀ k, k < 13 → parseFieldDescriptor (TX8 k).2.2.1 = some (tyX8 k) := by decide +kernel
theorem inX8 : ∀ w ∈ u_ws RX8 TX8 13, w ∈ gTbl := fun w h => gt_mem ((by decide +kernel : ∀ w ∈ u_ws RX8 TX8 13, w ∈ tables_1) w h) ((by decide +kernel : ∀ w ∈ u_ws RX8 TX8 13, goodWord w = true) w h)
def RX9 : String := "SecretWells$Tape"
def TX9 : u_T := fun k => match k with
  | 0 => ("SecretWells$Tape", "length", "I", false)
  | 1 => ("SecretWells$Tape", "bytes", "[B", true)
  | 2 => ("SecretWells$Tape", "words", "[J", true)
  | 3 => ("SecretWells$Tape", "kinds", "[I", true)
  | 4 => ("SecretWells$Tape", "places", "[I", true)
  | _ => ("SecretWells$Tape", "values", "[J", true)
def tyX9 : Nat → FieldType := fun k => match k with
  | 0 => .int
  | 1 => .array .byte
  | 2 => .array .long
  | 3 => .array .int
  | 4 => .array .int
  | _ => .array .long
theorem nmX9 : ∀ a, a < 6 → ∀ b, b < 6 → a ≠ b → (TX9 a).2.1 ≠ (TX9 b).2.1 := by decide +kernel
theorem tyX9_ok : ∀ k, k < 6 → parseFieldDescriptor (TX9 k).2.2.1 = some (tyX9 k) := by decide +kernel
theorem inX9 : ∀ w ∈ u_ws RX9 TX9 6, w ∈ gTbl := fun w h => gt_mem ((by decide +kernel : ∀ w ∈ u_ws RX9 TX9 6, w ∈ tables_1) w h) ((by decide +kernel : ∀ w ∈ u_ws RX9 TX9 6, goodWord w = true) w h)
def RX10 : String := "SecretWells$Text"
def TX10 : u_T := fun k => match k with
  | 0 => ("SecretWells$Text", "wells", "I", false)
  | 1 => ("SecretWells$Text", "men", "I", false)
  | 2 => ("SecretWells$Text", "secrets", "I", false)
  | 3 => ("SecretWells$Text", "ties", "I", false)
  | 4 => ("SecretWells$Text", "lies", "I", false)
  | 5 => ("SecretWells$Text", "thirst", "I", false)
  | 6 => ("SecretWells$Text", "salt", "I", false)
  | 7 => ("SecretWells$Text", "seed", "I", false)
  | 8 => ("SecretWells$Text", "rock", "[I", true)
  | 9 => ("SecretWells$Text", "water", "[I", true)
  | 10 => ("SecretWells$Text", "home", "[I", true)
  | 11 => ("SecretWells$Text", "want", "[I", true)
  | 12 => ("SecretWells$Text", "knows", "[I", true)
  | 13 => ("SecretWells$Text", "heavy", "[I", true)
  | 14 => ("SecretWells$Text", "ifTrue", "[I", true)
  | 15 => ("SecretWells$Text", "from", "[I", true)
  | 16 => ("SecretWells$Text", "to", "[I", true)
  | 17 => ("SecretWells$Text", "fills", "LSecretWells$Law;", true)
  | 18 => ("SecretWells$Text", "tells", "LSecretWells$Law;", true)
  | _ => ("SecretWells$Text", "drinks", "LSecretWells$Law;", true)
def tyX10 : Nat → FieldType := fun k => match k with
  | 0 => .int
  | 1 => .int
  | 2 => .int
  | 3 => .int
  | 4 => .int
  | 5 => .int
  | 6 => .int
  | 7 => .int
  | 8 => .array .int
  | 9 => .array .int
  | 10 => .array .int
  | 11 => .array .int
  | 12 => .array .int
  | 13 => .array .int
  | 14 => .array .int
  | 15 => .array .int
  | 16 => .array .int
  | 17 => .object "SecretWells$Law"
  | 18 => .object "SecretWells$Law"
  | _ => .object "SecretWells$Law"
theorem nmX10 : ∀ a, a < 20 → ∀ b, b < 20 → a ≠ b → (TX10 a).2.1 ≠ (TX10 b).2.1 := by decide +kernel
theorem tyX10_ok : ∀ k, k < 20 → parseFieldDescriptor (TX10 k).2.2.1 = some (tyX10 k) := by decide +kernel
theorem inX10 : ∀ w ∈ u_ws RX10 TX10 20, w ∈ gTbl := fun w h => gt_mem ((by decide +kernel : ∀ w ∈ u_ws RX10 TX10 20, w ∈ tables_1) w h) ((by decide +kernel : ∀ w ∈ u_ws RX10 TX10 20, goodWord w = true) w h)
def RX11 : String := "SecretWells"
def TX11 : u_T := fun k => match k with
  | 0 => ("SecretWells", "tape", "LSecretWells$Tape;", true)
  | 1 => ("SecretWells", "shape", "LSecretWells$Shape;", true)
  | 2 => ("SecretWells", "meaning", "LSecretWells$Meaning;", true)
  | 3 => ("SecretWells", "now", "LSecretWells$State;", true)
  | 4 => ("SecretWells", "trial", "LSecretWells$State;", true)
  | 5 => ("SecretWells", "daily", "LSecretWells$Days;", true)
  | 6 => ("SecretWells", "cloud", "LSecretWells$Rain;", true)
  | 7 => ("SecretWells", "people", "LSecretWells$People;", true)
  | 8 => ("SecretWells", "notes", "LSecretWells$Notes;", true)
  | 9 => ("SecretWells", "done", "LSecretWells$Rows;", true)
  | 10 => ("SecretWells", "slots", "LSecretWells$Rows;", true)
  | 11 => ("SecretWells", "text", "LSecretWells$Text;", false)
  | 12 => ("SecretWells", "spare", "LSecretWells$Text;", false)
  | 13 => ("SecretWells", "faultPlace", "I", false)
  | 14 => ("SecretWells", "oldestDone", "I", false)
  | 15 => ("SecretWells", "doneSize", "I", false)
  | _ => ("SecretWells", "heldSlots", "I", false)
def tyX11 : Nat → FieldType := fun k => match k with
  | 0 => .object "SecretWells$Tape"
  | 1 => .object "SecretWells$Shape"
  | 2 => .object "SecretWells$Meaning"
  | 3 => .object "SecretWells$State"
  | 4 => .object "SecretWells$State"
  | 5 => .object "SecretWells$Days"
  | 6 => .object "SecretWells$Rain"
  | 7 => .object "SecretWells$People"
  | 8 => .object "SecretWells$Notes"
  | 9 => .object "SecretWells$Rows"
  | 10 => .object "SecretWells$Rows"
  | 11 => .object "SecretWells$Text"
  | 12 => .object "SecretWells$Text"
  | 13 => .int
  | 14 => .int
  | 15 => .int
  | _ => .int
theorem nmX11 : ∀ a, a < 17 → ∀ b, b < 17 → a ≠ b → (TX11 a).2.1 ≠ (TX11 b).2.1 := by decide +kernel
theorem tyX11_ok : ∀ k, k < 17 → parseFieldDescriptor (TX11 k).2.2.1 = some (tyX11 k) := by decide +kernel
theorem inX11 : ∀ w ∈ u_ws RX11 TX11 17, w ∈ gTbl := fun w h => gt_mem ((by decide +kernel : ∀ w ∈ u_ws RX11 TX11 17, w ∈ tables_1) w h) ((by decide +kernel : ∀ w ∈ u_ws RX11 TX11 17, goodWord w = true) w h)
def RX12 : String := "SecretWellsModel"
def TX12 : u_T := fun k => match k with
  | 0 => ("SecretWellsModel", "thrown", "I", false)
  | 1 => ("SecretWellsModel", "tape", "[B", true)
  | 2 => ("SecretWellsModel", "taped", "I", false)
  | 3 => ("SecretWellsModel", "text", "[B", true)
  | 4 => ("SecretWellsModel", "size", "I", false)
  | 5 => ("SecretWellsModel", "tKind", "[I", true)
  | 6 => ("SecretWellsModel", "tPlace", "[I", true)
  | 7 => ("SecretWellsModel", "tValue", "[I", true)
  | 8 => ("SecretWellsModel", "tName", "[J", true)
  | 9 => ("SecretWellsModel", "keys", "[J", true)
  | 10 => ("SecretWellsModel", "tokens", "I", false)
  | 11 => ("SecretWellsModel", "t", "I", false)
  | 12 => ("SecretWellsModel", "open", "I", false)
  | 13 => ("SecretWellsModel", "fault", "I", false)
  | 14 => ("SecretWellsModel", "faultPlace", "I", false)
  | 15 => ("SecretWellsModel", "worst", "I", false)
  | 16 => ("SecretWellsModel", "worstPlace", "I", false)
  | 17 => ("SecretWellsModel", "place", "I", false)
  | 18 => ("SecretWellsModel", "live", "I", false)
  | 19 => ("SecretWellsModel", "side", "I", false)
  | 20 => ("SecretWellsModel", "names", "I", false)
  | 21 => ("SecretWellsModel", "nameOf", "[J", true)
  | 22 => ("SecretWellsModel", "nameSort", "[I", true)
  | 23 => ("SecretWellsModel", "nameAt", "[I", true)
  | 24 => ("SecretWellsModel", "wells", "[I", true)
  | 25 => ("SecretWellsModel", "rockOf", "[I", true)
  | 26 => ("SecretWellsModel", "waterTold", "[I", true)
  | 27 => ("SecretWellsModel", "men", "[I", true)
  | 28 => ("SecretWellsModel", "wellTold", "[I", true)
  | 29 => ("SecretWellsModel", "wantsOf", "[I", true)
  | 30 => ("SecretWellsModel", "secrets", "[I", true)
  | 31 => ("SecretWellsModel", "heavyOf", "[I", true)
  | 32 => ("SecretWellsModel", "isFalse", "[Z", true)
  | 33 => ("SecretWellsModel", "knowTold", "[I", true)
  | 34 => ("SecretWellsModel", "ties", "[I", true)
  | 35 => ("SecretWellsModel", "tieFrom", "[I", true)
  | 36 => ("SecretWellsModel", "tieTo", "[I", true)
  | 37 => ("SecretWellsModel", "thirstTold", "[I", true)
  | 38 => ("SecretWellsModel", "salt", "[I", true)
  | 39 => ("SecretWellsModel", "seed", "[I", true)
  | 40 => ("SecretWellsModel", "lawFirst", "[I", true)
  | 41 => ("SecretWellsModel", "lawLast", "[I", true)
  | 42 => ("SecretWellsModel", "branches", "I", false)
  | 43 => ("SecretWellsModel", "hasTest", "[Z", true)
  | 44 => ("SecretWellsModel", "testFrom", "[I", true)
  | 45 => ("SecretWellsModel", "testMid", "[I", true)
  | 46 => ("SecretWellsModel", "testTo", "[I", true)
  | 47 => ("SecretWellsModel", "termTo", "[I", true)
  | 48 => ("SecretWellsModel", "codes", "I", false)
  | 49 => ("SecretWellsModel", "code", "[I", true)
  | 50 => ("SecretWellsModel", "codeInt", "[I", true)
  | 51 => ("SecretWellsModel", "waits", "[I", true)
  | 52 => ("SecretWellsModel", "waiting", "I", false)
  | 53 => ("SecretWellsModel", "variables", "[I", true)
  | 54 => ("SecretWellsModel", "pile", "[I", true)
  | 55 => ("SecretWellsModel", "isBroken", "Z", false)
  | 56 => ("SecretWellsModel", "now", "[I", true)
  | 57 => ("SecretWellsModel", "row", "[I", true)
  | 58 => ("SecretWellsModel", "lots", "I", false)
  | 59 => ("SecretWellsModel", "knewOf", "[I", true)
  | 60 => ("SecretWellsModel", "undos", "I", false)
  | 61 => ("SecretWellsModel", "history", "[I", true)
  | 62 => ("SecretWellsModel", "rainWay", "I", false)
  | 63 => ("SecretWellsModel", "rainDead", "I", false)
  | 64 => ("SecretWellsModel", "rainThirst", "I", false)
  | 65 => ("SecretWellsModel", "rainWhispers", "I", false)
  | 66 => ("SecretWellsModel", "mayOf", "[I", true)
  | 67 => ("SecretWellsModel", "mayAll", "I", false)
  | 68 => ("SecretWellsModel", "told", "I", false)
  | 69 => ("SecretWellsModel", "toldWell", "[I", true)
  | 70 => ("SecretWellsModel", "toldSet", "[I", true)
  | 71 => ("SecretWellsModel", "toldDeep", "[I", true)
  | 72 => ("SecretWellsModel", "isHeld", "[Z", true)
  | _ => ("SecretWellsModel", "heldRows", "[I", true)
def tyX12 : Nat → FieldType := fun k => match k with
  | 0 => .int
  | 1 => .array .byte
  | 2 => .int
  | 3 => .array .byte
  | 4 => .int
  | 5 => .array .int
  | 6 => .array .int
  | 7 => .array .int
  | 8 => .array .long
  | 9 => .array .long
  | 10 => .int
  | 11 => .int
  | 12 => .int
  | 13 => .int
  | 14 => .int
  | 15 => .int
  | 16 => .int
  | 17 => .int
  | 18 => .int
  | 19 => .int
  | 20 => .int
  | 21 => .array .long
  | 22 => .array .int
  | 23 => .array .int
  | 24 => .array .int
  | 25 => .array .int
  | 26 => .array .int
  | 27 => .array .int
  | 28 => .array .int
  | 29 => .array .int
  | 30 => .array .int
  | 31 => .array .int
  | 32 => .array .boolean
  | 33 => .array .int
  | 34 => .array .int
  | 35 => .array .int
  | 36 => .array .int
  | 37 => .array .int
  | 38 => .array .int
  | 39 => .array .int
  | 40 => .array .int
  | 41 => .array .int
  | 42 => .int
  | 43 => .array .boolean
  | 44 => .array .int
  | 45 => .array .int
  | 46 => .array .int
  | 47 => .array .int
  | 48 => .int
  | 49 => .array .int
  | 50 => .array .int
  | 51 => .array .int
  | 52 => .int
  | 53 => .array .int
  | 54 => .array .int
  | 55 => .boolean
  | 56 => .array .int
  | 57 => .array .int
  | 58 => .int
  | 59 => .array .int
  | 60 => .int
  | 61 => .array .int
  | 62 => .int
  | 63 => .int
  | 64 => .int
  | 65 => .int
  | 66 => .array .int
  | 67 => .int
  | 68 => .int
  | 69 => .array .int
  | 70 => .array .int
  | 71 => .array .int
  | 72 => .array .boolean
  | _ => .array .int
theorem nmX12 : ∀ a, a < 74 → ∀ b, b < 74 → a ≠ b → (TX12 a).2.1 ≠ (TX12 b).2.1 := by decide +kernel
theorem tyX12_ok : ∀ k, k < 74 → parseFieldDescriptor (TX12 k).2.2.1 = some (tyX12 k) := by decide +kernel
theorem inX12 : ∀ w ∈ u_ws RX12 TX12 74, w ∈ gTbl := fun w h => gt_mem ((by decide +kernel : ∀ w ∈ u_ws RX12 TX12 74, w ∈ tables_1) w h) ((by decide +kernel : ∀ w ∈ u_ws RX12 TX12 74, goodWord w = true) w h)
abbrev vwCl : List vw_C := [(RX0, TX0, 2), (RX1, TX1, 5), (RX2, TX2, 7), (RX3, TX3, 5), (RX4, TX4, 2), (RX5, TX5, 10), (RX6, TX6, 1), (RX7, TX7, 5), (RX8, TX8, 13), (RX9, TX9, 6), (RX10, TX10, 20), (RX11, TX11, 17), (RX12, TX12, 74)]
theorem gw_max_s : Cond.static Lib.Math.max.name ∈ gTbl := gt_2 110 (by decide +kernel) (by decide +kernel)
theorem gw_max_c : Cond.code Lib.Math.max.name Lib.Math.max.code 2 (some .int) ∈ gTbl := gt_2 111 rfl rfl
theorem gw_min_s : Cond.static Lib.Math.min.name ∈ gTbl := gt_3 84 (by decide +kernel) (by decide +kernel)
theorem gw_min_c : Cond.code Lib.Math.min.name Lib.Math.min.code 2 (some .int) ∈ gTbl := gt_3 85 rfl rfl
theorem gw_math : Cond.initialized "java/lang/Math" ∈ gTbl := gt_1 15 (by decide +kernel) (by decide +kernel)
theorem gw_sys : Cond.initialized "java/lang/System" ∈ gTbl := gt_1 19 (by decide +kernel) (by decide +kernel)
theorem gw_copy_n : Cond.native arraycopyName ∈ gTbl := gt_3 52 (by decide +kernel) (by decide +kernel)
theorem gw_copy_s : Cond.static arraycopyName ∈ gTbl := gt_3 51 (by decide +kernel) (by decide +kernel)
