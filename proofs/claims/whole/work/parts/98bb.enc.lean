/-! READ: a step of a law as the class keeps it. -/
def enc (x : Int32 × Int32) : Int32 := x.1 ||| (x.2 <<< ((8 : Int32) &&& 31))
theorem enc_t : ∀ s, s < 4 → ∀ a, a < 100 → ∀ b, b < 100 → enc (nI s, nI (100 * a + b)) &&& 255 = nI s ∧ enc (nI s, nI (100 * a + b)) >>> ((8 : Int32) &&& 31) = nI (100 * a + b) := by decide +kernel
