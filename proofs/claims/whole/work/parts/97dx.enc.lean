/-! what codes of both tell -/
def enc (op od : Nat) : Int32 := nI op ||| (nI od <<< ((4 : Int32) &&& 31))
theorem enc_d : ∀ op, op < 13 → ∀ od, od < 1000 → enc op od &&& 15 = nI op ∧ enc op od >>> ((4 : Int32) &&& 31) = nI od := by decide +kernel
