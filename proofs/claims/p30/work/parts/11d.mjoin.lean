/-! THE REFERENCE: joining -/
/-- the children's rows of a node as evens and odds -/
def q_ch2 (A : Nat → Int64) (node : Nat) : (Nat → Int64) × (Nat → Int64) := (fun j => A (64 * node + j), fun j => A (64 * node + 32 + j))
