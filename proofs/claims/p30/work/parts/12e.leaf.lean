/-! THE CLASS: CALLS THAT CHANGE A LEAF -/
section Le
variable {n wv : Nat} {sp : Nat → Bool} {x : Nat → Int64} {w : pW}
theorem q_T.n32 {n : Nat} {sp : Nat → Bool} (h : q_T n sp) : n ≤ 32 := by rcases h.1 with z | z | z | z <;> omega
end Le
