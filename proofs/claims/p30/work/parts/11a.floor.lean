/-! THE REFERENCE'S floor IS A SHIFT, for the divisors it has -/
theorem q_bm {n : Int} (h1 : -(2 ^ 63) ≤ n) (h2 : n < 2 ^ 63) : n.bmod (2 ^ 64) = n := Int.bmod_eq_of_le (by omega) (by omega)
theorem q_shI {x : Int64} {k : Nat} (hk : k < 63) : (q_sh x k).toInt = x.toInt / 2 ^ k := by
  have e : ∀ k, k < 63 → (((nI k).toInt64 &&& 63).toBitVec.smod 64).toNat = k := by decide +kernel
  have e2 : (q_sh x k).toInt = x.toInt >>> (((nI k).toInt64 &&& 63).toBitVec.smod 64).toNat := BitVec.toInt_sshiftRight ..
  rw [e k hk] at e2
  rw [e2, Int.shiftRight_eq_div_pow]
  rfl
