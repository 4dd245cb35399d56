/-! THE CODE: HOW MANY BITS, AND A BIT -/
section Bi
variable {c k : Nat} {w : pW}
theorem q_count (hc : w.1 3 5 = nI c) : p_ev none 1 0 [.ref 3] [] w = some (.inl (some (.int (nI c))), w, 0) := by
  (conv => lhs; simp (disch := first | assumption | omega | (rw [nI_leI] <;> omega) | (rw [nI_ltI] <;> omega) | (rw [nI_eq] <;> omega) | (apply q_out <;> omega) | (apply q_nb; omega) | (apply q_n0 <;> omega)) only [M1, hc, ↓if_pos, ↓if_neg, nI_add, q_sub, q_cl, p_bnd_s, p_bnd_v])
theorem q_bit (hc : w.1 3 5 = nI c) (h : k < c) (h2 : c ≤ 4038) : p_ev none 2 0 [.ref 3, .int (nI k)] [] w = some (.inl (some (.int (w.2.2 20 k))), w, 0) := by
  have h0 : ¬ nI k < nI 0 := by rw [nI_ltI (by omega) (by omega)]; omega
  (conv => lhs; simp (disch := first | assumption | omega | (rw [nI_leI] <;> omega) | (rw [nI_ltI] <;> omega) | (rw [nI_eq] <;> omega) | (apply q_out <;> omega) | (apply q_nb; omega) | (apply q_n0 <;> omega)) only [M2, hc, ↓if_pos, ↓if_neg, nI_add, q_sub, q_cl, p_bnd_s, p_bnd_v])
end Bi
