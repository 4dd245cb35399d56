/-! A ROUND OF THE LAW, WHATEVER ITS CALL; THE LAW'S END -/
theorem q_opc (c : Int32) : ∃ k, k < 32 ∧ c &&& nI 31 = nI k := by
  refine ⟨(c &&& nI 31).toBitVec.toNat, ?_, ?_⟩
  · rw [Int32.toBitVec_and, BitVec.toNat_and]
    exact Nat.lt_of_le_of_lt Nat.and_le_right (by decide)
  · exact Int32.toBitVec_inj.mp (BitVec.eq_of_toNat_eq (by
      show _ = (BitVec.ofNat 32 _).toNat
      rw [BitVec.toNat_ofNat, Nat.mod_eq_of_lt (BitVec.isLt _)]))
section Lr
variable {n wv : Nat} {sp : Nat → Bool} {x : Nat → Int64} {w : pW} {N : Nat} {xs : Nat → Int32} {i : Nat} {z5 z6 z7 : Value}
theorem q_op27 {k : Nat} (hk : 27 ≤ k) (hk2 : k < 32) (hi : 4 * i + 3 < N) (hN : N < 2 ^ 31) (hop : xs (4 * i) &&& nI 31 = nI k) (hK : q_KS (n, wv, sp, x) w) (hR : q_RS (n, wv, sp, x) w) : q_rnd N xs i z5 z6 z7 (n, wv, sp, x) w := by
  refine q_rnd_s ⟨w, z5, z6, z7, 0, ?_, by decide, hK, hR⟩
  have hne : ¬ nI N - nI 4 < nI (4 * i) := by rw [q_sub (by omega), nI_ltI (by omega) (by omega)]; omega
  rw [H186_23]
  have h : k = 27 ∨ k = 28 ∨ k = 29 ∨ k = 30 ∨ k = 31 := by omega
  rcases h with h | h | h | h | h <;> (subst h; (conv => lhs; simp (disch := first | assumption | omega | (rw [nI_leI] <;> omega) | (rw [nI_ltI] <;> omega) | (rw [nI_eq] <;> omega) | (apply q_out <;> omega) | (apply q_nb; omega) | (apply q_n0 <;> omega)) only [M186, hop, M186_e, ↓if_pos, ↓if_neg, nI_add, q_sub, q_cl, p_bnd_s, p_bnd_v]))
theorem q_rall (hi : 4 * i + 3 < N) (hN : N < 2 ^ 31) {S : q_AS} (hK : q_KS S w) (hR : q_RS S w) (hS : q_safe S) : q_rnd N xs i z5 z6 z7 S w := by
  obtain ⟨n, wv, sp, x⟩ := S
  obtain ⟨k, hk, hop⟩ := q_opc (xs (4 * i))
  by_cases h27 : 27 ≤ k
  · exact q_op27 h27 hk hi hN hop hK hR
  · have h : k = 0 ∨ k = 1 ∨ k = 2 ∨ k = 3 ∨ k = 4 ∨ k = 5 ∨ k = 6 ∨ k = 7 ∨ k = 8 ∨ k = 9 ∨ k = 10 ∨ k = 11 ∨ k = 12 ∨ k = 13 ∨ k = 14 ∨ k = 15 ∨ k = 16 ∨ k = 17 ∨ k = 18 ∨ k = 19 ∨ k = 20 ∨ k = 21 ∨ k = 22 ∨ k = 23 ∨ k = 24 ∨ k = 25 ∨ k = 26 := by omega
    rcases h with h | h | h | h | h | h | h | h | h | h | h | h | h | h | h | h | h | h | h | h | h | h | h | h | h | h | h <;> subst h
    · exact q_op0 hi hN hop hK hR
    · exact q_op1 hi hN hop hK hR
    · exact q_op2 hi hN hop hK hR
    · exact q_op3 hi hN hop hK hR
    · exact q_op4 hi hN hop hK hR
    · exact q_op5 hi hN hop hK hR
    · exact q_op6 hi hN hop hK hR
    · exact q_op7 hi hN hop hK hR
    · exact q_op8 hi hN hop hK hR
    · exact q_op9 hi hN hop hK hR
    · exact q_op10 hi hN hop hK hR
    · exact q_op11 hi hN hop hK hR hS
    · exact q_op12 hi hN hop hK hR hS
    · exact q_op13 hi hN hop hK hR
    · exact q_op14 hi hN hop hK hR
    · exact q_op15 hi hN hop hK hR
    · exact q_op16 hi hN hop hK hR hS
    · exact q_op17 hi hN hop hK hR
    · exact q_op18 hi hN hop hK hR
    · exact q_op19 hi hN hop hK hR
    · exact q_op20 hi hN hop hK hR
    · exact q_op21 hi hN hop hK hR
    · exact q_op22 hi hN hop hK hR hS
    · exact q_op23 hi hN hop hK hR hS
    · exact q_op24 hi hN hop hK hR hS
    · exact q_op25 hi hN hop hK hR hS
    · exact q_op26 hi hN hop hK hR hS
theorem q_lend (hi : N ≤ 4 * i + 3) (hi2 : 4 * i ≤ N) (hN : N < 2 ^ 30) : p_ev (some (N, xs)) 186 23 [.ref 999, .ref 0, .ref 24, .ref 23, .int (nI (4 * i)), z5, z6, z7] [] w = some (.inl (some (.int (nI 1))), w, 0) := by
  have hne : nI N - nI 4 < nI (4 * i) := by
    by_cases h : 4 ≤ N
    · rw [q_sub h, nI_ltI (by omega) (by omega)]; omega
    · have key : ∀ m, m < 4 → nI m - nI 4 < nI 0 := by decide +kernel
      rw [show 4 * i = 0 by omega]
      exact key N (by omega)
  have hnb : narrow .boolean (.int (nI 1)) = .int (nI 1) := by decide +kernel
  rw [H186_23]
  (conv => lhs; simp (disch := first | assumption | omega | (rw [nI_leI] <;> omega) | (rw [nI_ltI] <;> omega) | (rw [nI_eq] <;> omega) | (apply q_out <;> omega) | (apply q_nb; omega) | (apply q_n0 <;> omega)) only [M186, M186_e, ↓if_pos, ↓if_neg, nI_add, q_sub, q_cl, p_bnd_s, p_bnd_v])
end Lr
