/-! THE CODE: A BIT TELLS -/
section Te
variable {c k r p pl : Nat} {w : pW}
theorem q_tell (hr : p_rw r) (hc : w.1 3 5 = nI c) (h : k < c) (h2 : c ≤ 4038) (hp : p < 32) (hpl : pl < 100) (e1 : w.2.2 21 k = nI p) (e2 : w.2.2 22 k = nI pl) : p_ev none 4 0 [.ref 3, .int (nI k), .ref r, p_U] [] w = some (.inl (some (.int (nI 1))), (w.1, q_r w.2.1 (r + 7) (fun j => if j = p then q_kn (w.2.1 16 p) pl else w.2.1 (r + 7) j), w.2.2), 0) := by
  have h0 : ¬ nI k < nI 0 := by rw [nI_ltI (by omega) (by omega)]; omega
  have h3 : ¬ nI p = (-1 : Int32) := fun z => absurd (congrArg Int32.toInt z) (by rw [nI_toInt (by omega)]; have : (-1 : Int32).toInt = -1 := by decide
                                                                                  omega)
  (conv => lhs; simp (disch := first | assumption | omega | (rw [nI_leI] <;> omega) | (rw [nI_ltI] <;> omega) | (rw [nI_eq] <;> omega) | (apply q_out <;> omega) | (apply q_nb; omega) | (apply q_n0 <;> omega)) only [M4 r hr, hc, e1, e2, q_known hp hpl, q_set hr, ↓if_pos, ↓if_neg, nI_add, q_sub, q_cl, p_bnd_s, p_bnd_v])
theorem q_tell_n (hr : p_rw r) (hc : w.1 3 5 = nI c) (h : k < c) (h2 : c ≤ 4038) (e1 : w.2.2 21 k = (-1 : Int32)) : p_ev none 4 0 [.ref 3, .int (nI k), .ref r, p_U] [] w = some (.inl (some (.int (nI 0))), w, 0) := by
  have h0 : ¬ nI k < nI 0 := by rw [nI_ltI (by omega) (by omega)]; omega
  have h3 : ¬ ¬ (-1 : Int32) = (-1 : Int32) := fun z => z rfl
  (conv => lhs; simp (disch := first | assumption | omega | (rw [nI_leI] <;> omega) | (rw [nI_ltI] <;> omega) | (rw [nI_eq] <;> omega) | (apply q_out <;> omega) | (apply q_nb; omega) | (apply q_n0 <;> omega)) only [M4 r hr, hc, e1, ↓if_pos, ↓if_neg, nI_add, q_sub, q_cl, p_bnd_s, p_bnd_v])
end Te
