/-! THE CODE: A BIT IS PUT -/
/-- a byte as the array keeps it -/
def q_by (a : Int32) : Int32 := vp_nar .byte a.toInt8.toInt32
def q_put (c : Nat) (a b d : Int32) (w : pW) : pW := (q_r w.1 3 (fun j => if j = 5 then nI (c + 1) else w.1 3 j), w.2.1, q_r (q_r (q_r w.2.2 20 (fun j => if j = c then q_by a else w.2.2 20 j)) 21 (fun j => if j = c then q_by b else w.2.2 21 j)) 22 (fun j => if j = c then q_by d else w.2.2 22 j))
section Pu
variable {c : Nat} {w : pW}
theorem q_putT {a b d : Int32} (hc : w.1 3 5 = nI c) (h : c < 4038) : p_ev none 13 0 [.ref 3, .int a, .int b, .int d] [] w = some (.inl none, q_put c a b d w, 0) := by
  have h0 : ¬ nI c < nI 0 := by rw [nI_ltI (by omega) (by omega)]; omega
  (conv => lhs; simp (disch := first | assumption | omega | (rw [nI_leI] <;> omega) | (rw [nI_ltI] <;> omega) | (rw [nI_eq] <;> omega) | (apply q_out <;> omega) | (apply q_nb; omega) | (apply q_n0 <;> omega)) only [M13, hc, q_pu, q_r_n, ↓if_pos, ↓if_neg, nI_add, q_sub, q_cl, p_bnd_s, p_bnd_v])
  rfl
theorem q_putT_f {a b d : Int32} (hc : w.1 3 5 = nI c) (h : 4038 ≤ c) (h2 : c < 2 ^ 20) : p_ev none 13 0 [.ref 3, .int a, .int b, .int d] [] w = some (.inl none, w, 0) := by
  have h0 : ¬ nI c < nI 0 := by rw [nI_ltI (by omega) (by omega)]; omega
  (conv => lhs; simp (disch := first | assumption | omega | (rw [nI_leI] <;> omega) | (rw [nI_ltI] <;> omega) | (rw [nI_eq] <;> omega) | (apply q_out <;> omega) | (apply q_nb; omega) | (apply q_n0 <;> omega)) only [M13, hc, ↓if_pos, ↓if_neg, nI_add, q_sub, q_cl, p_bnd_s, p_bnd_v])
theorem q_put1 {a : Int32} (hc : w.1 3 5 = nI c) (h : c < 4038) : p_ev none 12 0 [.ref 3, .int a] [] w = some (.inl none, q_put c a (-1) (nI 0) w, 0) := by
  (conv => lhs; simp (disch := first | assumption | omega | (rw [nI_leI] <;> omega) | (rw [nI_ltI] <;> omega) | (rw [nI_eq] <;> omega) | (apply q_out <;> omega) | (apply q_nb; omega) | (apply q_n0 <;> omega)) only [M12, q_putT hc h, ↓if_pos, ↓if_neg, nI_add, q_sub, q_cl, p_bnd_s, p_bnd_v])
end Pu
