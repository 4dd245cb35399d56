/-! THE CODE: PARENTS AND DESCENDANTS -/
/-- the code's length and the width of the low leaf -/
def q_W (n lo : Nat) (w : pW) : Prop := w.1 3 6 = nI n ∧ w.1 3 7 = nI lo
def q_pa (lo p : Nat) : Nat := if p < 2 * lo then p - lo else p / 2
def q_de (n lo p : Nat) : Bool := decide ((if p < lo then p + lo else 2 * p) < n)
section Co
variable {n lo p : Nat} {w : pW}
theorem q_parentOf (h : q_W n lo w) (h1 : lo < 2 ^ 20) (h2 : p < 2 ^ 20) (h3 : lo ≤ p) : p_ev none 11 0 [.ref 3, .int (nI p)] [] w = some (.inl (some (.int (nI (q_pa lo p)))), w, 0) := by
  unfold q_pa
  by_cases hp : p < 2 * lo
  · rw [if_pos hp]
    (conv => lhs; simp (disch := first | assumption | omega | (rw [nI_leI] <;> omega) | (rw [nI_ltI] <;> omega) | (rw [nI_eq] <;> omega) | (apply q_out <;> omega) | (apply q_nb; omega) | (apply q_n0 <;> omega)) only [M11, h.2, pk_mul, ↓if_pos, ↓if_neg, nI_add, q_sub, q_cl, p_bnd_s, p_bnd_v])
  · rw [if_neg hp]
    (conv => lhs; simp (disch := first | assumption | omega | (rw [nI_leI] <;> omega) | (rw [nI_ltI] <;> omega) | (rw [nI_eq] <;> omega) | (apply q_out <;> omega) | (apply q_nb; omega) | (apply q_n0 <;> omega)) only [M11, h.2, pk_mul, q_div, ↓if_pos, ↓if_neg, nI_add, q_sub, q_cl, p_bnd_s, p_bnd_v])
theorem q_hasDesc (h : q_W n lo w) (hn : n < 2 ^ 20) (h1 : lo < 2 ^ 20) (h2 : p < 2 ^ 20) : p_ev none 10 0 [.ref 3, .int (nI p)] [] w = some (.inl (some (.int (nI (q_de n lo p).toNat))), w, 0) := by
  unfold q_de
  by_cases hp : p < lo
  · rw [if_pos hp]
    by_cases hq : p + lo < n
    · rw [decide_eq_true hq]
      (conv => lhs; simp (disch := first | assumption | omega | (rw [nI_leI] <;> omega) | (rw [nI_ltI] <;> omega) | (rw [nI_eq] <;> omega) | (apply q_out <;> omega) | (apply q_nb; omega) | (apply q_n0 <;> omega)) only [M10, h.1, h.2, ↓if_pos, ↓if_neg, nI_add, q_sub, q_cl, p_bnd_s, p_bnd_v]); rfl
    · rw [decide_eq_false hq]
      (conv => lhs; simp (disch := first | assumption | omega | (rw [nI_leI] <;> omega) | (rw [nI_ltI] <;> omega) | (rw [nI_eq] <;> omega) | (apply q_out <;> omega) | (apply q_nb; omega) | (apply q_n0 <;> omega)) only [M10, h.1, h.2, ↓if_pos, ↓if_neg, nI_add, q_sub, q_cl, p_bnd_s, p_bnd_v]); rfl
  · rw [if_neg hp]
    by_cases hq : 2 * p < n
    · rw [decide_eq_true hq]
      (conv => lhs; simp (disch := first | assumption | omega | (rw [nI_leI] <;> omega) | (rw [nI_ltI] <;> omega) | (rw [nI_eq] <;> omega) | (apply q_out <;> omega) | (apply q_nb; omega) | (apply q_n0 <;> omega)) only [M10, h.1, h.2, pk_mul, ↓if_pos, ↓if_neg, nI_add, q_sub, q_cl, p_bnd_s, p_bnd_v]); rfl
    · rw [decide_eq_false hq]
      (conv => lhs; simp (disch := first | assumption | omega | (rw [nI_leI] <;> omega) | (rw [nI_ltI] <;> omega) | (rw [nI_eq] <;> omega) | (apply q_out <;> omega) | (apply q_nb; omega) | (apply q_n0 <;> omega)) only [M10, h.1, h.2, pk_mul, ↓if_pos, ↓if_neg, nI_add, q_sub, q_cl, p_bnd_s, p_bnd_v]); rfl
end Co
