/-! THE CODE: WHAT IS LEFT OUT -/
def q_lft (lo p pl : Nat) (R : Nat → Int64) : Bool := decide (lo ≤ p) && decide (q_sh (R (q_pa lo p)) pl = lN 0)
section Lo
variable {n lo p pl : Nat} {w : pW}
theorem q_pa_le (h : p < 32) : q_pa lo p < 32 := by unfold q_pa; split <;> omega
theorem q_leftOut (h : q_W n lo w) (h1 : lo < 2 ^ 20) (h2 : p < 32) : p_ev none 9 0 [.ref 3, .int (nI p), .int (nI pl)] [] w = some (.inl (some (.int (nI (q_lft lo p pl (w.2.1 17)).toNat))), w, 0) := by
  have h10 : p_rw 10 := ⟨rfl, rfl⟩
  have hp := q_pa_le (lo := lo) h2
  unfold q_lft
  by_cases hl : lo ≤ p
  · rw [decide_eq_true hl, Bool.true_and]
    have hpar := q_parentOf h h1 (show p < 2 ^ 20 by omega) hl
    by_cases hz : q_sh (w.2.1 17 (q_pa lo p)) pl = lN 0
    · have hz1 : lg_cmp (w.2.1 17 (q_pa lo p) >>> ((nI pl).toInt64 &&& 63)) (lN 0) = nI 0 := q_cmp0.mpr hz
      have hz2 : ¬ ¬ lg_cmp (w.2.1 17 (q_pa lo p) >>> ((nI pl).toInt64 &&& 63)) (lN 0) = nI 0 := fun z => z hz1
      rw [decide_eq_true hz]
      (conv => lhs; simp (disch := first | assumption | omega | (rw [nI_leI] <;> omega) | (rw [nI_ltI] <;> omega) | (rw [nI_eq] <;> omega) | (apply q_out <;> omega) | (apply q_nb; omega) | (apply q_n0 <;> omega)) only [M9, h.2, hpar, q_get h10, ↓if_pos, ↓if_neg, nI_add, q_sub, q_cl, p_bnd_s, p_bnd_v]); rfl
    · have hz1 : ¬ lg_cmp (w.2.1 17 (q_pa lo p) >>> ((nI pl).toInt64 &&& 63)) (lN 0) = nI 0 := fun z => hz (q_cmp0.mp z)
      rw [decide_eq_false hz]
      (conv => lhs; simp (disch := first | assumption | omega | (rw [nI_leI] <;> omega) | (rw [nI_ltI] <;> omega) | (rw [nI_eq] <;> omega) | (apply q_out <;> omega) | (apply q_nb; omega) | (apply q_n0 <;> omega)) only [M9, h.2, hpar, q_get h10, ↓if_pos, ↓if_neg, nI_add, q_sub, q_cl, p_bnd_s, p_bnd_v]); rfl
  · rw [decide_eq_false hl, Bool.false_and]
    (conv => lhs; simp (disch := first | assumption | omega | (rw [nI_leI] <;> omega) | (rw [nI_ltI] <;> omega) | (rw [nI_eq] <;> omega) | (apply q_out <;> omega) | (apply q_nb; omega) | (apply q_n0 <;> omega)) only [M9, h.2, ↓if_pos, ↓if_neg, nI_add, q_sub, q_cl, p_bnd_s, p_bnd_v]); rfl
end Lo
