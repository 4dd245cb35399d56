/-! THE CODE: WHAT A NUMBER IS KNOWN AS -/
def q_sl64 (x : Int64) (k : Nat) : Int64 := x <<< ((nI k).toInt64 &&& 63)
def q_ks (v : Int64) (pl : Nat) : Int64 := if pl = 0 then q_sl64 (q_sh (p_abs v) pl) pl else q_sl64 (q_sh (p_abs v) pl) pl + q_sl64 (lN 1) (pl - 1)
def q_kn (v : Int64) (pl : Nat) : Int64 := if v < lN 0 then -(q_ks v pl) else q_ks v pl
section Kn
variable {p pl : Nat} {w : pW}
theorem q_known (h2 : p < 32) (hp : pl < 100) : p_ev none 5 0 [.ref 3, .int (nI p), .int (nI pl), p_U, p_U] [] w = some (.inl (some (.long (q_kn (w.2.1 16 p) pl))), w, 0) := by
  have h9 : p_rw 9 := ⟨rfl, rfl⟩
  unfold q_kn q_ks
  by_cases h0 : pl = 0
  · subst h0
    rw [if_pos rfl]
    by_cases hv : w.2.1 16 p < lN 0
    · have hv1 : ¬ nI 0 ≤ lg_cmp (w.2.1 16 p) (lN 0) := fun z => absurd hv (Int64.not_lt.mpr (q_cmpG.mp z))
      rw [if_pos hv]
      (conv => lhs; simp (disch := first | assumption | omega | (rw [nI_leI] <;> omega) | (rw [nI_ltI] <;> omega) | (rw [nI_eq] <;> omega) | (apply q_out <;> omega) | (apply q_nb; omega) | (apply q_n0 <;> omega)) only [M5, q_mag h9, q_get h9, ↓if_pos, ↓if_neg, nI_add, q_sub, q_cl, p_bnd_s, p_bnd_v]); rfl
    · have hv1 : nI 0 ≤ lg_cmp (w.2.1 16 p) (lN 0) := q_cmpG.mpr (Int64.not_lt.mp hv)
      rw [if_neg hv]
      (conv => lhs; simp (disch := first | assumption | omega | (rw [nI_leI] <;> omega) | (rw [nI_ltI] <;> omega) | (rw [nI_eq] <;> omega) | (apply q_out <;> omega) | (apply q_nb; omega) | (apply q_n0 <;> omega)) only [M5, q_mag h9, q_get h9, ↓if_pos, ↓if_neg, nI_add, q_sub, q_cl, p_bnd_s, p_bnd_v]); rfl
  · rw [if_neg h0]
    by_cases hv : w.2.1 16 p < lN 0
    · have hv1 : ¬ nI 0 ≤ lg_cmp (w.2.1 16 p) (lN 0) := fun z => absurd hv (Int64.not_lt.mpr (q_cmpG.mp z))
      rw [if_pos hv]
      (conv => lhs; simp (disch := first | assumption | omega | (rw [nI_leI] <;> omega) | (rw [nI_ltI] <;> omega) | (rw [nI_eq] <;> omega) | (apply q_out <;> omega) | (apply q_nb; omega) | (apply q_n0 <;> omega)) only [M5, q_mag h9, q_get h9, ↓if_pos, ↓if_neg, nI_add, q_sub, q_cl, p_bnd_s, p_bnd_v]); rfl
    · have hv1 : nI 0 ≤ lg_cmp (w.2.1 16 p) (lN 0) := q_cmpG.mpr (Int64.not_lt.mp hv)
      rw [if_neg hv]
      (conv => lhs; simp (disch := first | assumption | omega | (rw [nI_leI] <;> omega) | (rw [nI_ltI] <;> omega) | (rw [nI_eq] <;> omega) | (apply q_out <;> omega) | (apply q_nb; omega) | (apply q_n0 <;> omega)) only [M5, q_mag h9, q_get h9, ↓if_pos, ↓if_neg, nI_add, q_sub, q_cl, p_bnd_s, p_bnd_v]); rfl
end Kn
