/-! THE CLASS: FILTERED -/
def q_ft (wv : Nat) (x : Nat → Int64) (e half j : Nat) : Int64 := if wv = 0 then x (e + 1) - x e else q_sh (lN 2 * x (e + 1) - x e - x (if j + 1 < half then e + 2 else e) + lN 1) 1
section Fi
variable {n wv : Nat} {sp : Nat → Bool} {x : Nat → Int64} {w : pW}
theorem q_wav (h : q_C n wv sp w) : p_ev none 15 0 [.ref 2] [] w = some (.inl (some (.int (nI wv))), w, 0) := by
  (conv => lhs; simp (disch := first | assumption | omega | (rw [nI_leI] <;> omega) | (rw [nI_ltI] <;> omega) | (rw [nI_eq] <;> omega) | (apply q_out <;> omega) | (apply q_nb; omega) | (apply q_n0 <;> omega)) only [M15, h.2.1, ↓if_pos, ↓if_neg, nI_add, q_sub, q_cl, p_bnd_s, p_bnd_v])
theorem q_cFilt (h : q_K n wv sp x w) {k j : Nat} (h1 : 1 ≤ k) (h2 : k < 16) (hx : q_ex sp k = true) (hs : sp k = false) (hj : j < q_wd n k / 2) (hv : wv < 2) : p_ev none 60 0 [.ref 0, .int (nI k), .int (nI j), p_U, p_U, p_U, p_U, p_U] [] w = some (.inl (some (.long (q_ft wv x (q_so n k + 2 * j) (q_wd n k / 2) j))), w, 0) := by
  have h3 : q_ex sp (q_nt (nI k)) = true := by rw [q_nt_n h2]; exact hx
  have h4 : k < 2 ^ 31 := by omega
  have hs2 : ¬ sp k = true := by rw [hs]; exact Bool.false_ne_true
  have hw := q_wdle n k
  have hn := h.2.1.n32
  have hg := q_geo0 k h1 h2 n h.2.1.1
  have hb : q_pt (q_wd n k / 2) (nI j) < q_wd n k / 2 := by rw [q_pt_n hj (by omega)]; exact hj
  have e2 : ¬ nI wv = nI 2 := by rw [nI_eq (by omega) (by omega)]; omega
  have hh : 2 * (q_wd n k / 2) ≤ q_wd n k := by omega
  rw [← h.2.2]
  unfold q_ft
  by_cases hw0 : wv = 0
  · have e0 : ¬ ¬ nI wv = nI 0 := by rw [hw0]; exact fun z => z rfl
    rw [if_pos hw0]
    (conv => lhs; simp (disch := first | assumption | omega | (rw [nI_leI] <;> omega) | (rw [nI_ltI] <;> omega) | (rw [nI_eq] <;> omega) | (apply q_out <;> omega) | (apply q_nb; omega) | (apply q_n0 <;> omega)) only [M60, q_reqNode h.1, q_reqLeaf h.1, q_widthOf h.1, q_div, q_reqBelow, q_wav h.1, q_startOf h.1, pk_mul, q_get q_r4, ↓if_pos, ↓if_neg, nI_add, q_sub, q_cl, p_bnd_s, p_bnd_v])
  · have e0 : ¬ nI wv = nI 0 := by rw [nI_eq (by omega) (by omega)]; omega
    rw [if_neg hw0]
    by_cases hk1 : j + 1 < q_wd n k / 2
    · rw [if_pos hk1]
      (conv => lhs; simp (disch := first | assumption | omega | (rw [nI_leI] <;> omega) | (rw [nI_ltI] <;> omega) | (rw [nI_eq] <;> omega) | (apply q_out <;> omega) | (apply q_nb; omega) | (apply q_n0 <;> omega)) only [M60, q_reqNode h.1, q_reqLeaf h.1, q_widthOf h.1, q_div, q_reqBelow, q_wav h.1, q_startOf h.1, pk_mul, q_get q_r4, ↓if_pos, ↓if_neg, nI_add, q_sub, q_cl, p_bnd_s, p_bnd_v])
      rfl
    · rw [if_neg hk1]
      (conv => lhs; simp (disch := first | assumption | omega | (rw [nI_leI] <;> omega) | (rw [nI_ltI] <;> omega) | (rw [nI_eq] <;> omega) | (apply q_out <;> omega) | (apply q_nb; omega) | (apply q_n0 <;> omega)) only [M60, q_reqNode h.1, q_reqLeaf h.1, q_widthOf h.1, q_div, q_reqBelow, q_wav h.1, q_startOf h.1, pk_mul, q_get q_r4, ↓if_pos, ↓if_neg, nI_add, q_sub, q_cl, p_bnd_s, p_bnd_v])
      rfl
end Fi
