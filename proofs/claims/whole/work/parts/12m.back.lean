/-! THE CLASS: WHAT IS BROUGHT BACK, AND ITS ERROR -/
/-- the error of row y against row x, over the first m places -/
def q_er (x y : Nat → Int64) : Nat → Int64
  | 0 => lN 0
  | m + 1 => q_er x y m + p_abs (y m - x m)
section Bk
variable {n wv : Nat} {sp : Nat → Bool} {w : pW}
theorem q_bring (h : q_C n wv sp w) (hT : q_T n sp) : ∃ M, p_ev none 92 0 [.ref 0] [] w = some (.inl none, (w.1, q_r (q_r w.2.1 15 M) 14 (q_un n wv sp 1 7 (fun j => if j < 32 then w.2.1 13 j else w.2.1 14 j)), w.2.2), 0) := by
  have hr7 : p_rw 7 := ⟨rfl, rfl⟩
  have hr6 : p_rw 6 := ⟨rfl, rfl⟩
  obtain ⟨M, hM⟩ := q_uniteBranch (top := 1) (r := 7) (w := (w.1, q_r w.2.1 (7 + 7) (fun j => if j < 32 then w.2.1 (6 + 7) j else w.2.1 (7 + 7) j), w.2.2)) h hT hr7 (by decide) (by omega)
  simp only [Nat.reduceAdd, q_r_s] at hM
  have hc := q_copy (w := w) hr7 hr6 (by decide)
  simp only [Nat.reduceAdd] at hc
  refine ⟨M, ?_⟩
  (conv => lhs; simp (disch := first | assumption | omega | (rw [nI_leI] <;> omega) | (rw [nI_ltI] <;> omega) | (rw [nI_eq] <;> omega) | (apply q_out <;> omega) | (apply q_nb; omega) | (apply q_n0 <;> omega)) only [M92, hc, hM, ↓if_pos, ↓if_neg, nI_add, q_sub, q_cl, p_bnd_s, p_bnd_v])
  refine congrArg some (congrArg (Prod.mk _) (congrArg (fun z => (z, 0)) (congrArg (fun z => (w.1, z, w.2.2)) ?_)))
  funext b
  by_cases hb2 : b = 14
  · subst hb2; rw [q_r_s, q_r_s]
  · rw [q_r_n hb2, q_r_n hb2]
    by_cases hb3 : b = 15
    · subst hb3; rw [q_r_s, q_r_s]
    · rw [q_r_n hb3, q_r_n hb3, q_r_n hb2]
theorem q_err_l (h : q_C n wv sp w) (hn : n ≤ 32) : ∀ (d i : Nat), i + d = n → p_ev none 93 4 [.ref 0, .long (q_er (w.2.1 12) (w.2.1 14) i), p_U, .int (nI i)] [] w = some (.inl (some (.long (q_er (w.2.1 12) (w.2.1 14) n))), w, 0) := by
  have hr7 : p_rw 7 := ⟨rfl, rfl⟩
  have hr5 : p_rw 5 := ⟨rfl, rfl⟩
  intro d
  induction d with
  | zero =>
    intro i hi
    have e : i = n := by omega
    rw [e, H93_4]
    (conv => lhs; simp (disch := first | assumption | omega | (rw [nI_leI] <;> omega) | (rw [nI_ltI] <;> omega) | (rw [nI_eq] <;> omega) | (apply q_out <;> omega) | (apply q_nb; omega) | (apply q_n0 <;> omega)) only [M93, q_width h, ↓if_pos, ↓if_neg, nI_add, q_sub, q_cl, p_bnd_s, p_bnd_v])
  | succ d ih =>
    intro i hi
    rw [H93_4]
    (conv => lhs; simp (disch := first | assumption | omega | (rw [nI_leI] <;> omega) | (rw [nI_ltI] <;> omega) | (rw [nI_eq] <;> omega) | (apply q_out <;> omega) | (apply q_nb; omega) | (apply q_n0 <;> omega)) only [M93, q_width h, q_get hr7, q_get hr5, ↓if_pos, ↓if_neg, nI_add, q_sub, q_cl, p_bnd_s, p_bnd_v])
    exact ih (i + 1) (by omega)
theorem q_err (h : q_C n wv sp w) (hT : q_T n sp) : p_ev none 93 0 [.ref 0, p_U, p_U, p_U] [] w = some (.inl (some (.long (q_er (w.2.1 12) (w.2.1 14) n))), w, 0) := by
  (conv => lhs; simp (disch := first | assumption | omega | (rw [nI_leI] <;> omega) | (rw [nI_ltI] <;> omega) | (rw [nI_eq] <;> omega) | (apply q_out <;> omega) | (apply q_nb; omega) | (apply q_n0 <;> omega)) only [M93, ↓if_pos, ↓if_neg, nI_add, q_sub, q_cl, p_bnd_s, p_bnd_v])
  exact q_err_l h hT.n32 n 0 (by omega)
end Bk
