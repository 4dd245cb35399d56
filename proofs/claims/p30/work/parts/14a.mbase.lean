/-! THE REFERENCE: ITS STATE, AND WHAT ITS SMALL METHODS ANSWER -/
/-- the leaves' numbers, held in rows of 32, are those of the row x -/
def q_RR (n : Nat) (sp : Nat → Bool) (A x : Nat → Int64) : Prop := ∀ i, i < 16 → q_ex sp i = true → sp i = false → ∀ k, k < q_wd n i → A (32 * i + k) = x (q_so n i + k)
section Mb
variable {n wv : Nat} {sp : Nat → Bool} {x : Nat → Int64} {w : pW}
theorem q_T.ex (hT : q_T n sp) {i : Nat} (h1 : 1 ≤ i) (h : sp i = true) : q_ex sp i = true := by
  have h8 : i < 8 := by
    rcases Nat.lt_or_ge i 8 with z | z
    · exact z
    · rw [hT.2.2.1 i z] at h; exact absurd h Bool.false_ne_true
  unfold q_ex
  by_cases hi : i = 1
  · simp [hi]
  · have := hT.2.2.2.1 i (by omega) h8 h
    simp [this]; omega
theorem q_T.sp1 (hT : q_T n sp) {i : Nat} (h : sp i = true) : 1 ≤ i ∧ i < 8 := by
  refine ⟨?_, ?_⟩
  · rcases Nat.eq_zero_or_pos i with z | z
    · rw [z, hT.2.1] at h; exact absurd h Bool.false_ne_true
    · exact z
  · rcases Nat.lt_or_ge i 8 with z | z
    · exact z
    · rw [hT.2.2.1 i z] at h; exact absurd h Bool.false_ne_true
/-- no number whose size is no number -/
def q_nm (v : Int64) : Prop := ¬ p_abs v < 0
end Mb
