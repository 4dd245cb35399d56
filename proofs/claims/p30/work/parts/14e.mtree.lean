/-! THE REFERENCE: SPLIT, JOIN, SAMPLE -/
theorem q_in_le : ∀ i, i < 16 → ∀ t, t < 16 → q_in i t = true → t ≤ i := by
  have key : ∀ i t : Fin 16, q_in i.val t.val = false ∨ t.val ≤ i.val := by decide +kernel
  intro i hi t ht h
  rcases key ⟨i, hi⟩ ⟨t, ht⟩ with z | z
  · rw [z] at h; exact absurd h Bool.false_ne_true
  · exact z
/-- the tree without what is above i -/
def q_cut (sp : Nat → Bool) (i : Nat) : Nat → Bool := fun j => if j ≤ i then sp j else false
theorem q_cut_7 {n : Nat} {sp : Nat → Bool} (hT : q_T n sp) : q_cut sp 7 = sp := by
  funext j; unfold q_cut
  by_cases h : j ≤ 7
  · rw [if_pos h]
  · rw [if_neg h, hT.2.2.1 j (by omega)]
theorem q_cut_0 {n : Nat} {sp : Nat → Bool} (hT : q_T n sp) : q_cut sp 0 = fun _ => false := by
  funext j; unfold q_cut
  by_cases h : j ≤ 0
  · rw [if_pos h, Nat.le_zero.mp h, hT.2.1]
  · rw [if_neg h]
theorem q_cut_S {sp : Nat → Bool} {i : Nat} : q_st (q_cut sp (i + 1)) (i + 1) false = q_cut sp i := by
  funext j; unfold q_st q_cut
  by_cases h : j = i + 1
  · rw [if_pos h, if_neg (by omega)]
  · rw [if_neg h]
    by_cases h2 : j ≤ i
    · rw [if_pos h2, if_pos (by omega)]
    · rw [if_neg h2, if_neg (by omega)]
theorem q_cut_N {sp : Nat → Bool} {i : Nat} (h : sp (i + 1) = false) : q_cut sp (i + 1) = q_cut sp i := by
  funext j; unfold q_cut
  by_cases h1 : j = i + 1
  · rw [h1, if_pos (Nat.le_refl _), if_neg (by omega), h]
  · by_cases h2 : j ≤ i
    · rw [if_pos h2, if_pos (by omega)]
    · rw [if_neg h2, if_neg (by omega)]
theorem q_cut_T {n : Nat} {sp : Nat → Bool} (hT : q_T n sp) {i : Nat} : q_T n (q_cut sp i) := by
  have key : ∀ j, q_cut sp i j = true → sp j = true ∧ j ≤ i := by
    intro j hj; unfold q_cut at hj
    by_cases h : j ≤ i
    · rw [if_pos h] at hj; exact ⟨hj, h⟩
    · rw [if_neg h] at hj; exact absurd hj Bool.false_ne_true
  refine ⟨hT.1, ?_, fun j hj => ?_, fun j j2 j8 hj => ?_, fun j j1 j8 hj => hT.2.2.2.2 j j1 j8 (key j hj).1⟩
  · unfold q_cut; rw [if_pos (Nat.zero_le _)]; exact hT.2.1
  · unfold q_cut; split
    · exact hT.2.2.1 j hj
    · rfl
  · have := key j hj
    unfold q_cut; rw [if_pos (by omega)]; exact hT.2.2.2.1 j j2 j8 this.1
theorem q_un_S {n wv top k : Nat} {sp : Nat → Bool} {x : Nat → Int64} : q_un n wv sp top (k + 1) x = q_un n wv sp top k (if (sp (k + 1) && q_in (k + 1) top) = true then q_joi n wv (k + 1) x else x) := rfl
