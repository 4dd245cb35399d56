/-! THE REFERENCE: SPLIT AND JOIN OF THE TREE -/
/-- the tree when the nodes above i that are below k are joined -/
def q_jk (sp : Nat → Bool) (k i : Nat) : Nat → Bool := fun j => if i < j ∧ j < 8 ∧ q_in j k = true then false else sp j
theorem q_jk_7 {sp : Nat → Bool} {k : Nat} : q_jk sp k 7 = sp := by
  funext j; unfold q_jk; rw [if_neg (by omega)]
theorem q_jk_0 {sp : Nat → Bool} {k : Nat} : q_jk sp k 0 = q_jn sp k := by
  funext j; unfold q_jk q_jn
  by_cases h : 0 < j ∧ j < 8 ∧ q_in j k = true
  · rw [if_pos h, if_pos (by exact h)]
  · rw [if_neg h, if_neg (by exact h)]
theorem q_jk_S {sp : Nat → Bool} {k i : Nat} (h : q_in (i + 1) k = true) (h7 : i < 7) : q_st (q_jk sp k (i + 1)) (i + 1) false = q_jk sp k i := by
  funext j; unfold q_st q_jk
  by_cases h1 : j = i + 1
  · rw [if_pos h1, h1, if_pos ⟨by omega, by omega, h⟩]
  · rw [if_neg h1]
    by_cases h2 : i < j ∧ j < 8 ∧ q_in j k = true
    · rw [if_pos h2, if_pos ⟨by omega, h2.2.1, h2.2.2⟩]
    · rw [if_neg h2, if_neg (fun z => h2 ⟨by omega, z.2.1, z.2.2⟩)]
theorem q_jk_N {sp : Nat → Bool} {k i : Nat} (h : q_in (i + 1) k = false ∨ sp (i + 1) = false) : q_jk sp k (i + 1) = q_jk sp k i := by
  funext j; unfold q_jk
  by_cases h1 : j = i + 1
  · subst h1
    rw [if_neg (by omega)]
    by_cases h2 : i < i + 1 ∧ i + 1 < 8 ∧ q_in (i + 1) k = true
    · rw [if_pos h2]
      rcases h with z | z
      · rw [z] at h2; exact absurd h2.2.2 Bool.false_ne_true
      · exact z
    · rw [if_neg h2]
  · by_cases h2 : i < j ∧ j < 8 ∧ q_in j k = true
    · rw [if_pos h2, if_pos ⟨by omega, h2.2.1, h2.2.2⟩]
    · rw [if_neg h2, if_neg (fun z => h2 ⟨by omega, z.2.1, z.2.2⟩)]
theorem q_jk_T {n : Nat} {sp : Nat → Bool} (hT : q_T n sp) {k i : Nat} (hk : k < 16) : q_T n (q_jk sp k i) := by
  have key : ∀ j, q_jk sp k i j = true → sp j = true ∧ ¬ (i < j ∧ j < 8 ∧ q_in j k = true) := by
    intro j hj; unfold q_jk at hj
    by_cases h : i < j ∧ j < 8 ∧ q_in j k = true
    · rw [if_pos h] at hj; exact absurd hj Bool.false_ne_true
    · rw [if_neg h] at hj; exact ⟨hj, h⟩
  refine ⟨hT.1, ?_, fun j hj => ?_, fun j j2 j8 hj => ?_, fun j j1 j8 hj => hT.2.2.2.2 j j1 j8 (key j hj).1⟩
  · unfold q_jk; rw [if_neg (by omega)]; exact hT.2.1
  · unfold q_jk; rw [if_neg (by omega)]; exact hT.2.2.1 j hj
  · have h := key j hj
    unfold q_jk
    rw [if_neg (fun z => h.2 ⟨by omega, j8, q_in_half j2 j8 hk z.2.2⟩)]
    exact hT.2.2.2.1 j j2 j8 h.1
theorem q_jk_kids {sp : Nat → Bool} {n k i : Nat} (hT : q_T n sp) (hk : k < 16) (h1 : 1 ≤ i) (h8 : i < 8) (h : q_in i k = true) : q_jk sp k i (2 * i) = false ∧ q_jk sp k i (2 * i + 1) = false := by
  refine ⟨?_, ?_⟩
  · unfold q_jk
    by_cases hh : 2 * i < 8
    · rw [if_pos ⟨by omega, hh, q_in_half (by omega) hh hk (by rw [show 2 * i / 2 = i by omega]; exact h)⟩]
    · rw [if_neg (by omega)]; exact hT.2.2.1 _ (by omega)
  · unfold q_jk
    by_cases hh : 2 * i + 1 < 8
    · rw [if_pos ⟨by omega, hh, q_in_half (by omega) hh hk (by rw [show (2 * i + 1) / 2 = i by omega]; exact h)⟩]
    · rw [if_neg (by omega)]; exact hT.2.2.1 _ (by omega)
