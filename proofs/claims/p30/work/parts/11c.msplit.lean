/-! THE REFERENCE: splitting and joining a row of a node -/
def q_eq2 (h : Nat) (p q : (Nat → Int64) × (Nat → Int64)) : Prop := ∀ j, j < h → p.1 j = q.1 j ∧ p.2 j = q.2 j
theorem q_nx_lt {h j : Nat} (h1 : 1 ≤ h) (hj : j < h) : q_nx h j < h := by unfold q_nx; split <;> omega
theorem q_ps_cg {wv step h : Nat} {sg : Int64} {p q : (Nat → Int64) × (Nat → Int64)} (h1 : 1 ≤ h) (hp : q_eq2 h p q) : q_eq2 h (q_ps wv step sg h p) (q_ps wv step sg h q) := by
  intro j hj
  unfold q_ps
  by_cases he : step % 2 = 0
  · rw [if_pos he, if_pos he]
    refine ⟨(hp j hj).1, ?_⟩
    simp only [q_pO]
    rw [q_seg_in (by omega), q_seg_in (by omega), (hp j hj).1, (hp j hj).2, (hp _ (q_nx_lt h1 hj)).1]
  · rw [if_neg he, if_neg he]
    refine ⟨?_, (hp j hj).2⟩
    simp only [q_pE]
    rw [q_seg_in (by omega), q_seg_in (by omega), (hp j hj).1, (hp j hj).2, (hp (j - 1) (by omega)).2]
theorem q_pu2_cg {wv h : Nat} (h1 : 1 ≤ h) : ∀ (d k : Nat) {p q : (Nat → Int64) × (Nat → Int64)}, q_eq2 h p q → q_eq2 h (q_pu2 wv h d k p) (q_pu2 wv h d k q)
  | 0, _, _, _, hp => hp
  | d + 1, k, _, _, hp => q_pu2_cg h1 d (k + 1) (q_ps_cg h1 hp)
theorem q_pd2_cg {wv h : Nat} (h1 : 1 ≤ h) : ∀ (k : Nat) {p q : (Nat → Int64) × (Nat → Int64)}, q_eq2 h p q → q_eq2 h (q_pd2 wv h k p) (q_pd2 wv h k q)
  | 0, _, _, hp => hp
  | k + 1, _, _, hp => q_pd2_cg h1 k (q_ps_cg h1 hp)
/-- a row of a node as evens and odds -/
def q_un2 (A : Nat → Int64) (node : Nat) : (Nat → Int64) × (Nat → Int64) := (fun j => A (32 * node + 2 * j), fun j => A (32 * node + 2 * j + 1))
