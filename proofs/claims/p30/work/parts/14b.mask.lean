/-! THE REFERENCE: CALLS THAT ASK -/
/-- leaves have places of their own -/
theorem q_disj0 : ∀ n, (n = 4 ∨ n = 8 ∨ n = 16 ∨ n = 32) → ∀ i, i < 16 → ∀ k, k < 16 → 1 ≤ i → 1 ≤ k → i ≠ k → q_so n i + q_wd n i ≤ q_so n k ∨ q_so n k + q_wd n k ≤ q_so n i ∨ (k / 2 = i ∨ k / 4 = i ∨ k / 8 = i) ∨ (i / 2 = k ∨ i / 4 = k ∨ i / 8 = k) := by
  have key : ∀ n : Fin 4, ∀ i k : Fin 16, i.val = 0 ∨ k.val = 0 ∨ i.val = k.val ∨ q_so (4 * 2 ^ n.val) i.val + q_wd (4 * 2 ^ n.val) i.val ≤ q_so (4 * 2 ^ n.val) k.val ∨ q_so (4 * 2 ^ n.val) k.val + q_wd (4 * 2 ^ n.val) k.val ≤ q_so (4 * 2 ^ n.val) i.val ∨ (k.val / 2 = i.val ∨ k.val / 4 = i.val ∨ k.val / 8 = i.val) ∨ (i.val / 2 = k.val ∨ i.val / 4 = k.val ∨ i.val / 8 = k.val) := by decide +kernel
  intro n hn i hi k hk i1 k1 hne
  have e : ∃ m : Fin 4, n = 4 * 2 ^ m.val := by
    rcases hn with rfl | rfl | rfl | rfl
    · exact ⟨0, rfl⟩
    · exact ⟨1, rfl⟩
    · exact ⟨2, rfl⟩
    · exact ⟨3, rfl⟩
  obtain ⟨m, rfl⟩ := e
  rcases key m ⟨i, hi⟩ ⟨k, hk⟩ with z | z | z | z
  · exact absurd z (by dsimp only; omega)
  · exact absurd z (by dsimp only; omega)
  · exact absurd z hne
  · exact z
theorem q_T.anc {n : Nat} {sp : Nat → Bool} (hT : q_T n sp) {k : Nat} (hx : q_ex sp k = true) : (2 ≤ k → sp (k / 2) = true) ∧ (4 ≤ k → sp (k / 4) = true) ∧ (8 ≤ k → sp (k / 8) = true) := by
  have up : ∀ k, 2 ≤ k → q_ex sp k = true → sp (k / 2) = true := by
    intro k h2 h
    unfold q_ex at h
    simp only [Bool.or_eq_true, Bool.and_eq_true, decide_eq_true_eq] at h
    rcases h with z | ⟨_, z⟩
    · omega
    · exact z
  have up2 : ∀ k, 2 ≤ k → sp k = true → sp (k / 2) = true := fun k h2 h => hT.2.2.2.1 k h2 (hT.sp1 h).2 h
  refine ⟨fun h => up k h hx, fun h => ?_, fun h => ?_⟩
  · have := up2 (k / 2) (by omega) (up k (by omega) hx)
    rw [Nat.div_div_eq_div_mul] at this; exact this
  · have h1 := up2 (k / 2) (by omega) (up k (by omega) hx)
    have h2 := up2 (k / 2 / 2) (by omega) h1
    rw [Nat.div_div_eq_div_mul, Nat.div_div_eq_div_mul] at h2; exact h2
theorem q_disj {n i k : Nat} {sp : Nat → Bool} (hT : q_T n sp) (hi : q_ex sp i = true) (hk : q_ex sp k = true) (li : sp i = false) (lk : sp k = false) (hne : i ≠ k) (i1 : 1 ≤ i) (i2 : i < 16) (k1 : 1 ≤ k) (k2 : k < 16) : q_so n i + q_wd n i ≤ q_so n k ∨ q_so n k + q_wd n k ≤ q_so n i := by
  have ai := hT.anc hi
  have ak := hT.anc hk
  rcases q_disj0 n hT.1 i i2 k k2 i1 k1 hne with z | z | z | z
  · exact Or.inl z
  · exact Or.inr z
  · exfalso
    rcases z with z | z | z
    · have := ak.1 (by omega); rw [z, li] at this; exact Bool.false_ne_true this
    · have := ak.2.1 (by omega); rw [z, li] at this; exact Bool.false_ne_true this
    · have := ak.2.2 (by omega); rw [z, li] at this; exact Bool.false_ne_true this
  · exfalso
    rcases z with z | z | z
    · have := ai.1 (by omega); rw [z, lk] at this; exact Bool.false_ne_true this
    · have := ai.2.1 (by omega); rw [z, lk] at this; exact Bool.false_ne_true this
    · have := ai.2.2 (by omega); rw [z, lk] at this; exact Bool.false_ne_true this
theorem q_ex_b {sp : Nat → Bool} {k : Nat} (hx : q_ex sp k = true) : 1 ≤ k ∧ k < 16 := by
  unfold q_ex at hx
  simp only [Bool.or_eq_true, Bool.and_eq_true, decide_eq_true_eq] at hx
  rcases hx with z | ⟨⟨z1, z2⟩, _⟩ <;> omega
