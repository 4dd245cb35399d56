/-! THE CLASS: WHAT THE CALLS REQUIRE -/
/-- the node that an argument names; 0: none -/
def q_nt (x : Int32) : Nat := if nI 1 ≤ x ∧ x < nI 16 then x.toNatClampNeg else 0
theorem q_nt_n {k : Nat} (h : k < 16) : q_nt (nI k) = k := by
  unfold q_nt
  by_cases hk : 1 ≤ k
  · rw [if_pos ⟨(nI_leI (by omega) (by omega)).mpr hk, (nI_ltI (by omega) (by omega)).mpr h⟩, nI_clamp (by omega)]
  · rw [if_neg (fun z => hk ((nI_leI (by omega) (by omega)).mp z.1))]; omega
theorem q_nt_c (x : Int32) : (q_nt x = 0 ∧ (x < nI 1 ∨ nI 16 ≤ x)) ∨ ∃ k, 1 ≤ k ∧ k < 16 ∧ x = nI k ∧ q_nt x = k := by
  rcases Classical.em (x < nI 1) with h | h
  · exact Or.inl ⟨if_neg (fun z => absurd h (Int32.not_lt.mpr z.1)), Or.inl h⟩
  · rcases Classical.em (nI 16 ≤ x) with h2 | h2
    · exact Or.inl ⟨if_neg (fun z => absurd h2 (Int32.not_le.mpr z.2)), Or.inr h2⟩
    · obtain ⟨j, j1, rfl⟩ := nI_of (x := x) (fun z => h (Int32.lt_trans z (by decide)))
      rw [nI_ltI j1 (by omega)] at h
      rw [nI_leI (by omega) j1] at h2
      exact Or.inr ⟨j, by omega, by omega, rfl, q_nt_n (by omega)⟩
/-- the place that an argument names below an end; the end: none -/
def q_pt (m : Nat) (x : Int32) : Nat := if nI 0 ≤ x ∧ x < nI m then x.toNatClampNeg else m
theorem q_pt_n {m k : Nat} (h : k < m) (hm : m < 2 ^ 31) : q_pt m (nI k) = k := by
  unfold q_pt
  rw [if_pos ⟨(nI_leI (by omega) (by omega)).mpr (by omega), (nI_ltI (by omega) (by omega)).mpr h⟩, nI_clamp (by omega)]
theorem q_pt_c {m : Nat} (hm : m < 2 ^ 31) (x : Int32) : (q_pt m x = m ∧ (x < nI 0 ∨ (¬ x < nI 0 ∧ ¬ x < nI m))) ∨ ∃ k, k < m ∧ x = nI k ∧ q_pt m x = k := by
  rcases Classical.em (x < nI 0) with h | h
  · exact Or.inl ⟨if_neg (fun z => absurd h (Int32.not_lt.mpr z.1)), Or.inl h⟩
  · rcases Classical.em (x < nI m) with h2 | h2
    · obtain ⟨j, j1, rfl⟩ := nI_of (x := x) h
      rw [nI_ltI j1 hm] at h2
      exact Or.inr ⟨j, h2, rfl, q_pt_n h2 hm⟩
    · exact Or.inl ⟨if_neg (fun z => absurd z.2 h2), Or.inr ⟨h, h2⟩⟩
section Rq
variable {n wv : Nat} {sp : Nat → Bool} {w : pW}
theorem q_exi (h : q_C n wv sp w) (x : Int32) : p_ev none 32 0 [.ref 1, .int x] [] w = some (.inl (some (.int (nI (q_ex sp (q_nt x)).toNat))), w, 0) := by
  rcases q_nt_c x with ⟨h1, h2⟩ | ⟨k, h1, h2, rfl, h3⟩
  · rw [h1]; exact q_exists_x h2
  · rw [h3]; exact q_exists h h1 h2
theorem q_reqNode (h : q_C n wv sp w) (x : Int32) : p_ev none 71 0 [.ref 0, .int x] [] w = if q_ex sp (q_nt x) = true then some (.inl none, w, 0) else some (.inr (.inl 2), w, 1) := by
  cases hx : q_ex sp (q_nt x)
  · (conv => lhs; simp (disch := first | assumption | omega | (rw [nI_leI] <;> omega) | (rw [nI_ltI] <;> omega) | (rw [nI_eq] <;> omega) | (apply q_out <;> omega) | (apply q_nb; omega) | (apply q_n0 <;> omega)) only [M71, q_exi h x, hx, Bool.toNat_false, ↓if_pos, ↓if_neg, nI_add, q_sub, q_cl, p_bnd_s, p_bnd_v]); rfl
  · have e : ¬ nI 1 = nI 0 := by decide
    (conv => lhs; simp (disch := first | assumption | omega | (rw [nI_leI] <;> omega) | (rw [nI_ltI] <;> omega) | (rw [nI_eq] <;> omega) | (apply q_out <;> omega) | (apply q_nb; omega) | (apply q_n0 <;> omega)) only [M71, q_exi h x, hx, Bool.toNat_true, ↓if_pos, ↓if_neg, nI_add, q_sub, q_cl, p_bnd_s, p_bnd_v]); rfl
theorem q_reqLeaf (h : q_C n wv sp w) {k : Nat} (hk : k < 2 ^ 31) : p_ev none 72 0 [.ref 0, .int (nI k)] [] w = if sp k = true then some (.inr (.inl 1), w, 1) else some (.inl none, w, 0) := by
  cases hx : sp k
  · (conv => lhs; simp (disch := first | assumption | omega | (rw [nI_leI] <;> omega) | (rw [nI_ltI] <;> omega) | (rw [nI_eq] <;> omega) | (apply q_out <;> omega) | (apply q_nb; omega) | (apply q_n0 <;> omega)) only [M72, q_hasChildren h hk, hx, Bool.toNat_false, ↓if_pos, ↓if_neg, nI_add, q_sub, q_cl, p_bnd_s, p_bnd_v]); rfl
  · have e : ¬ nI 1 = nI 0 := by decide
    (conv => lhs; simp (disch := first | assumption | omega | (rw [nI_leI] <;> omega) | (rw [nI_ltI] <;> omega) | (rw [nI_eq] <;> omega) | (apply q_out <;> omega) | (apply q_nb; omega) | (apply q_n0 <;> omega)) only [M72, q_hasChildren h hk, hx, Bool.toNat_true, ↓if_pos, ↓if_neg, nI_add, q_sub, q_cl, p_bnd_s, p_bnd_v]); rfl
theorem q_reqRoot (h : q_C n wv sp w) : p_ev none 73 0 [.ref 0] [] w = if sp 1 = true then some (.inr (.inl 1), w, 1) else some (.inl none, w, 0) := by
  have h1 : (1 : Nat) < 2 ^ 31 := by decide
  cases hx : sp 1
  · (conv => lhs; simp (disch := first | assumption | omega | (rw [nI_leI] <;> omega) | (rw [nI_ltI] <;> omega) | (rw [nI_eq] <;> omega) | (apply q_out <;> omega) | (apply q_nb; omega) | (apply q_n0 <;> omega)) only [M73, q_hasChildren h h1, hx, Bool.toNat_false, ↓if_pos, ↓if_neg, nI_add, q_sub, q_cl, p_bnd_s, p_bnd_v]); rfl
  · have e : ¬ nI 1 = nI 0 := by decide
    (conv => lhs; simp (disch := first | assumption | omega | (rw [nI_leI] <;> omega) | (rw [nI_ltI] <;> omega) | (rw [nI_eq] <;> omega) | (apply q_out <;> omega) | (apply q_nb; omega) | (apply q_n0 <;> omega)) only [M73, q_hasChildren h h1, hx, Bool.toNat_true, ↓if_pos, ↓if_neg, nI_add, q_sub, q_cl, p_bnd_s, p_bnd_v]); rfl
theorem q_reqBelow {m : Nat} (hm : m < 2 ^ 31) (x : Int32) : p_ev none 76 0 [.ref 0, .int x, .int (nI m)] [] w = if q_pt m x < m then some (.inl none, w, 0) else some (.inr (.inl 2), w, 1) := by
  rcases q_pt_c hm x with ⟨h1, h2 | ⟨h2, h3⟩⟩ | ⟨k, h1, rfl, h3⟩
  · rw [h1, if_neg (Nat.lt_irrefl m)]
    (conv => lhs; simp (disch := first | assumption | omega | (rw [nI_leI] <;> omega) | (rw [nI_ltI] <;> omega) | (rw [nI_eq] <;> omega) | (apply q_out <;> omega) | (apply q_nb; omega) | (apply q_n0 <;> omega)) only [M76, ↓if_pos, ↓if_neg, nI_add, q_sub, q_cl, p_bnd_s, p_bnd_v])
  · rw [h1, if_neg (Nat.lt_irrefl m)]
    (conv => lhs; simp (disch := first | assumption | omega | (rw [nI_leI] <;> omega) | (rw [nI_ltI] <;> omega) | (rw [nI_eq] <;> omega) | (apply q_out <;> omega) | (apply q_nb; omega) | (apply q_n0 <;> omega)) only [M76, ↓if_pos, ↓if_neg, nI_add, q_sub, q_cl, p_bnd_s, p_bnd_v])
  · rw [h3, if_pos h1]
    have h4 : ¬ nI k < nI 0 := by rw [nI_ltI (by omega) (by omega)]; omega
    (conv => lhs; simp (disch := first | assumption | omega | (rw [nI_leI] <;> omega) | (rw [nI_ltI] <;> omega) | (rw [nI_eq] <;> omega) | (apply q_out <;> omega) | (apply q_nb; omega) | (apply q_n0 <;> omega)) only [M76, ↓if_pos, ↓if_neg, nI_add, q_sub, q_cl, p_bnd_s, p_bnd_v])
theorem q_reqPlace (h : q_C n wv sp w) (x : Int32) : p_ev none 75 0 [.ref 0, .int x] [] w = if q_pt n x < n then some (.inl none, w, 0) else some (.inr (.inl 2), w, 1) := by
  have hn : n < 2 ^ 31 := by have := h.2.2.1; omega
  by_cases hx : q_pt n x < n
  · (conv => lhs; simp (disch := first | assumption | omega | (rw [nI_leI] <;> omega) | (rw [nI_ltI] <;> omega) | (rw [nI_eq] <;> omega) | (apply q_out <;> omega) | (apply q_nb; omega) | (apply q_n0 <;> omega)) only [M75, q_width h, q_reqBelow hn x, ↓if_pos, ↓if_neg, nI_add, q_sub, q_cl, p_bnd_s, p_bnd_v])
    rw [if_pos hx]
  · (conv => lhs; simp (disch := first | assumption | omega | (rw [nI_leI] <;> omega) | (rw [nI_ltI] <;> omega) | (rw [nI_eq] <;> omega) | (apply q_out <;> omega) | (apply q_nb; omega) | (apply q_n0 <;> omega)) only [M75, q_width h, q_reqBelow hn x, ↓if_pos, ↓if_neg, nI_add, q_sub, q_cl, p_bnd_s, p_bnd_v])
    rw [if_neg hx]
    exact p_bnd_x (by decide +kernel) (by decide +kernel)
end Rq
