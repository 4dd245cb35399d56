/-! THE CODE: HOW FAR THE DESCENDANTS REACH -/
/-- the greatest size of the first k -/
def q_mx (x : Nat → Int64) : Nat → Int64
  | 0 => lN 0
  | k + 1 => p_max (q_mx x k) (p_abs (x k))
/-- places below k, from the last one down to lo, tell their parents -/
def q_rd (lo : Nat) : Nat → (Nat → Int64) → (Nat → Int64)
  | 0, R => R
  | k + 1, R => if lo ≤ k then q_rd lo k (fun j => if j = q_pa lo k then p_max (R (q_pa lo k)) (R k) else R j) else R
def q_ab (x R : Nat → Int64) (n : Nat) : Nat → Int64 := fun j => if j < n then p_abs (x j) else R j
section Re
variable {n lo : Nat} {x : Nat → Int64}
theorem q_reach1 (hn : n ≤ 32) (hn1 : 1 ≤ n) : ∀ (d k : Nat) (w : pW), k + d = n → w.1 3 6 = nI n → w.2.1 16 = x → p_ev none 6 4 [.ref 3, .long (q_mx x k), p_U, .int (nI k), p_U] [] w = p_ev none 6 54 [.ref 3, .long (q_mx x n), p_U, .int (nI (n - 1)), p_U] [] (w.1, q_r w.2.1 17 (fun j => if k ≤ j ∧ j < n then p_abs (x j) else w.2.1 17 j), w.2.2) := by
  have h9 : p_rw 9 := ⟨rfl, rfl⟩
  have h10 : p_rw 10 := ⟨rfl, rfl⟩
  intro d
  induction d with
  | zero =>
    intro k w hk hn6 hx
    have e : k = n := by omega
    subst e
    have e2 : (fun j => if k ≤ j ∧ j < k then p_abs (x j) else w.2.1 17 j) = w.2.1 17 := by
      funext j; rw [if_neg (by omega)]
    rw [e2, q_r_id, H6_4]
    (conv => lhs; simp (disch := first | assumption | omega | (rw [nI_leI] <;> omega) | (rw [nI_ltI] <;> omega) | (rw [nI_eq] <;> omega) | (apply q_out <;> omega) | (apply q_nb; omega) | (apply q_n0 <;> omega)) only [M6, hn6, ↓if_pos, ↓if_neg, nI_add, q_sub, q_cl, p_bnd_s, p_bnd_v])
  | succ d ih =>
    intro k w hk hn6 hx
    have e16 : w.2.1 16 k = x k := by rw [hx]
    rw [H6_4]
    have hS := q_set (k := k) (v := p_abs (x k)) (w := w) h10 (by omega)
    have hM := q_mag (k := k) (w := (w.1, q_r w.2.1 (10 + 7) (fun j => if j = k then p_abs (x k) else w.2.1 (10 + 7) j), w.2.2)) h9 (by omega)
    have hM0 := q_mag (k := k) (w := w) h9 (by omega)
    simp only [Nat.reduceAdd] at hS hM hM0
    rw [e16] at hM0
    have e16b : q_r w.2.1 17 (fun j => if j = k then p_abs (x k) else w.2.1 17 j) 16 k = x k := by rw [q_r_n (by decide)]; exact e16
    rw [e16b] at hM
    have e16c : q_r w.2.1 17 (fun j => if j = k then p_abs (x k) else w.2.1 17 j) 16 = x := by rw [q_r_n (by decide)]; exact hx
    have i1 := ih (k + 1) (w.1, q_r w.2.1 17 (fun j => if j = k then p_abs (x k) else w.2.1 17 j), w.2.2) (by omega) hn6 e16c
    (conv => lhs; simp (disch := first | assumption | omega | (rw [nI_leI] <;> omega) | (rw [nI_ltI] <;> omega) | (rw [nI_eq] <;> omega) | (apply q_out <;> omega) | (apply q_nb; omega) | (apply q_n0 <;> omega)) only [M6, hn6, hM0, hS, hM, ↓if_pos, ↓if_neg, nI_add, q_sub, q_cl, p_bnd_s, p_bnd_v])
    rw [q_mx] at i1
    simp only [q_r_s, q_r_r] at i1
    rw [i1]
    refine congrArg (p_ev none 6 54 _ []) ?_
    refine congrArg (fun z => (w.1, z, w.2.2)) ?_
    refine congrArg (q_r w.2.1 17) ?_
    funext j
    by_cases h1 : j = k
    · subst h1; rw [if_neg (by omega), if_pos rfl, if_pos (by omega)]
    · by_cases h2 : k + 1 ≤ j ∧ j < n
      · rw [if_pos h2, if_pos (by omega)]
      · rw [if_neg h2, if_neg h1, if_neg (by omega)]
theorem q_reach2 (h1 : 1 ≤ lo) (hlo : lo ≤ 32) {y : Int64} : ∀ (k : Nat) (w : pW) (z4 : Value), k ≤ 32 → lo ≤ k → q_W n lo w → p_ev none 6 54 [.ref 3, .long y, p_U, .int (nI (k - 1)), z4] [] w = some (.inl (some (.long y)), (w.1, q_r w.2.1 17 (q_rd lo k (w.2.1 17)), w.2.2), 0) := by
  have h10 : p_rw 10 := ⟨rfl, rfl⟩
  intro k
  induction k with
  | zero => intro w z4 hk hl hW; omega
  | succ k ih =>
    intro w z4 hk hl hW
    rw [Nat.add_sub_cancel, H6_54, q_rd]
    by_cases hc : lo ≤ k
    · rw [if_pos hc]
      have hp : q_pa lo k < 32 := q_pa_le (by omega)
      have hpar := q_parentOf hW (show lo < 2 ^ 20 by omega) (show k < 2 ^ 20 by omega) hc
      have hG1 := q_get (k := q_pa lo k) (w := w) h10 hp
      have hG2 := q_get (k := k) (w := w) h10 (by omega)
      have hS := q_set (k := q_pa lo k) (v := p_max (w.2.1 17 (q_pa lo k)) (w.2.1 17 k)) (w := w) h10 hp
      simp only [Nat.reduceAdd] at hG1 hG2 hS
      have i1 := ih (w.1, q_r w.2.1 17 (fun j => if j = q_pa lo k then p_max (w.2.1 17 (q_pa lo k)) (w.2.1 17 k) else w.2.1 17 j), w.2.2) (.int (nI (q_pa lo k))) (by omega) hc ⟨hW.1, hW.2⟩
      (conv => lhs; simp (disch := first | assumption | omega | (rw [nI_leI] <;> omega) | (rw [nI_ltI] <;> omega) | (rw [nI_eq] <;> omega) | (apply q_out <;> omega) | (apply q_nb; omega) | (apply q_n0 <;> omega)) only [M6, hW.2, hpar, hG1, hG2, hS, q_m1, ↓if_pos, ↓if_neg, nI_add, q_sub, q_cl, p_bnd_s, p_bnd_v])
      simp only [q_r_s, q_r_r] at i1
      exact i1
    · rw [if_neg hc, q_r_id]
      (conv => lhs; simp (disch := first | assumption | omega | (rw [nI_leI] <;> omega) | (rw [nI_ltI] <;> omega) | (rw [nI_eq] <;> omega) | (apply q_out <;> omega) | (apply q_nb; omega) | (apply q_n0 <;> omega)) only [M6, hW.2, ↓if_pos, ↓if_neg, nI_add, q_sub, q_cl, p_bnd_s, p_bnd_v])
theorem q_reach (hn : n ≤ 32) (h1 : 1 ≤ lo) (hlo : lo ≤ n) {w : pW} (hW : q_W n lo w) (hx : w.2.1 16 = x) : p_ev none 6 0 [.ref 3, p_U, p_U, p_U, p_U] [] w = some (.inl (some (.long (q_mx x n))), (w.1, q_r w.2.1 17 (q_rd lo n (q_ab x (w.2.1 17) n)), w.2.2), 0) := by
  have i1 := q_reach1 hn (by omega) n 0 w (by omega) hW.1 hx
  have e0 : (fun j => if 0 ≤ j ∧ j < n then p_abs (x j) else w.2.1 17 j) = q_ab x (w.2.1 17) n := by
    funext j
    unfold q_ab
    by_cases hj : j < n
    · rw [if_pos ⟨Nat.zero_le j, hj⟩, if_pos hj]
    · rw [if_neg (fun z => hj z.2), if_neg hj]
  rw [e0] at i1
  have i2 := q_reach2 (n := n) (y := q_mx x n) h1 (by omega) n (w.1, q_r w.2.1 17 (q_ab x (w.2.1 17) n), w.2.2) p_U hn hlo ⟨hW.1, hW.2⟩
  simp only [q_r_s, q_r_r] at i2
  (conv => lhs; simp (disch := first | assumption | omega | (rw [nI_leI] <;> omega) | (rw [nI_ltI] <;> omega) | (rw [nI_eq] <;> omega) | (apply q_out <;> omega) | (apply q_nb; omega) | (apply q_n0 <;> omega)) only [M6, ↓if_pos, ↓if_neg, nI_add, q_sub, q_cl, p_bnd_s, p_bnd_v])
  refine Eq.trans i1 ?_
  exact i2
end Re
