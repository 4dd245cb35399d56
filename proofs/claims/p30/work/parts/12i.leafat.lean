/-! THE CLASS: WHICH LEAF STANDS WHERE -/
/-- the leaf over place p, from node nd down, at most f levels -/
def q_lo (n : Nat) (sp : Nat → Bool) (p : Nat) : Nat → Nat → Nat
  | 0, nd => nd
  | f + 1, nd => if sp nd = true then q_lo n sp p f (if p < q_so n (2 * nd + 1) then 2 * nd else 2 * nd + 1) else nd
/-- the place behind the first m leaves -/
def q_lp (n : Nat) (sp : Nat → Bool) : Nat → Nat
  | 0 => 0
  | m + 1 => q_lp n sp m + q_wd n (q_lo n sp (q_lp n sp m) 3 1)
def q_lc (sp : Nat → Bool) : Nat := 1 + ((List.range 7).map (fun i => (sp (1 + i)).toNat)).sum
theorem q_lc_le {sp : Nat → Bool} : q_lc sp ≤ 8 := by
  have h1 := Bool.toNat_le (sp (1 + 0)); have h2 := Bool.toNat_le (sp (1 + 1)); have h3 := Bool.toNat_le (sp (1 + 2)); have h4 := Bool.toNat_le (sp (1 + 3))
  have h5 := Bool.toNat_le (sp (1 + 4)); have h6 := Bool.toNat_le (sp (1 + 5)); have h7 := Bool.toNat_le (sp (1 + 6))
  have e : ((List.range 7).map (fun i => (sp (1 + i)).toNat)).sum = (sp (1 + 0)).toNat + ((sp (1 + 1)).toNat + ((sp (1 + 2)).toNat + ((sp (1 + 3)).toNat + ((sp (1 + 4)).toNat + ((sp (1 + 5)).toNat + ((sp (1 + 6)).toNat + 0)))))) := rfl
  unfold q_lc
  rw [e]; omega
theorem q_lp_le {n : Nat} {sp : Nat → Bool} : ∀ m, q_lp n sp m ≤ n * m
  | 0 => Nat.le_refl 0
  | m + 1 => by have := q_lp_le (n := n) (sp := sp) m; have := q_wdle n (q_lo n sp (q_lp n sp m) 3 1); rw [q_lp, Nat.mul_succ]; omega
theorem q_lo_b {n : Nat} {sp : Nat → Bool} {p : Nat} : ∀ (f l nd : Nat), l + f = 3 → 1 ≤ nd → nd < 2 ^ (l + 1) → 1 ≤ q_lo n sp p f nd ∧ q_lo n sp p f nd < 16
  | 0, l, nd, h, h1, h2 => by
    obtain rfl : l = 3 := by omega
    exact ⟨h1, h2⟩
  | f + 1, l, nd, h, h1, h2 => by
    have e : 2 ^ (l + 1 + 1) = 2 * 2 ^ (l + 1) := by rw [Nat.pow_succ, Nat.mul_comm]
    have e2 : 2 ^ (l + 1) ≤ 2 ^ 4 := Nat.pow_le_pow_right (by decide) (by omega)
    rw [q_lo]
    by_cases hs : sp nd = true
    · rw [if_pos hs]
      by_cases hp : p < q_so n (2 * nd + 1)
      · rw [if_pos hp]; exact q_lo_b f (l + 1) (2 * nd) (by omega) (by omega) (by omega)
      · rw [if_neg hp]; exact q_lo_b f (l + 1) (2 * nd + 1) (by omega) (by omega) (by omega)
    · rw [if_neg hs]; exact ⟨h1, by omega⟩
section La
variable {n wv : Nat} {sp : Nat → Bool} {x : Nat → Int64} {w : pW}
theorem q_over_l (h : q_C n wv sp w) (hT : q_T n sp) {p : Nat} (hp : p < 2 ^ 31) : ∀ (f l nd : Nat) (z4 : Value), l + f = 3 → 1 ≤ nd → nd < 2 ^ (l + 1) → p_ev none 41 4 [.ref 1, .int (nI p), .int (nI nd), .int (nI l), z4] [] w = some (.inl (some (.int (nI (q_lo n sp p f nd)))), w, 0) := by
  have hn := hT.n32
  intro f
  induction f with
  | zero =>
    intro l nd z4 hl h1 h2
    obtain rfl : l = 3 := by omega
    rw [H41_4]
    (conv => lhs; simp (disch := first | assumption | omega | (rw [nI_leI] <;> omega) | (rw [nI_ltI] <;> omega) | (rw [nI_eq] <;> omega) | (apply q_out <;> omega) | (apply q_nb; omega) | (apply q_n0 <;> omega)) only [M41, ↓if_pos, ↓if_neg, nI_add, q_sub, q_cl, p_bnd_s, p_bnd_v])
    rfl
  | succ f ih =>
    intro l nd z4 hl h1 h2
    have e : 2 ^ (l + 1 + 1) = 2 * 2 ^ (l + 1) := by rw [Nat.pow_succ, Nat.mul_comm]
    have e2 : 2 ^ (l + 1) ≤ 2 ^ 3 := Nat.pow_le_pow_right (by decide) (by omega)
    have h3 : nd < 2 ^ 31 := by omega
    have e1 : ¬ nI 1 = nI 0 := by decide
    have hg := q_geo0 (2 * nd + 1) (by omega) (by omega) n hT.1
    rw [H41_4]
    rw [q_lo]
    cases hs : sp nd
    · rw [if_neg Bool.false_ne_true]
      (conv => lhs; simp (disch := first | assumption | omega | (rw [nI_leI] <;> omega) | (rw [nI_ltI] <;> omega) | (rw [nI_eq] <;> omega) | (apply q_out <;> omega) | (apply q_nb; omega) | (apply q_n0 <;> omega)) only [M41, q_hasChildren h, hs, Bool.toNat_false, ↓if_pos, ↓if_neg, nI_add, q_sub, q_cl, p_bnd_s, p_bnd_v])
    · rw [if_pos rfl]
      by_cases hq : p < q_so n (2 * nd + 1)
      · rw [if_pos hq]
        (conv => lhs; simp (disch := first | assumption | omega | (rw [nI_leI] <;> omega) | (rw [nI_ltI] <;> omega) | (rw [nI_eq] <;> omega) | (apply q_out <;> omega) | (apply q_nb; omega) | (apply q_n0 <;> omega)) only [M41, q_hasChildren h, hs, Bool.toNat_true, pk_mul, q_startOf h, ↓if_pos, ↓if_neg, nI_add, q_sub, q_cl, p_bnd_s, p_bnd_v])
        exact ih (l + 1) (2 * nd) _ (by omega) (by omega) (by omega)
      · rw [if_neg hq]
        (conv => lhs; simp (disch := first | assumption | omega | (rw [nI_leI] <;> omega) | (rw [nI_ltI] <;> omega) | (rw [nI_eq] <;> omega) | (apply q_out <;> omega) | (apply q_nb; omega) | (apply q_n0 <;> omega)) only [M41, q_hasChildren h, hs, Bool.toNat_true, pk_mul, q_startOf h, ↓if_pos, ↓if_neg, nI_add, q_sub, q_cl, p_bnd_s, p_bnd_v])
        exact ih (l + 1) (2 * nd + 1) _ (by omega) (by omega) (by omega)
theorem q_leafOver (h : q_C n wv sp w) (hT : q_T n sp) {p : Nat} (hp : p < 2 ^ 31) : p_ev none 41 0 [.ref 1, .int (nI p), p_U, p_U, p_U] [] w = some (.inl (some (.int (nI (q_lo n sp p 3 1)))), w, 0) := by
  (conv => lhs; simp (disch := first | assumption | omega | (rw [nI_leI] <;> omega) | (rw [nI_ltI] <;> omega) | (rw [nI_eq] <;> omega) | (apply q_out <;> omega) | (apply q_nb; omega) | (apply q_n0 <;> omega)) only [M41, ↓if_pos, ↓if_neg, nI_add, q_sub, q_cl, p_bnd_s, p_bnd_v])
  exact q_over_l h hT hp 3 0 1 _ rfl (Nat.le_refl 1) (by decide)
theorem q_leafAt_l (h : q_C n wv sp w) (hT : q_T n sp) {m : Nat} (hm : m ≤ 8) : ∀ (d i : Nat), i + d = m → p_ev none 54 29 [.ref 0, .int (nI m), .int (nI (q_lp n sp i)), .int (nI i)] [] w = some (.inl (some (.int (nI (q_lo n sp (q_lp n sp m) 3 1)))), w, 0) := by
  have hn := hT.n32
  intro d
  induction d with
  | zero =>
    intro i hi
    obtain rfl : i = m := by omega
    have hl := q_lp_le (n := n) (sp := sp) i
    have hl2 : n * i ≤ 32 * 8 := Nat.mul_le_mul hn hm
    rw [H54_29]
    (conv => lhs; simp (disch := first | assumption | omega | (rw [nI_leI] <;> omega) | (rw [nI_ltI] <;> omega) | (rw [nI_eq] <;> omega) | (apply q_out <;> omega) | (apply q_nb; omega) | (apply q_n0 <;> omega)) only [M54, q_leafOver h hT, ↓if_pos, ↓if_neg, nI_add, q_sub, q_cl, p_bnd_s, p_bnd_v])
  | succ d ih =>
    intro i hi
    have hl := q_lp_le (n := n) (sp := sp) i
    have hl2 : n * i ≤ 32 * 8 := Nat.mul_le_mul hn (by omega)
    have hb := q_lo_b (n := n) (sp := sp) (p := q_lp n sp i) 3 0 1 rfl (Nat.le_refl 1) (by decide)
    rw [H54_29]
    (conv => lhs; simp (disch := first | assumption | omega | (rw [nI_leI] <;> omega) | (rw [nI_ltI] <;> omega) | (rw [nI_eq] <;> omega) | (apply q_out <;> omega) | (apply q_nb; omega) | (apply q_n0 <;> omega)) only [M54, q_leafOver h hT, q_widthOf h, ↓if_pos, ↓if_neg, nI_add, q_sub, q_cl, p_bnd_s, p_bnd_v])
    exact ih (i + 1) (by omega)
theorem q_cLeafAt (h : q_K n wv sp x w) (a : Int32) : p_ev none 54 0 [.ref 0, .int a, p_U, p_U] [] w = if q_pt (q_lc sp) a < q_lc sp then some (.inl (some (.int (nI (q_lo n sp (q_lp n sp (q_pt (q_lc sp) a)) 3 1)))), w, 0) else some (.inr (.inl 2), w, 1) := by
  have hc := q_lc_le (sp := sp)
  have hlc : p_ev none 42 0 [.ref 1, p_U, p_U] [] w = some (.inl (some (.int (nI (q_lc sp)))), w, 0) := q_leafCount h.1
  rcases q_pt_c (m := q_lc sp) (by omega) a with ⟨h1, h2 | ⟨h2, h3⟩⟩ | ⟨k, h1, rfl, h3⟩
  · rw [h1, if_neg (Nat.lt_irrefl _)]
    (conv => lhs; simp (disch := first | assumption | omega | (rw [nI_leI] <;> omega) | (rw [nI_ltI] <;> omega) | (rw [nI_eq] <;> omega) | (apply q_out <;> omega) | (apply q_nb; omega) | (apply q_n0 <;> omega)) only [M54, ↓if_pos, ↓if_neg, nI_add, q_sub, q_cl, p_bnd_s, p_bnd_v])
  · rw [h1, if_neg (Nat.lt_irrefl _)]
    (conv => lhs; simp (disch := first | assumption | omega | (rw [nI_leI] <;> omega) | (rw [nI_ltI] <;> omega) | (rw [nI_eq] <;> omega) | (apply q_out <;> omega) | (apply q_nb; omega) | (apply q_n0 <;> omega)) only [M54, hlc, ↓if_pos, ↓if_neg, nI_add, q_sub, q_cl, p_bnd_s, p_bnd_v])
  · rw [h3, if_pos h1]
    have h4 : ¬ nI k < nI 0 := by rw [nI_ltI (by omega) (by omega)]; omega
    (conv => lhs; simp (disch := first | assumption | omega | (rw [nI_leI] <;> omega) | (rw [nI_ltI] <;> omega) | (rw [nI_eq] <;> omega) | (apply q_out <;> omega) | (apply q_nb; omega) | (apply q_n0 <;> omega)) only [M54, hlc, ↓if_pos, ↓if_neg, nI_add, q_sub, q_cl, p_bnd_s, p_bnd_v])
    exact q_leafAt_l h.1 h.2.1 (by omega) k 0 (by omega)
end La
