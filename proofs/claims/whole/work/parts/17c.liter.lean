/-! ONE ROUND OF THE LAW'S LOOP -/
section Li
variable {N : Nat} {xs : Nat → Int32} {i : Nat} {S : q_AS} {w : pW} {z5 z6 z7 : Value}
theorem q_it0 {t : Nat} {v : Int64} {b : Int32} (ht : t < 4) (hi : 4 * i + 3 < N) (hN : N < 2 ^ 31) (hop : xs (4 * i) &&& nI 31 = nI 0) (hW : q_Wr w S (p_ev none 163 0 [.ref 0, .int (xs (4 * i + 1)), .ref 23, p_U] [] w) t v) (hM : ∀ w1, q_FW w w1 → q_MRi w1 S (p_ev none 103 0 [.ref 24, .int (xs (4 * i + 1)), p_U, p_U] [] w1) t (b)) (hv : t = 0 → v = b.toInt64) : q_IT i S (p_ev (some (N, xs)) 186 23 [.ref 999, .ref 0, .ref 24, .ref 23, .int (nI (4 * i)), z5, z6, z7] [] w) := by
  obtain ⟨w1, c, a1, a2, a3, a4, a5⟩ := hW
  obtain ⟨w2, b2, m1, m2, m3, m4, m5⟩ := hM w1 a4
  refine ⟨w2, .int (nI t), .int b2, z7, c, ?_, a2, a3.fm m4, m2⟩
  have hne : ¬ nI N - nI 4 < nI (4 * i) := by rw [q_sub (by omega), nI_ltI (by omega) (by omega)]; omega
  have hth := q_mThrown m3
  rw [H186_23]
  (conv => lhs; simp (disch := first | assumption | omega | (rw [nI_leI] <;> omega) | (rw [nI_ltI] <;> omega) | (rw [nI_eq] <;> omega) | (apply q_out <;> omega) | (apply q_nb; omega) | (apply q_n0 <;> omega)) only [M186, hop, M186_0, a1, ↓if_pos, ↓if_neg, nI_add, q_sub, q_cl, p_bnd_s, p_bnd_v])
  rw [q_bnd_c]
  refine q_bnd_m ?_
  (conv => lhs; simp (disch := first | assumption | omega | (rw [nI_leI] <;> omega) | (rw [nI_ltI] <;> omega) | (rw [nI_eq] <;> omega) | (apply q_out <;> omega) | (apply q_nb; omega) | (apply q_n0 <;> omega)) only [M186_0, m1, hth, ↓if_pos, ↓if_neg, nI_add, q_sub, q_cl, p_bnd_s, p_bnd_v])
  by_cases h0 : t = 0
  · subst h0
    have e00 : ¬ ¬ nI 0 = nI 0 := by decide
    have hb := m5 rfl
    subst hb
    have e23 : w2.2.1 23 0 = v := by rw [m4.2.1 23 (by decide)]; exact a5 rfl
    rw [hv rfl] at e23
    have hc : lg_cmp b2.toInt64 b2.toInt64 = nI 0 := q_cmp0.mpr rfl
    (conv => lhs; simp (disch := first | assumption | omega | (rw [nI_leI] <;> omega) | (rw [nI_ltI] <;> omega) | (rw [nI_eq] <;> omega) | (apply q_out <;> omega) | (apply q_nb; omega) | (apply q_n0 <;> omega)) only [M186_0, e23, M186_e, ↓if_pos, ↓if_neg, nI_add, q_sub, q_cl, p_bnd_s, p_bnd_v])
  · have h1 : ¬ nI t = nI 0 := by rw [nI_eq (by omega) (by omega)]; exact h0
    (conv => lhs; simp (disch := first | assumption | omega | (rw [nI_leI] <;> omega) | (rw [nI_ltI] <;> omega) | (rw [nI_eq] <;> omega) | (apply q_out <;> omega) | (apply q_nb; omega) | (apply q_n0 <;> omega)) only [M186_0, M186_e, ↓if_pos, ↓if_neg, nI_add, q_sub, q_cl, p_bnd_s, p_bnd_v])
theorem q_it1 {t : Nat} {v : Int64} {b : Int64} (ht : t < 4) (hi : 4 * i + 3 < N) (hN : N < 2 ^ 31) (hop : xs (4 * i) &&& nI 31 = nI 1) (hW : q_Wr w S (p_ev none 164 0 [.ref 0, .int (xs (4 * i + 1)), .int (xs (4 * i + 2)), .ref 23, p_U] [] w) t v) (hM : ∀ w1, q_FW w w1 → q_MRl w1 S (p_ev none 104 0 [.ref 24, .int (xs (4 * i + 1)), .int (xs (4 * i + 2)), p_U, p_U] [] w1) t (b)) (hv : t = 0 → v = b) : q_IT i S (p_ev (some (N, xs)) 186 23 [.ref 999, .ref 0, .ref 24, .ref 23, .int (nI (4 * i)), z5, z6, z7] [] w) := by
  obtain ⟨w1, c, a1, a2, a3, a4, a5⟩ := hW
  obtain ⟨w2, b2, m1, m2, m3, m4, m5⟩ := hM w1 a4
  refine ⟨w2, .int (nI t), .long b2, p_U, c, ?_, a2, a3.fm m4, m2⟩
  have hne : ¬ nI N - nI 4 < nI (4 * i) := by rw [q_sub (by omega), nI_ltI (by omega) (by omega)]; omega
  have hth := q_mThrown m3
  rw [H186_23]
  (conv => lhs; simp (disch := first | assumption | omega | (rw [nI_leI] <;> omega) | (rw [nI_ltI] <;> omega) | (rw [nI_eq] <;> omega) | (apply q_out <;> omega) | (apply q_nb; omega) | (apply q_n0 <;> omega)) only [M186, hop, M186_1, a1, ↓if_pos, ↓if_neg, nI_add, q_sub, q_cl, p_bnd_s, p_bnd_v])
  rw [q_bnd_c]
  refine q_bnd_m ?_
  (conv => lhs; simp (disch := first | assumption | omega | (rw [nI_leI] <;> omega) | (rw [nI_ltI] <;> omega) | (rw [nI_eq] <;> omega) | (apply q_out <;> omega) | (apply q_nb; omega) | (apply q_n0 <;> omega)) only [M186_1, m1, hth, ↓if_pos, ↓if_neg, nI_add, q_sub, q_cl, p_bnd_s, p_bnd_v])
  by_cases h0 : t = 0
  · subst h0
    have e00 : ¬ ¬ nI 0 = nI 0 := by decide
    have hb := m5 rfl
    subst hb
    have e23 : w2.2.1 23 0 = v := by rw [m4.2.1 23 (by decide)]; exact a5 rfl
    rw [hv rfl] at e23
    have hc : lg_cmp b2 b2 = nI 0 := q_cmp0.mpr rfl
    (conv => lhs; simp (disch := first | assumption | omega | (rw [nI_leI] <;> omega) | (rw [nI_ltI] <;> omega) | (rw [nI_eq] <;> omega) | (apply q_out <;> omega) | (apply q_nb; omega) | (apply q_n0 <;> omega)) only [M186_1, e23, M186_e, ↓if_pos, ↓if_neg, nI_add, q_sub, q_cl, p_bnd_s, p_bnd_v])
  · have h1 : ¬ nI t = nI 0 := by rw [nI_eq (by omega) (by omega)]; exact h0
    (conv => lhs; simp (disch := first | assumption | omega | (rw [nI_leI] <;> omega) | (rw [nI_ltI] <;> omega) | (rw [nI_eq] <;> omega) | (apply q_out <;> omega) | (apply q_nb; omega) | (apply q_n0 <;> omega)) only [M186_1, M186_e, ↓if_pos, ↓if_neg, nI_add, q_sub, q_cl, p_bnd_s, p_bnd_v])
theorem q_it2 {t : Nat} {v : Int64} {b : Int64} (ht : t < 4) (hi : 4 * i + 3 < N) (hN : N < 2 ^ 31) (hop : xs (4 * i) &&& nI 31 = nI 2) (hW : q_Wr w S (p_ev none 165 0 [.ref 0, .int (xs (4 * i + 1)), .ref 23, p_U] [] w) t v) (hM : ∀ w1, q_FW w w1 → q_MRl w1 S (p_ev none 114 0 [.ref 24, .int (xs (4 * i + 1))] [] w1) t (b)) (hv : t = 0 → v = b) : q_IT i S (p_ev (some (N, xs)) 186 23 [.ref 999, .ref 0, .ref 24, .ref 23, .int (nI (4 * i)), z5, z6, z7] [] w) := by
  obtain ⟨w1, c, a1, a2, a3, a4, a5⟩ := hW
  obtain ⟨w2, b2, m1, m2, m3, m4, m5⟩ := hM w1 a4
  refine ⟨w2, .int (nI t), .long b2, p_U, c, ?_, a2, a3.fm m4, m2⟩
  have hne : ¬ nI N - nI 4 < nI (4 * i) := by rw [q_sub (by omega), nI_ltI (by omega) (by omega)]; omega
  have hth := q_mThrown m3
  rw [H186_23]
  (conv => lhs; simp (disch := first | assumption | omega | (rw [nI_leI] <;> omega) | (rw [nI_ltI] <;> omega) | (rw [nI_eq] <;> omega) | (apply q_out <;> omega) | (apply q_nb; omega) | (apply q_n0 <;> omega)) only [M186, hop, M186_2, a1, ↓if_pos, ↓if_neg, nI_add, q_sub, q_cl, p_bnd_s, p_bnd_v])
  rw [q_bnd_c]
  refine q_bnd_m ?_
  (conv => lhs; simp (disch := first | assumption | omega | (rw [nI_leI] <;> omega) | (rw [nI_ltI] <;> omega) | (rw [nI_eq] <;> omega) | (apply q_out <;> omega) | (apply q_nb; omega) | (apply q_n0 <;> omega)) only [M186_2, m1, hth, ↓if_pos, ↓if_neg, nI_add, q_sub, q_cl, p_bnd_s, p_bnd_v])
  by_cases h0 : t = 0
  · subst h0
    have e00 : ¬ ¬ nI 0 = nI 0 := by decide
    have hb := m5 rfl
    subst hb
    have e23 : w2.2.1 23 0 = v := by rw [m4.2.1 23 (by decide)]; exact a5 rfl
    rw [hv rfl] at e23
    have hc : lg_cmp b2 b2 = nI 0 := q_cmp0.mpr rfl
    (conv => lhs; simp (disch := first | assumption | omega | (rw [nI_leI] <;> omega) | (rw [nI_ltI] <;> omega) | (rw [nI_eq] <;> omega) | (apply q_out <;> omega) | (apply q_nb; omega) | (apply q_n0 <;> omega)) only [M186_2, e23, M186_e, ↓if_pos, ↓if_neg, nI_add, q_sub, q_cl, p_bnd_s, p_bnd_v])
  · have h1 : ¬ nI t = nI 0 := by rw [nI_eq (by omega) (by omega)]; exact h0
    (conv => lhs; simp (disch := first | assumption | omega | (rw [nI_leI] <;> omega) | (rw [nI_ltI] <;> omega) | (rw [nI_eq] <;> omega) | (apply q_out <;> omega) | (apply q_nb; omega) | (apply q_n0 <;> omega)) only [M186_2, M186_e, ↓if_pos, ↓if_neg, nI_add, q_sub, q_cl, p_bnd_s, p_bnd_v])
theorem q_it3 {b : Int32} (hi : 4 * i + 3 < N) (hN : N < 2 ^ 31) (hop : xs (4 * i) &&& nI 31 = nI 3) (hW : p_ev none 47 0 [.ref 0] [] w = some (.inl (some (.int b)), w, 0)) (hK : q_KS S w) (hM : q_MRi w S (p_ev none 115 0 [.ref 24] [] w) 0 b) : q_IT i S (p_ev (some (N, xs)) 186 23 [.ref 999, .ref 0, .ref 24, .ref 23, .int (nI (4 * i)), z5, z6, z7] [] w) := by
  obtain ⟨w2, b2, m1, m2, m3, m4, m5⟩ := hM
  have hb := m5 rfl
  subst hb
  refine ⟨w2, z5, z6, z7, 0, ?_, by decide, hK.fm m4, m2⟩
  have hne : ¬ nI N - nI 4 < nI (4 * i) := by rw [q_sub (by omega), nI_ltI (by omega) (by omega)]; omega
  rw [H186_23]
  (conv => lhs; simp (disch := first | assumption | omega | (rw [nI_leI] <;> omega) | (rw [nI_ltI] <;> omega) | (rw [nI_eq] <;> omega) | (apply q_out <;> omega) | (apply q_nb; omega) | (apply q_n0 <;> omega)) only [M186, hop, M186_3, hW, m1, M186_e, ↓if_pos, ↓if_neg, nI_add, q_sub, q_cl, p_bnd_s, p_bnd_v])
  rw [if_pos trivial]
theorem q_it4 {t : Nat} {v : Int64} {b : Int32} (ht : t < 4) (hi : 4 * i + 3 < N) (hN : N < 2 ^ 31) (hop : xs (4 * i) &&& nI 31 = nI 4) (hW : q_Wr w S (p_ev none 166 0 [.ref 0, .int (xs (4 * i + 1)), .ref 23, p_U] [] w) t v) (hM : ∀ w1, q_FW w w1 → q_MRi w1 S (p_ev none 116 0 [.ref 24, .int (xs (4 * i + 1)), p_U] [] w1) t (b)) (hv : t = 0 → v = b.toInt64) : q_IT i S (p_ev (some (N, xs)) 186 23 [.ref 999, .ref 0, .ref 24, .ref 23, .int (nI (4 * i)), z5, z6, z7] [] w) := by
  obtain ⟨w1, c, a1, a2, a3, a4, a5⟩ := hW
  obtain ⟨w2, b2, m1, m2, m3, m4, m5⟩ := hM w1 a4
  refine ⟨w2, .int (nI t), .int b2, z7, c, ?_, a2, a3.fm m4, m2⟩
  have hne : ¬ nI N - nI 4 < nI (4 * i) := by rw [q_sub (by omega), nI_ltI (by omega) (by omega)]; omega
  have hth := q_mThrown m3
  rw [H186_23]
  (conv => lhs; simp (disch := first | assumption | omega | (rw [nI_leI] <;> omega) | (rw [nI_ltI] <;> omega) | (rw [nI_eq] <;> omega) | (apply q_out <;> omega) | (apply q_nb; omega) | (apply q_n0 <;> omega)) only [M186, hop, M186_4, a1, ↓if_pos, ↓if_neg, nI_add, q_sub, q_cl, p_bnd_s, p_bnd_v])
  rw [q_bnd_c]
  refine q_bnd_m ?_
  (conv => lhs; simp (disch := first | assumption | omega | (rw [nI_leI] <;> omega) | (rw [nI_ltI] <;> omega) | (rw [nI_eq] <;> omega) | (apply q_out <;> omega) | (apply q_nb; omega) | (apply q_n0 <;> omega)) only [M186_4, m1, hth, ↓if_pos, ↓if_neg, nI_add, q_sub, q_cl, p_bnd_s, p_bnd_v])
  by_cases h0 : t = 0
  · subst h0
    have e00 : ¬ ¬ nI 0 = nI 0 := by decide
    have hb := m5 rfl
    subst hb
    have e23 : w2.2.1 23 0 = v := by rw [m4.2.1 23 (by decide)]; exact a5 rfl
    rw [hv rfl] at e23
    have hc : lg_cmp b2.toInt64 b2.toInt64 = nI 0 := q_cmp0.mpr rfl
    (conv => lhs; simp (disch := first | assumption | omega | (rw [nI_leI] <;> omega) | (rw [nI_ltI] <;> omega) | (rw [nI_eq] <;> omega) | (apply q_out <;> omega) | (apply q_nb; omega) | (apply q_n0 <;> omega)) only [M186_4, e23, M186_e, ↓if_pos, ↓if_neg, nI_add, q_sub, q_cl, p_bnd_s, p_bnd_v])
  · have h1 : ¬ nI t = nI 0 := by rw [nI_eq (by omega) (by omega)]; exact h0
    (conv => lhs; simp (disch := first | assumption | omega | (rw [nI_leI] <;> omega) | (rw [nI_ltI] <;> omega) | (rw [nI_eq] <;> omega) | (apply q_out <;> omega) | (apply q_nb; omega) | (apply q_n0 <;> omega)) only [M186_4, M186_e, ↓if_pos, ↓if_neg, nI_add, q_sub, q_cl, p_bnd_s, p_bnd_v])
theorem q_it5 {t : Nat} {v : Int64} {b : Int32} (ht : t < 4) (hi : 4 * i + 3 < N) (hN : N < 2 ^ 31) (hop : xs (4 * i) &&& nI 31 = nI 5) (hW : q_Wr w S (p_ev none 167 0 [.ref 0, .int (xs (4 * i + 1)), .ref 23, p_U] [] w) t v) (hM : ∀ w1, q_FW w w1 → q_MRi w1 S (p_ev none 117 0 [.ref 24, .int (xs (4 * i + 1))] [] w1) t (b)) (hv : t = 0 → v = b.toInt64) : q_IT i S (p_ev (some (N, xs)) 186 23 [.ref 999, .ref 0, .ref 24, .ref 23, .int (nI (4 * i)), z5, z6, z7] [] w) := by
  obtain ⟨w1, c, a1, a2, a3, a4, a5⟩ := hW
  obtain ⟨w2, b2, m1, m2, m3, m4, m5⟩ := hM w1 a4
  refine ⟨w2, .int (nI t), .int b2, z7, c, ?_, a2, a3.fm m4, m2⟩
  have hne : ¬ nI N - nI 4 < nI (4 * i) := by rw [q_sub (by omega), nI_ltI (by omega) (by omega)]; omega
  have hth := q_mThrown m3
  rw [H186_23]
  (conv => lhs; simp (disch := first | assumption | omega | (rw [nI_leI] <;> omega) | (rw [nI_ltI] <;> omega) | (rw [nI_eq] <;> omega) | (apply q_out <;> omega) | (apply q_nb; omega) | (apply q_n0 <;> omega)) only [M186, hop, M186_5, a1, ↓if_pos, ↓if_neg, nI_add, q_sub, q_cl, p_bnd_s, p_bnd_v])
  rw [q_bnd_c]
  refine q_bnd_m ?_
  (conv => lhs; simp (disch := first | assumption | omega | (rw [nI_leI] <;> omega) | (rw [nI_ltI] <;> omega) | (rw [nI_eq] <;> omega) | (apply q_out <;> omega) | (apply q_nb; omega) | (apply q_n0 <;> omega)) only [M186_5, m1, hth, ↓if_pos, ↓if_neg, nI_add, q_sub, q_cl, p_bnd_s, p_bnd_v])
  by_cases h0 : t = 0
  · subst h0
    have e00 : ¬ ¬ nI 0 = nI 0 := by decide
    have hb := m5 rfl
    subst hb
    have e23 : w2.2.1 23 0 = v := by rw [m4.2.1 23 (by decide)]; exact a5 rfl
    rw [hv rfl] at e23
    have hc : lg_cmp b2.toInt64 b2.toInt64 = nI 0 := q_cmp0.mpr rfl
    (conv => lhs; simp (disch := first | assumption | omega | (rw [nI_leI] <;> omega) | (rw [nI_ltI] <;> omega) | (rw [nI_eq] <;> omega) | (apply q_out <;> omega) | (apply q_nb; omega) | (apply q_n0 <;> omega)) only [M186_5, e23, M186_e, ↓if_pos, ↓if_neg, nI_add, q_sub, q_cl, p_bnd_s, p_bnd_v])
  · have h1 : ¬ nI t = nI 0 := by rw [nI_eq (by omega) (by omega)]; exact h0
    (conv => lhs; simp (disch := first | assumption | omega | (rw [nI_leI] <;> omega) | (rw [nI_ltI] <;> omega) | (rw [nI_eq] <;> omega) | (apply q_out <;> omega) | (apply q_nb; omega) | (apply q_n0 <;> omega)) only [M186_5, M186_e, ↓if_pos, ↓if_neg, nI_add, q_sub, q_cl, p_bnd_s, p_bnd_v])
theorem q_it6 {t : Nat} {v : Int64} {b : Int32} (ht : t < 4) (hi : 4 * i + 3 < N) (hN : N < 2 ^ 31) (hop : xs (4 * i) &&& nI 31 = nI 6) (hW : q_Wr w S (p_ev none 168 0 [.ref 0, .int (xs (4 * i + 1)), .ref 23, p_U] [] w) t v) (hM : ∀ w1, q_FW w w1 → q_MRi w1 S (p_ev none 120 0 [.ref 24, .int (xs (4 * i + 1))] [] w1) t (b)) (hv : t = 0 → v = b.toInt64) : q_IT i S (p_ev (some (N, xs)) 186 23 [.ref 999, .ref 0, .ref 24, .ref 23, .int (nI (4 * i)), z5, z6, z7] [] w) := by
  obtain ⟨w1, c, a1, a2, a3, a4, a5⟩ := hW
  obtain ⟨w2, b2, m1, m2, m3, m4, m5⟩ := hM w1 a4
  refine ⟨w2, .int (nI t), .int b2, z7, c, ?_, a2, a3.fm m4, m2⟩
  have hne : ¬ nI N - nI 4 < nI (4 * i) := by rw [q_sub (by omega), nI_ltI (by omega) (by omega)]; omega
  have hth := q_mThrown m3
  rw [H186_23]
  (conv => lhs; simp (disch := first | assumption | omega | (rw [nI_leI] <;> omega) | (rw [nI_ltI] <;> omega) | (rw [nI_eq] <;> omega) | (apply q_out <;> omega) | (apply q_nb; omega) | (apply q_n0 <;> omega)) only [M186, hop, M186_6, a1, ↓if_pos, ↓if_neg, nI_add, q_sub, q_cl, p_bnd_s, p_bnd_v])
  rw [q_bnd_c]
  refine q_bnd_m ?_
  (conv => lhs; simp (disch := first | assumption | omega | (rw [nI_leI] <;> omega) | (rw [nI_ltI] <;> omega) | (rw [nI_eq] <;> omega) | (apply q_out <;> omega) | (apply q_nb; omega) | (apply q_n0 <;> omega)) only [M186_6, m1, hth, ↓if_pos, ↓if_neg, nI_add, q_sub, q_cl, p_bnd_s, p_bnd_v])
  by_cases h0 : t = 0
  · subst h0
    have e00 : ¬ ¬ nI 0 = nI 0 := by decide
    have hb := m5 rfl
    subst hb
    have e23 : w2.2.1 23 0 = v := by rw [m4.2.1 23 (by decide)]; exact a5 rfl
    rw [hv rfl] at e23
    have hc : lg_cmp b2.toInt64 b2.toInt64 = nI 0 := q_cmp0.mpr rfl
    (conv => lhs; simp (disch := first | assumption | omega | (rw [nI_leI] <;> omega) | (rw [nI_ltI] <;> omega) | (rw [nI_eq] <;> omega) | (apply q_out <;> omega) | (apply q_nb; omega) | (apply q_n0 <;> omega)) only [M186_6, e23, M186_e, ↓if_pos, ↓if_neg, nI_add, q_sub, q_cl, p_bnd_s, p_bnd_v])
  · have h1 : ¬ nI t = nI 0 := by rw [nI_eq (by omega) (by omega)]; exact h0
    (conv => lhs; simp (disch := first | assumption | omega | (rw [nI_leI] <;> omega) | (rw [nI_ltI] <;> omega) | (rw [nI_eq] <;> omega) | (apply q_out <;> omega) | (apply q_nb; omega) | (apply q_n0 <;> omega)) only [M186_6, M186_e, ↓if_pos, ↓if_neg, nI_add, q_sub, q_cl, p_bnd_s, p_bnd_v])
theorem q_it7 {b : Int32} (hi : 4 * i + 3 < N) (hN : N < 2 ^ 31) (hop : xs (4 * i) &&& nI 31 = nI 7) (hW : p_ev none 51 0 [.ref 0, .int (xs (4 * i + 1))] [] w = some (.inl (some (.int b)), w, 0)) (hK : q_KS S w) (hM : q_MRi w S (p_ev none 121 0 [.ref 24, .int (xs (4 * i + 1))] [] w) 0 b) : q_IT i S (p_ev (some (N, xs)) 186 23 [.ref 999, .ref 0, .ref 24, .ref 23, .int (nI (4 * i)), z5, z6, z7] [] w) := by
  obtain ⟨w2, b2, m1, m2, m3, m4, m5⟩ := hM
  have hb := m5 rfl
  subst hb
  refine ⟨w2, z5, z6, z7, 0, ?_, by decide, hK.fm m4, m2⟩
  have hne : ¬ nI N - nI 4 < nI (4 * i) := by rw [q_sub (by omega), nI_ltI (by omega) (by omega)]; omega
  rw [H186_23]
  (conv => lhs; simp (disch := first | assumption | omega | (rw [nI_leI] <;> omega) | (rw [nI_ltI] <;> omega) | (rw [nI_eq] <;> omega) | (apply q_out <;> omega) | (apply q_nb; omega) | (apply q_n0 <;> omega)) only [M186, hop, M186_7, hW, m1, M186_e, ↓if_pos, ↓if_neg, nI_add, q_sub, q_cl, p_bnd_s, p_bnd_v])
  rw [if_pos trivial]
theorem q_it8 {t : Nat} {v : Int64} {b : Bool} (ht : t < 4) (hi : 4 * i + 3 < N) (hN : N < 2 ^ 31) (hop : xs (4 * i) &&& nI 31 = nI 8) (hW : q_Wr w S (p_ev none 169 0 [.ref 0, .int (xs (4 * i + 1)), .ref 23, p_U] [] w) t v) (hM : ∀ w1, q_FW w w1 → q_MRi w1 S (p_ev none 122 0 [.ref 24, .int (xs (4 * i + 1))] [] w1) t (nI b.toNat)) (hv : t = 0 → v = lN b.toNat) : q_IT i S (p_ev (some (N, xs)) 186 23 [.ref 999, .ref 0, .ref 24, .ref 23, .int (nI (4 * i)), z5, z6, z7] [] w) := by
  obtain ⟨w1, c, a1, a2, a3, a4, a5⟩ := hW
  obtain ⟨w2, b2, m1, m2, m3, m4, m5⟩ := hM w1 a4
  refine ⟨w2, .int (nI t), .int b2, z7, c, ?_, a2, a3.fm m4, m2⟩
  have hne : ¬ nI N - nI 4 < nI (4 * i) := by rw [q_sub (by omega), nI_ltI (by omega) (by omega)]; omega
  have hth := q_mThrown m3
  rw [H186_23]
  (conv => lhs; simp (disch := first | assumption | omega | (rw [nI_leI] <;> omega) | (rw [nI_ltI] <;> omega) | (rw [nI_eq] <;> omega) | (apply q_out <;> omega) | (apply q_nb; omega) | (apply q_n0 <;> omega)) only [M186, hop, M186_8, a1, ↓if_pos, ↓if_neg, nI_add, q_sub, q_cl, p_bnd_s, p_bnd_v])
  rw [q_bnd_c]
  refine q_bnd_m ?_
  (conv => lhs; simp (disch := first | assumption | omega | (rw [nI_leI] <;> omega) | (rw [nI_ltI] <;> omega) | (rw [nI_eq] <;> omega) | (apply q_out <;> omega) | (apply q_nb; omega) | (apply q_n0 <;> omega)) only [M186_8, m1, hth, ↓if_pos, ↓if_neg, nI_add, q_sub, q_cl, p_bnd_s, p_bnd_v])
  by_cases h0 : t = 0
  · subst h0
    have e00 : ¬ ¬ nI 0 = nI 0 := by decide
    have hb := m5 rfl
    subst hb
    have e23 : w2.2.1 23 0 = v := by rw [m4.2.1 23 (by decide)]; exact a5 rfl
    rw [hv rfl] at e23
    have e10 : ¬ nI 1 = nI 0 := by decide
    have l0 : lg_cmp (lN 0) (lN 0) = nI 0 := by decide
    have l1 : lg_cmp (lN 1) (lN 1) = nI 0 := by decide
    cases b
    · rw [Bool.toNat_false] at e23 ⊢
      (conv => lhs; simp (disch := first | assumption | omega | (rw [nI_leI] <;> omega) | (rw [nI_ltI] <;> omega) | (rw [nI_eq] <;> omega) | (apply q_out <;> omega) | (apply q_nb; omega) | (apply q_n0 <;> omega)) only [M186_8, e23, M186_e, ↓if_pos, ↓if_neg, nI_add, q_sub, q_cl, p_bnd_s, p_bnd_v])
    · rw [Bool.toNat_true] at e23 ⊢
      (conv => lhs; simp (disch := first | assumption | omega | (rw [nI_leI] <;> omega) | (rw [nI_ltI] <;> omega) | (rw [nI_eq] <;> omega) | (apply q_out <;> omega) | (apply q_nb; omega) | (apply q_n0 <;> omega)) only [M186_8, e23, M186_e, ↓if_pos, ↓if_neg, nI_add, q_sub, q_cl, p_bnd_s, p_bnd_v])
  · have h1 : ¬ nI t = nI 0 := by rw [nI_eq (by omega) (by omega)]; exact h0
    (conv => lhs; simp (disch := first | assumption | omega | (rw [nI_leI] <;> omega) | (rw [nI_ltI] <;> omega) | (rw [nI_eq] <;> omega) | (apply q_out <;> omega) | (apply q_nb; omega) | (apply q_n0 <;> omega)) only [M186_8, M186_e, ↓if_pos, ↓if_neg, nI_add, q_sub, q_cl, p_bnd_s, p_bnd_v])
theorem q_it9 {b : Int32} (hi : 4 * i + 3 < N) (hN : N < 2 ^ 31) (hop : xs (4 * i) &&& nI 31 = nI 9) (hW : p_ev none 53 0 [.ref 0] [] w = some (.inl (some (.int b)), w, 0)) (hK : q_KS S w) (hM : q_MRi w S (p_ev none 123 0 [.ref 24, p_U, p_U] [] w) 0 b) : q_IT i S (p_ev (some (N, xs)) 186 23 [.ref 999, .ref 0, .ref 24, .ref 23, .int (nI (4 * i)), z5, z6, z7] [] w) := by
  obtain ⟨w2, b2, m1, m2, m3, m4, m5⟩ := hM
  have hb := m5 rfl
  subst hb
  refine ⟨w2, z5, z6, z7, 0, ?_, by decide, hK.fm m4, m2⟩
  have hne : ¬ nI N - nI 4 < nI (4 * i) := by rw [q_sub (by omega), nI_ltI (by omega) (by omega)]; omega
  rw [H186_23]
  (conv => lhs; simp (disch := first | assumption | omega | (rw [nI_leI] <;> omega) | (rw [nI_ltI] <;> omega) | (rw [nI_eq] <;> omega) | (apply q_out <;> omega) | (apply q_nb; omega) | (apply q_n0 <;> omega)) only [M186, hop, M186_9, hW, m1, M186_e, ↓if_pos, ↓if_neg, nI_add, q_sub, q_cl, p_bnd_s, p_bnd_v])
  rw [if_pos trivial]
theorem q_it10 {t : Nat} {v : Int64} {b : Int32} (ht : t < 4) (hi : 4 * i + 3 < N) (hN : N < 2 ^ 31) (hop : xs (4 * i) &&& nI 31 = nI 10) (hW : q_Wr w S (p_ev none 170 0 [.ref 0, .int (xs (4 * i + 1)), .ref 23, p_U] [] w) t v) (hM : ∀ w1, q_FW w w1 → q_MRi w1 S (p_ev none 124 0 [.ref 24, .int (xs (4 * i + 1)), p_U, p_U, p_U] [] w1) t (b)) (hv : t = 0 → v = b.toInt64) : q_IT i S (p_ev (some (N, xs)) 186 23 [.ref 999, .ref 0, .ref 24, .ref 23, .int (nI (4 * i)), z5, z6, z7] [] w) := by
  obtain ⟨w1, c, a1, a2, a3, a4, a5⟩ := hW
  obtain ⟨w2, b2, m1, m2, m3, m4, m5⟩ := hM w1 a4
  refine ⟨w2, .int (nI t), .int b2, z7, c, ?_, a2, a3.fm m4, m2⟩
  have hne : ¬ nI N - nI 4 < nI (4 * i) := by rw [q_sub (by omega), nI_ltI (by omega) (by omega)]; omega
  have hth := q_mThrown m3
  rw [H186_23]
  (conv => lhs; simp (disch := first | assumption | omega | (rw [nI_leI] <;> omega) | (rw [nI_ltI] <;> omega) | (rw [nI_eq] <;> omega) | (apply q_out <;> omega) | (apply q_nb; omega) | (apply q_n0 <;> omega)) only [M186, hop, M186_10, a1, ↓if_pos, ↓if_neg, nI_add, q_sub, q_cl, p_bnd_s, p_bnd_v])
  rw [q_bnd_c]
  refine q_bnd_m ?_
  (conv => lhs; simp (disch := first | assumption | omega | (rw [nI_leI] <;> omega) | (rw [nI_ltI] <;> omega) | (rw [nI_eq] <;> omega) | (apply q_out <;> omega) | (apply q_nb; omega) | (apply q_n0 <;> omega)) only [M186_10, m1, hth, ↓if_pos, ↓if_neg, nI_add, q_sub, q_cl, p_bnd_s, p_bnd_v])
  by_cases h0 : t = 0
  · subst h0
    have e00 : ¬ ¬ nI 0 = nI 0 := by decide
    have hb := m5 rfl
    subst hb
    have e23 : w2.2.1 23 0 = v := by rw [m4.2.1 23 (by decide)]; exact a5 rfl
    rw [hv rfl] at e23
    have hc : lg_cmp b2.toInt64 b2.toInt64 = nI 0 := q_cmp0.mpr rfl
    (conv => lhs; simp (disch := first | assumption | omega | (rw [nI_leI] <;> omega) | (rw [nI_ltI] <;> omega) | (rw [nI_eq] <;> omega) | (apply q_out <;> omega) | (apply q_nb; omega) | (apply q_n0 <;> omega)) only [M186_10, e23, M186_e, ↓if_pos, ↓if_neg, nI_add, q_sub, q_cl, p_bnd_s, p_bnd_v])
  · have h1 : ¬ nI t = nI 0 := by rw [nI_eq (by omega) (by omega)]; exact h0
    (conv => lhs; simp (disch := first | assumption | omega | (rw [nI_leI] <;> omega) | (rw [nI_ltI] <;> omega) | (rw [nI_eq] <;> omega) | (apply q_out <;> omega) | (apply q_nb; omega) | (apply q_n0 <;> omega)) only [M186_10, M186_e, ↓if_pos, ↓if_neg, nI_add, q_sub, q_cl, p_bnd_s, p_bnd_v])
theorem q_it11 {t : Nat} {v : Int64} {b : Int32} (ht : t < 4) (hi : 4 * i + 3 < N) (hN : N < 2 ^ 31) (hop : xs (4 * i) &&& nI 31 = nI 11) (hW : q_Wr w S (p_ev none 171 0 [.ref 0, .int (xs (4 * i + 1)), .ref 23, p_U] [] w) t v) (hM : ∀ w1, q_FW w w1 → q_MRi w1 S (p_ev none 127 0 [.ref 24, .int (xs (4 * i + 1))] [] w1) t (b)) (hv : t = 0 → v = b.toInt64) : q_IT i S (p_ev (some (N, xs)) 186 23 [.ref 999, .ref 0, .ref 24, .ref 23, .int (nI (4 * i)), z5, z6, z7] [] w) := by
  obtain ⟨w1, c, a1, a2, a3, a4, a5⟩ := hW
  obtain ⟨w2, b2, m1, m2, m3, m4, m5⟩ := hM w1 a4
  refine ⟨w2, .int (nI t), .int b2, z7, c, ?_, a2, a3.fm m4, m2⟩
  have hne : ¬ nI N - nI 4 < nI (4 * i) := by rw [q_sub (by omega), nI_ltI (by omega) (by omega)]; omega
  have hth := q_mThrown m3
  rw [H186_23]
  (conv => lhs; simp (disch := first | assumption | omega | (rw [nI_leI] <;> omega) | (rw [nI_ltI] <;> omega) | (rw [nI_eq] <;> omega) | (apply q_out <;> omega) | (apply q_nb; omega) | (apply q_n0 <;> omega)) only [M186, hop, M186_11, a1, ↓if_pos, ↓if_neg, nI_add, q_sub, q_cl, p_bnd_s, p_bnd_v])
  rw [q_bnd_c]
  refine q_bnd_m ?_
  (conv => lhs; simp (disch := first | assumption | omega | (rw [nI_leI] <;> omega) | (rw [nI_ltI] <;> omega) | (rw [nI_eq] <;> omega) | (apply q_out <;> omega) | (apply q_nb; omega) | (apply q_n0 <;> omega)) only [M186_11, m1, hth, ↓if_pos, ↓if_neg, nI_add, q_sub, q_cl, p_bnd_s, p_bnd_v])
  by_cases h0 : t = 0
  · subst h0
    have e00 : ¬ ¬ nI 0 = nI 0 := by decide
    have hb := m5 rfl
    subst hb
    have e23 : w2.2.1 23 0 = v := by rw [m4.2.1 23 (by decide)]; exact a5 rfl
    rw [hv rfl] at e23
    have hc : lg_cmp b2.toInt64 b2.toInt64 = nI 0 := q_cmp0.mpr rfl
    (conv => lhs; simp (disch := first | assumption | omega | (rw [nI_leI] <;> omega) | (rw [nI_ltI] <;> omega) | (rw [nI_eq] <;> omega) | (apply q_out <;> omega) | (apply q_nb; omega) | (apply q_n0 <;> omega)) only [M186_11, e23, M186_e, ↓if_pos, ↓if_neg, nI_add, q_sub, q_cl, p_bnd_s, p_bnd_v])
  · have h1 : ¬ nI t = nI 0 := by rw [nI_eq (by omega) (by omega)]; exact h0
    (conv => lhs; simp (disch := first | assumption | omega | (rw [nI_leI] <;> omega) | (rw [nI_ltI] <;> omega) | (rw [nI_eq] <;> omega) | (apply q_out <;> omega) | (apply q_nb; omega) | (apply q_n0 <;> omega)) only [M186_11, M186_e, ↓if_pos, ↓if_neg, nI_add, q_sub, q_cl, p_bnd_s, p_bnd_v])
theorem q_it12 {t : Nat} {v : Int64} {b : Int32} (ht : t < 4) (hi : 4 * i + 3 < N) (hN : N < 2 ^ 31) (hop : xs (4 * i) &&& nI 31 = nI 12) (hW : q_Wr w S (p_ev none 172 0 [.ref 0, .int (xs (4 * i + 1)), .ref 23, p_U] [] w) t v) (hM : ∀ w1, q_FW w w1 → q_MRi w1 S (p_ev none 128 0 [.ref 24, .int (xs (4 * i + 1)), p_U, p_U, p_U, p_U] [] w1) t (b)) (hv : t = 0 → v = b.toInt64) : q_IT i S (p_ev (some (N, xs)) 186 23 [.ref 999, .ref 0, .ref 24, .ref 23, .int (nI (4 * i)), z5, z6, z7] [] w) := by
  obtain ⟨w1, c, a1, a2, a3, a4, a5⟩ := hW
  obtain ⟨w2, b2, m1, m2, m3, m4, m5⟩ := hM w1 a4
  refine ⟨w2, .int (nI t), .int b2, z7, c, ?_, a2, a3.fm m4, m2⟩
  have hne : ¬ nI N - nI 4 < nI (4 * i) := by rw [q_sub (by omega), nI_ltI (by omega) (by omega)]; omega
  have hth := q_mThrown m3
  rw [H186_23]
  (conv => lhs; simp (disch := first | assumption | omega | (rw [nI_leI] <;> omega) | (rw [nI_ltI] <;> omega) | (rw [nI_eq] <;> omega) | (apply q_out <;> omega) | (apply q_nb; omega) | (apply q_n0 <;> omega)) only [M186, hop, M186_12, a1, ↓if_pos, ↓if_neg, nI_add, q_sub, q_cl, p_bnd_s, p_bnd_v])
  rw [q_bnd_c]
  refine q_bnd_m ?_
  (conv => lhs; simp (disch := first | assumption | omega | (rw [nI_leI] <;> omega) | (rw [nI_ltI] <;> omega) | (rw [nI_eq] <;> omega) | (apply q_out <;> omega) | (apply q_nb; omega) | (apply q_n0 <;> omega)) only [M186_12, m1, hth, ↓if_pos, ↓if_neg, nI_add, q_sub, q_cl, p_bnd_s, p_bnd_v])
  by_cases h0 : t = 0
  · subst h0
    have e00 : ¬ ¬ nI 0 = nI 0 := by decide
    have hb := m5 rfl
    subst hb
    have e23 : w2.2.1 23 0 = v := by rw [m4.2.1 23 (by decide)]; exact a5 rfl
    rw [hv rfl] at e23
    have hc : lg_cmp b2.toInt64 b2.toInt64 = nI 0 := q_cmp0.mpr rfl
    (conv => lhs; simp (disch := first | assumption | omega | (rw [nI_leI] <;> omega) | (rw [nI_ltI] <;> omega) | (rw [nI_eq] <;> omega) | (apply q_out <;> omega) | (apply q_nb; omega) | (apply q_n0 <;> omega)) only [M186_12, e23, M186_e, ↓if_pos, ↓if_neg, nI_add, q_sub, q_cl, p_bnd_s, p_bnd_v])
  · have h1 : ¬ nI t = nI 0 := by rw [nI_eq (by omega) (by omega)]; exact h0
    (conv => lhs; simp (disch := first | assumption | omega | (rw [nI_leI] <;> omega) | (rw [nI_ltI] <;> omega) | (rw [nI_eq] <;> omega) | (apply q_out <;> omega) | (apply q_nb; omega) | (apply q_n0 <;> omega)) only [M186_12, M186_e, ↓if_pos, ↓if_neg, nI_add, q_sub, q_cl, p_bnd_s, p_bnd_v])
theorem q_it13 {t : Nat} {v : Int64} {b : Int32} (ht : t < 4) (hi : 4 * i + 3 < N) (hN : N < 2 ^ 31) (hop : xs (4 * i) &&& nI 31 = nI 13) (hW : q_Wr w S (p_ev none 173 0 [.ref 0, .int (xs (4 * i + 1)), .ref 23, p_U] [] w) t v) (hM : ∀ w1, q_FW w w1 → q_MRi w1 S (p_ev none 130 0 [.ref 24, .int (xs (4 * i + 1))] [] w1) t (b)) (hv : t = 0 → v = b.toInt64) : q_IT i S (p_ev (some (N, xs)) 186 23 [.ref 999, .ref 0, .ref 24, .ref 23, .int (nI (4 * i)), z5, z6, z7] [] w) := by
  obtain ⟨w1, c, a1, a2, a3, a4, a5⟩ := hW
  obtain ⟨w2, b2, m1, m2, m3, m4, m5⟩ := hM w1 a4
  refine ⟨w2, .int (nI t), .int b2, z7, c, ?_, a2, a3.fm m4, m2⟩
  have hne : ¬ nI N - nI 4 < nI (4 * i) := by rw [q_sub (by omega), nI_ltI (by omega) (by omega)]; omega
  have hth := q_mThrown m3
  rw [H186_23]
  (conv => lhs; simp (disch := first | assumption | omega | (rw [nI_leI] <;> omega) | (rw [nI_ltI] <;> omega) | (rw [nI_eq] <;> omega) | (apply q_out <;> omega) | (apply q_nb; omega) | (apply q_n0 <;> omega)) only [M186, hop, M186_13, a1, ↓if_pos, ↓if_neg, nI_add, q_sub, q_cl, p_bnd_s, p_bnd_v])
  rw [q_bnd_c]
  refine q_bnd_m ?_
  (conv => lhs; simp (disch := first | assumption | omega | (rw [nI_leI] <;> omega) | (rw [nI_ltI] <;> omega) | (rw [nI_eq] <;> omega) | (apply q_out <;> omega) | (apply q_nb; omega) | (apply q_n0 <;> omega)) only [M186_13, m1, hth, ↓if_pos, ↓if_neg, nI_add, q_sub, q_cl, p_bnd_s, p_bnd_v])
  by_cases h0 : t = 0
  · subst h0
    have e00 : ¬ ¬ nI 0 = nI 0 := by decide
    have hb := m5 rfl
    subst hb
    have e23 : w2.2.1 23 0 = v := by rw [m4.2.1 23 (by decide)]; exact a5 rfl
    rw [hv rfl] at e23
    have hc : lg_cmp b2.toInt64 b2.toInt64 = nI 0 := q_cmp0.mpr rfl
    (conv => lhs; simp (disch := first | assumption | omega | (rw [nI_leI] <;> omega) | (rw [nI_ltI] <;> omega) | (rw [nI_eq] <;> omega) | (apply q_out <;> omega) | (apply q_nb; omega) | (apply q_n0 <;> omega)) only [M186_13, e23, M186_e, ↓if_pos, ↓if_neg, nI_add, q_sub, q_cl, p_bnd_s, p_bnd_v])
  · have h1 : ¬ nI t = nI 0 := by rw [nI_eq (by omega) (by omega)]; exact h0
    (conv => lhs; simp (disch := first | assumption | omega | (rw [nI_leI] <;> omega) | (rw [nI_ltI] <;> omega) | (rw [nI_eq] <;> omega) | (apply q_out <;> omega) | (apply q_nb; omega) | (apply q_n0 <;> omega)) only [M186_13, M186_e, ↓if_pos, ↓if_neg, nI_add, q_sub, q_cl, p_bnd_s, p_bnd_v])
theorem q_it14 {t : Nat} {v : Int64} {b : Int64} (ht : t < 4) (hi : 4 * i + 3 < N) (hN : N < 2 ^ 31) (hop : xs (4 * i) &&& nI 31 = nI 14) (hW : q_Wr w S (p_ev none 174 0 [.ref 0, .int (xs (4 * i + 1)), .int (xs (4 * i + 2)), .ref 23, p_U] [] w) t v) (hM : ∀ w1, q_FW w w1 → q_MRl w1 S (p_ev none 131 0 [.ref 24, .int (xs (4 * i + 1)), .int (xs (4 * i + 2))] [] w1) t (b)) (hv : t = 0 → v = b) : q_IT i S (p_ev (some (N, xs)) 186 23 [.ref 999, .ref 0, .ref 24, .ref 23, .int (nI (4 * i)), z5, z6, z7] [] w) := by
  obtain ⟨w1, c, a1, a2, a3, a4, a5⟩ := hW
  obtain ⟨w2, b2, m1, m2, m3, m4, m5⟩ := hM w1 a4
  refine ⟨w2, .int (nI t), .long b2, p_U, c, ?_, a2, a3.fm m4, m2⟩
  have hne : ¬ nI N - nI 4 < nI (4 * i) := by rw [q_sub (by omega), nI_ltI (by omega) (by omega)]; omega
  have hth := q_mThrown m3
  rw [H186_23]
  (conv => lhs; simp (disch := first | assumption | omega | (rw [nI_leI] <;> omega) | (rw [nI_ltI] <;> omega) | (rw [nI_eq] <;> omega) | (apply q_out <;> omega) | (apply q_nb; omega) | (apply q_n0 <;> omega)) only [M186, hop, M186_14, a1, ↓if_pos, ↓if_neg, nI_add, q_sub, q_cl, p_bnd_s, p_bnd_v])
  rw [q_bnd_c]
  refine q_bnd_m ?_
  (conv => lhs; simp (disch := first | assumption | omega | (rw [nI_leI] <;> omega) | (rw [nI_ltI] <;> omega) | (rw [nI_eq] <;> omega) | (apply q_out <;> omega) | (apply q_nb; omega) | (apply q_n0 <;> omega)) only [M186_14, m1, hth, ↓if_pos, ↓if_neg, nI_add, q_sub, q_cl, p_bnd_s, p_bnd_v])
  by_cases h0 : t = 0
  · subst h0
    have e00 : ¬ ¬ nI 0 = nI 0 := by decide
    have hb := m5 rfl
    subst hb
    have e23 : w2.2.1 23 0 = v := by rw [m4.2.1 23 (by decide)]; exact a5 rfl
    rw [hv rfl] at e23
    have hc : lg_cmp b2 b2 = nI 0 := q_cmp0.mpr rfl
    (conv => lhs; simp (disch := first | assumption | omega | (rw [nI_leI] <;> omega) | (rw [nI_ltI] <;> omega) | (rw [nI_eq] <;> omega) | (apply q_out <;> omega) | (apply q_nb; omega) | (apply q_n0 <;> omega)) only [M186_14, e23, M186_e, ↓if_pos, ↓if_neg, nI_add, q_sub, q_cl, p_bnd_s, p_bnd_v])
  · have h1 : ¬ nI t = nI 0 := by rw [nI_eq (by omega) (by omega)]; exact h0
    (conv => lhs; simp (disch := first | assumption | omega | (rw [nI_leI] <;> omega) | (rw [nI_ltI] <;> omega) | (rw [nI_eq] <;> omega) | (apply q_out <;> omega) | (apply q_nb; omega) | (apply q_n0 <;> omega)) only [M186_14, M186_e, ↓if_pos, ↓if_neg, nI_add, q_sub, q_cl, p_bnd_s, p_bnd_v])
theorem q_it15 {t : Nat} {v : Int64} {b : Int64} (ht : t < 4) (hi : 4 * i + 3 < N) (hN : N < 2 ^ 31) (hop : xs (4 * i) &&& nI 31 = nI 15) (hW : q_Wr w S (p_ev none 175 0 [.ref 0, .int (xs (4 * i + 1)), .int (xs (4 * i + 2)), .int (xs (4 * i + 3)), .ref 23, p_U] [] w) t v) (hM : ∀ w1, q_FW w w1 → q_MRl w1 S (p_ev none 132 0 [.ref 24, .int (xs (4 * i + 1)), .int (xs (4 * i + 2)), .int (xs (4 * i + 3)), p_U, p_U] [] w1) t (b)) (hv : t = 0 → v = b) : q_IT i S (p_ev (some (N, xs)) 186 23 [.ref 999, .ref 0, .ref 24, .ref 23, .int (nI (4 * i)), z5, z6, z7] [] w) := by
  obtain ⟨w1, c, a1, a2, a3, a4, a5⟩ := hW
  obtain ⟨w2, b2, m1, m2, m3, m4, m5⟩ := hM w1 a4
  refine ⟨w2, .int (nI t), .long b2, p_U, c, ?_, a2, a3.fm m4, m2⟩
  have hne : ¬ nI N - nI 4 < nI (4 * i) := by rw [q_sub (by omega), nI_ltI (by omega) (by omega)]; omega
  have hth := q_mThrown m3
  rw [H186_23]
  (conv => lhs; simp (disch := first | assumption | omega | (rw [nI_leI] <;> omega) | (rw [nI_ltI] <;> omega) | (rw [nI_eq] <;> omega) | (apply q_out <;> omega) | (apply q_nb; omega) | (apply q_n0 <;> omega)) only [M186, hop, M186_15, a1, ↓if_pos, ↓if_neg, nI_add, q_sub, q_cl, p_bnd_s, p_bnd_v])
  rw [q_bnd_c]
  refine q_bnd_m ?_
  (conv => lhs; simp (disch := first | assumption | omega | (rw [nI_leI] <;> omega) | (rw [nI_ltI] <;> omega) | (rw [nI_eq] <;> omega) | (apply q_out <;> omega) | (apply q_nb; omega) | (apply q_n0 <;> omega)) only [M186_15, m1, hth, ↓if_pos, ↓if_neg, nI_add, q_sub, q_cl, p_bnd_s, p_bnd_v])
  by_cases h0 : t = 0
  · subst h0
    have e00 : ¬ ¬ nI 0 = nI 0 := by decide
    have hb := m5 rfl
    subst hb
    have e23 : w2.2.1 23 0 = v := by rw [m4.2.1 23 (by decide)]; exact a5 rfl
    rw [hv rfl] at e23
    have hc : lg_cmp b2 b2 = nI 0 := q_cmp0.mpr rfl
    (conv => lhs; simp (disch := first | assumption | omega | (rw [nI_leI] <;> omega) | (rw [nI_ltI] <;> omega) | (rw [nI_eq] <;> omega) | (apply q_out <;> omega) | (apply q_nb; omega) | (apply q_n0 <;> omega)) only [M186_15, e23, M186_e, ↓if_pos, ↓if_neg, nI_add, q_sub, q_cl, p_bnd_s, p_bnd_v])
  · have h1 : ¬ nI t = nI 0 := by rw [nI_eq (by omega) (by omega)]; exact h0
    (conv => lhs; simp (disch := first | assumption | omega | (rw [nI_leI] <;> omega) | (rw [nI_ltI] <;> omega) | (rw [nI_eq] <;> omega) | (apply q_out <;> omega) | (apply q_nb; omega) | (apply q_n0 <;> omega)) only [M186_15, M186_e, ↓if_pos, ↓if_neg, nI_add, q_sub, q_cl, p_bnd_s, p_bnd_v])
theorem q_it16 {t : Nat} {v : Int64} {b : Int64} (ht : t < 4) (hi : 4 * i + 3 < N) (hN : N < 2 ^ 31) (hop : xs (4 * i) &&& nI 31 = nI 16) (hW : q_Wr w S (p_ev none 176 0 [.ref 0, .int (xs (4 * i + 1)), .int (xs (4 * i + 2)), .ref 23, p_U] [] w) t v) (hM : ∀ w1, q_FW w w1 → q_MRl w1 S (p_ev none 133 0 [.ref 24, .int (xs (4 * i + 1)), .int (xs (4 * i + 2)), p_U, p_U, p_U] [] w1) t (b)) (hv : t = 0 → v = b) : q_IT i S (p_ev (some (N, xs)) 186 23 [.ref 999, .ref 0, .ref 24, .ref 23, .int (nI (4 * i)), z5, z6, z7] [] w) := by
  obtain ⟨w1, c, a1, a2, a3, a4, a5⟩ := hW
  obtain ⟨w2, b2, m1, m2, m3, m4, m5⟩ := hM w1 a4
  refine ⟨w2, .int (nI t), .long b2, p_U, c, ?_, a2, a3.fm m4, m2⟩
  have hne : ¬ nI N - nI 4 < nI (4 * i) := by rw [q_sub (by omega), nI_ltI (by omega) (by omega)]; omega
  have hth := q_mThrown m3
  rw [H186_23]
  (conv => lhs; simp (disch := first | assumption | omega | (rw [nI_leI] <;> omega) | (rw [nI_ltI] <;> omega) | (rw [nI_eq] <;> omega) | (apply q_out <;> omega) | (apply q_nb; omega) | (apply q_n0 <;> omega)) only [M186, hop, M186_16, a1, ↓if_pos, ↓if_neg, nI_add, q_sub, q_cl, p_bnd_s, p_bnd_v])
  rw [q_bnd_c]
  refine q_bnd_m ?_
  (conv => lhs; simp (disch := first | assumption | omega | (rw [nI_leI] <;> omega) | (rw [nI_ltI] <;> omega) | (rw [nI_eq] <;> omega) | (apply q_out <;> omega) | (apply q_nb; omega) | (apply q_n0 <;> omega)) only [M186_16, m1, hth, ↓if_pos, ↓if_neg, nI_add, q_sub, q_cl, p_bnd_s, p_bnd_v])
  by_cases h0 : t = 0
  · subst h0
    have e00 : ¬ ¬ nI 0 = nI 0 := by decide
    have hb := m5 rfl
    subst hb
    have e23 : w2.2.1 23 0 = v := by rw [m4.2.1 23 (by decide)]; exact a5 rfl
    rw [hv rfl] at e23
    have hc : lg_cmp b2 b2 = nI 0 := q_cmp0.mpr rfl
    (conv => lhs; simp (disch := first | assumption | omega | (rw [nI_leI] <;> omega) | (rw [nI_ltI] <;> omega) | (rw [nI_eq] <;> omega) | (apply q_out <;> omega) | (apply q_nb; omega) | (apply q_n0 <;> omega)) only [M186_16, e23, M186_e, ↓if_pos, ↓if_neg, nI_add, q_sub, q_cl, p_bnd_s, p_bnd_v])
  · have h1 : ¬ nI t = nI 0 := by rw [nI_eq (by omega) (by omega)]; exact h0
    (conv => lhs; simp (disch := first | assumption | omega | (rw [nI_leI] <;> omega) | (rw [nI_ltI] <;> omega) | (rw [nI_eq] <;> omega) | (apply q_out <;> omega) | (apply q_nb; omega) | (apply q_n0 <;> omega)) only [M186_16, M186_e, ↓if_pos, ↓if_neg, nI_add, q_sub, q_cl, p_bnd_s, p_bnd_v])
theorem q_it17 {t : Nat} {v : Int64} {b : Int32} (ht : t < 4) (hi : 4 * i + 3 < N) (hN : N < 2 ^ 31) (hop : xs (4 * i) &&& nI 31 = nI 17) (hW : q_Wr w S (p_ev none 177 0 [.ref 0, .int (xs (4 * i + 1)), .int (xs (4 * i + 2)), .ref 23, p_U] [] w) t v) (hM : ∀ w1, q_FW w w1 → q_MRi w1 S (p_ev none 135 0 [.ref 24, .int (xs (4 * i + 1)), .int (xs (4 * i + 2))] [] w1) t (b)) (hv : t = 0 → v = b.toInt64) : q_IT i S (p_ev (some (N, xs)) 186 23 [.ref 999, .ref 0, .ref 24, .ref 23, .int (nI (4 * i)), z5, z6, z7] [] w) := by
  obtain ⟨w1, c, a1, a2, a3, a4, a5⟩ := hW
  obtain ⟨w2, b2, m1, m2, m3, m4, m5⟩ := hM w1 a4
  refine ⟨w2, .int (nI t), .int b2, z7, c, ?_, a2, a3.fm m4, m2⟩
  have hne : ¬ nI N - nI 4 < nI (4 * i) := by rw [q_sub (by omega), nI_ltI (by omega) (by omega)]; omega
  have hth := q_mThrown m3
  rw [H186_23]
  (conv => lhs; simp (disch := first | assumption | omega | (rw [nI_leI] <;> omega) | (rw [nI_ltI] <;> omega) | (rw [nI_eq] <;> omega) | (apply q_out <;> omega) | (apply q_nb; omega) | (apply q_n0 <;> omega)) only [M186, hop, M186_17, a1, ↓if_pos, ↓if_neg, nI_add, q_sub, q_cl, p_bnd_s, p_bnd_v])
  rw [q_bnd_c]
  refine q_bnd_m ?_
  (conv => lhs; simp (disch := first | assumption | omega | (rw [nI_leI] <;> omega) | (rw [nI_ltI] <;> omega) | (rw [nI_eq] <;> omega) | (apply q_out <;> omega) | (apply q_nb; omega) | (apply q_n0 <;> omega)) only [M186_17, m1, hth, ↓if_pos, ↓if_neg, nI_add, q_sub, q_cl, p_bnd_s, p_bnd_v])
  by_cases h0 : t = 0
  · subst h0
    have e00 : ¬ ¬ nI 0 = nI 0 := by decide
    have hb := m5 rfl
    subst hb
    have e23 : w2.2.1 23 0 = v := by rw [m4.2.1 23 (by decide)]; exact a5 rfl
    rw [hv rfl] at e23
    have hc : lg_cmp b2.toInt64 b2.toInt64 = nI 0 := q_cmp0.mpr rfl
    (conv => lhs; simp (disch := first | assumption | omega | (rw [nI_leI] <;> omega) | (rw [nI_ltI] <;> omega) | (rw [nI_eq] <;> omega) | (apply q_out <;> omega) | (apply q_nb; omega) | (apply q_n0 <;> omega)) only [M186_17, e23, M186_e, ↓if_pos, ↓if_neg, nI_add, q_sub, q_cl, p_bnd_s, p_bnd_v])
  · have h1 : ¬ nI t = nI 0 := by rw [nI_eq (by omega) (by omega)]; exact h0
    (conv => lhs; simp (disch := first | assumption | omega | (rw [nI_leI] <;> omega) | (rw [nI_ltI] <;> omega) | (rw [nI_eq] <;> omega) | (apply q_out <;> omega) | (apply q_nb; omega) | (apply q_n0 <;> omega)) only [M186_17, M186_e, ↓if_pos, ↓if_neg, nI_add, q_sub, q_cl, p_bnd_s, p_bnd_v])
theorem q_it18 {t : Nat} {v : Int64} {b : Int32} (ht : t < 4) (hi : 4 * i + 3 < N) (hN : N < 2 ^ 31) (hop : xs (4 * i) &&& nI 31 = nI 18) (hW : q_Wr w S (p_ev none 178 0 [.ref 0, .int (xs (4 * i + 1)), .int (xs (4 * i + 2)), .ref 23, p_U] [] w) t v) (hM : ∀ w1, q_FW w w1 → q_MRi w1 S (p_ev none 136 0 [.ref 24, .int (xs (4 * i + 1)), .int (xs (4 * i + 2))] [] w1) t (b)) (hv : t = 0 → v = b.toInt64) : q_IT i S (p_ev (some (N, xs)) 186 23 [.ref 999, .ref 0, .ref 24, .ref 23, .int (nI (4 * i)), z5, z6, z7] [] w) := by
  obtain ⟨w1, c, a1, a2, a3, a4, a5⟩ := hW
  obtain ⟨w2, b2, m1, m2, m3, m4, m5⟩ := hM w1 a4
  refine ⟨w2, .int (nI t), .int b2, z7, c, ?_, a2, a3.fm m4, m2⟩
  have hne : ¬ nI N - nI 4 < nI (4 * i) := by rw [q_sub (by omega), nI_ltI (by omega) (by omega)]; omega
  have hth := q_mThrown m3
  rw [H186_23]
  (conv => lhs; simp (disch := first | assumption | omega | (rw [nI_leI] <;> omega) | (rw [nI_ltI] <;> omega) | (rw [nI_eq] <;> omega) | (apply q_out <;> omega) | (apply q_nb; omega) | (apply q_n0 <;> omega)) only [M186, hop, M186_18, a1, ↓if_pos, ↓if_neg, nI_add, q_sub, q_cl, p_bnd_s, p_bnd_v])
  rw [q_bnd_c]
  refine q_bnd_m ?_
  (conv => lhs; simp (disch := first | assumption | omega | (rw [nI_leI] <;> omega) | (rw [nI_ltI] <;> omega) | (rw [nI_eq] <;> omega) | (apply q_out <;> omega) | (apply q_nb; omega) | (apply q_n0 <;> omega)) only [M186_18, m1, hth, ↓if_pos, ↓if_neg, nI_add, q_sub, q_cl, p_bnd_s, p_bnd_v])
  by_cases h0 : t = 0
  · subst h0
    have e00 : ¬ ¬ nI 0 = nI 0 := by decide
    have hb := m5 rfl
    subst hb
    have e23 : w2.2.1 23 0 = v := by rw [m4.2.1 23 (by decide)]; exact a5 rfl
    rw [hv rfl] at e23
    have hc : lg_cmp b2.toInt64 b2.toInt64 = nI 0 := q_cmp0.mpr rfl
    (conv => lhs; simp (disch := first | assumption | omega | (rw [nI_leI] <;> omega) | (rw [nI_ltI] <;> omega) | (rw [nI_eq] <;> omega) | (apply q_out <;> omega) | (apply q_nb; omega) | (apply q_n0 <;> omega)) only [M186_18, e23, M186_e, ↓if_pos, ↓if_neg, nI_add, q_sub, q_cl, p_bnd_s, p_bnd_v])
  · have h1 : ¬ nI t = nI 0 := by rw [nI_eq (by omega) (by omega)]; exact h0
    (conv => lhs; simp (disch := first | assumption | omega | (rw [nI_leI] <;> omega) | (rw [nI_ltI] <;> omega) | (rw [nI_eq] <;> omega) | (apply q_out <;> omega) | (apply q_nb; omega) | (apply q_n0 <;> omega)) only [M186_18, M186_e, ↓if_pos, ↓if_neg, nI_add, q_sub, q_cl, p_bnd_s, p_bnd_v])
theorem q_it19 {t : Nat} {v : Int64} {b : Int64} (ht : t < 4) (hi : 4 * i + 3 < N) (hN : N < 2 ^ 31) (hop : xs (4 * i) &&& nI 31 = nI 19) (hW : q_Wr w S (p_ev none 179 0 [.ref 0, .int (xs (4 * i + 1)), .int (xs (4 * i + 2)), .int (xs (4 * i + 3)), .ref 23, p_U] [] w) t v) (hM : ∀ w1, q_FW w w1 → q_MRl w1 S (p_ev none 138 0 [.ref 24, .int (xs (4 * i + 1)), .int (xs (4 * i + 2)), .int (xs (4 * i + 3))] [] w1) t (b)) (hv : t = 0 → v = b) : q_IT i S (p_ev (some (N, xs)) 186 23 [.ref 999, .ref 0, .ref 24, .ref 23, .int (nI (4 * i)), z5, z6, z7] [] w) := by
  obtain ⟨w1, c, a1, a2, a3, a4, a5⟩ := hW
  obtain ⟨w2, b2, m1, m2, m3, m4, m5⟩ := hM w1 a4
  refine ⟨w2, .int (nI t), .long b2, p_U, c, ?_, a2, a3.fm m4, m2⟩
  have hne : ¬ nI N - nI 4 < nI (4 * i) := by rw [q_sub (by omega), nI_ltI (by omega) (by omega)]; omega
  have hth := q_mThrown m3
  rw [H186_23]
  (conv => lhs; simp (disch := first | assumption | omega | (rw [nI_leI] <;> omega) | (rw [nI_ltI] <;> omega) | (rw [nI_eq] <;> omega) | (apply q_out <;> omega) | (apply q_nb; omega) | (apply q_n0 <;> omega)) only [M186, hop, M186_19, a1, ↓if_pos, ↓if_neg, nI_add, q_sub, q_cl, p_bnd_s, p_bnd_v])
  rw [q_bnd_c]
  refine q_bnd_m ?_
  (conv => lhs; simp (disch := first | assumption | omega | (rw [nI_leI] <;> omega) | (rw [nI_ltI] <;> omega) | (rw [nI_eq] <;> omega) | (apply q_out <;> omega) | (apply q_nb; omega) | (apply q_n0 <;> omega)) only [M186_19, m1, hth, ↓if_pos, ↓if_neg, nI_add, q_sub, q_cl, p_bnd_s, p_bnd_v])
  by_cases h0 : t = 0
  · subst h0
    have e00 : ¬ ¬ nI 0 = nI 0 := by decide
    have hb := m5 rfl
    subst hb
    have e23 : w2.2.1 23 0 = v := by rw [m4.2.1 23 (by decide)]; exact a5 rfl
    rw [hv rfl] at e23
    have hc : lg_cmp b2 b2 = nI 0 := q_cmp0.mpr rfl
    (conv => lhs; simp (disch := first | assumption | omega | (rw [nI_leI] <;> omega) | (rw [nI_ltI] <;> omega) | (rw [nI_eq] <;> omega) | (apply q_out <;> omega) | (apply q_nb; omega) | (apply q_n0 <;> omega)) only [M186_19, e23, M186_e, ↓if_pos, ↓if_neg, nI_add, q_sub, q_cl, p_bnd_s, p_bnd_v])
  · have h1 : ¬ nI t = nI 0 := by rw [nI_eq (by omega) (by omega)]; exact h0
    (conv => lhs; simp (disch := first | assumption | omega | (rw [nI_leI] <;> omega) | (rw [nI_ltI] <;> omega) | (rw [nI_eq] <;> omega) | (apply q_out <;> omega) | (apply q_nb; omega) | (apply q_n0 <;> omega)) only [M186_19, M186_e, ↓if_pos, ↓if_neg, nI_add, q_sub, q_cl, p_bnd_s, p_bnd_v])
theorem q_it20 {t : Nat} {v : Int64} {b : Int64} (ht : t < 4) (hi : 4 * i + 3 < N) (hN : N < 2 ^ 31) (hop : xs (4 * i) &&& nI 31 = nI 20) (hW : q_Wr w S (p_ev none 180 0 [.ref 0, .int (xs (4 * i + 1)), .int (xs (4 * i + 2)), .ref 23, p_U] [] w) t v) (hM : ∀ w1, q_FW w w1 → q_MRl w1 S (p_ev none 139 0 [.ref 24, .int (xs (4 * i + 1)), .int (xs (4 * i + 2)), p_U, p_U, p_U, p_U, p_U, p_U, p_U, p_U, p_U] [] w1) t (b)) (hv : t = 0 → v = b) : q_IT i S (p_ev (some (N, xs)) 186 23 [.ref 999, .ref 0, .ref 24, .ref 23, .int (nI (4 * i)), z5, z6, z7] [] w) := by
  obtain ⟨w1, c, a1, a2, a3, a4, a5⟩ := hW
  obtain ⟨w2, b2, m1, m2, m3, m4, m5⟩ := hM w1 a4
  refine ⟨w2, .int (nI t), .long b2, p_U, c, ?_, a2, a3.fm m4, m2⟩
  have hne : ¬ nI N - nI 4 < nI (4 * i) := by rw [q_sub (by omega), nI_ltI (by omega) (by omega)]; omega
  have hth := q_mThrown m3
  rw [H186_23]
  (conv => lhs; simp (disch := first | assumption | omega | (rw [nI_leI] <;> omega) | (rw [nI_ltI] <;> omega) | (rw [nI_eq] <;> omega) | (apply q_out <;> omega) | (apply q_nb; omega) | (apply q_n0 <;> omega)) only [M186, hop, M186_20, a1, ↓if_pos, ↓if_neg, nI_add, q_sub, q_cl, p_bnd_s, p_bnd_v])
  rw [q_bnd_c]
  refine q_bnd_m ?_
  (conv => lhs; simp (disch := first | assumption | omega | (rw [nI_leI] <;> omega) | (rw [nI_ltI] <;> omega) | (rw [nI_eq] <;> omega) | (apply q_out <;> omega) | (apply q_nb; omega) | (apply q_n0 <;> omega)) only [M186_20, m1, hth, ↓if_pos, ↓if_neg, nI_add, q_sub, q_cl, p_bnd_s, p_bnd_v])
  by_cases h0 : t = 0
  · subst h0
    have e00 : ¬ ¬ nI 0 = nI 0 := by decide
    have hb := m5 rfl
    subst hb
    have e23 : w2.2.1 23 0 = v := by rw [m4.2.1 23 (by decide)]; exact a5 rfl
    rw [hv rfl] at e23
    have hc : lg_cmp b2 b2 = nI 0 := q_cmp0.mpr rfl
    (conv => lhs; simp (disch := first | assumption | omega | (rw [nI_leI] <;> omega) | (rw [nI_ltI] <;> omega) | (rw [nI_eq] <;> omega) | (apply q_out <;> omega) | (apply q_nb; omega) | (apply q_n0 <;> omega)) only [M186_20, e23, M186_e, ↓if_pos, ↓if_neg, nI_add, q_sub, q_cl, p_bnd_s, p_bnd_v])
  · have h1 : ¬ nI t = nI 0 := by rw [nI_eq (by omega) (by omega)]; exact h0
    (conv => lhs; simp (disch := first | assumption | omega | (rw [nI_leI] <;> omega) | (rw [nI_ltI] <;> omega) | (rw [nI_eq] <;> omega) | (apply q_out <;> omega) | (apply q_nb; omega) | (apply q_n0 <;> omega)) only [M186_20, M186_e, ↓if_pos, ↓if_neg, nI_add, q_sub, q_cl, p_bnd_s, p_bnd_v])
theorem q_it21 {b : Int32} (hi : 4 * i + 3 < N) (hN : N < 2 ^ 31) (hop : xs (4 * i) &&& nI 31 = nI 21) (hW : p_ev none 65 0 [.ref 0, p_U] [] w = some (.inl (some (.int b)), w, 0)) (hK : q_KS S w) (hM : q_MRi w S (p_ev none 141 0 [.ref 24] [] w) 0 b) : q_IT i S (p_ev (some (N, xs)) 186 23 [.ref 999, .ref 0, .ref 24, .ref 23, .int (nI (4 * i)), z5, z6, z7] [] w) := by
  obtain ⟨w2, b2, m1, m2, m3, m4, m5⟩ := hM
  have hb := m5 rfl
  subst hb
  refine ⟨w2, z5, z6, z7, 0, ?_, by decide, hK.fm m4, m2⟩
  have hne : ¬ nI N - nI 4 < nI (4 * i) := by rw [q_sub (by omega), nI_ltI (by omega) (by omega)]; omega
  rw [H186_23]
  (conv => lhs; simp (disch := first | assumption | omega | (rw [nI_leI] <;> omega) | (rw [nI_ltI] <;> omega) | (rw [nI_eq] <;> omega) | (apply q_out <;> omega) | (apply q_nb; omega) | (apply q_n0 <;> omega)) only [M186, hop, M186_21, hW, m1, M186_e, ↓if_pos, ↓if_neg, nI_add, q_sub, q_cl, p_bnd_s, p_bnd_v])
  rw [if_pos trivial]
theorem q_it22 {t : Nat} {v : Int64} {b : Int32} (ht : t < 4) (hi : 4 * i + 3 < N) (hN : N < 2 ^ 31) (hop : xs (4 * i) &&& nI 31 = nI 22) (hW : q_Wr w S (p_ev none 181 0 [.ref 0, .ref 23, p_U] [] w) t v) (hM : ∀ w1, q_FW w w1 → q_MRi w1 S (p_ev none 155 0 [.ref 24] [] w1) t (b)) (hv : t = 0 → v = b.toInt64) : q_IT i S (p_ev (some (N, xs)) 186 23 [.ref 999, .ref 0, .ref 24, .ref 23, .int (nI (4 * i)), z5, z6, z7] [] w) := by
  obtain ⟨w1, c, a1, a2, a3, a4, a5⟩ := hW
  obtain ⟨w2, b2, m1, m2, m3, m4, m5⟩ := hM w1 a4
  refine ⟨w2, .int (nI t), .int b2, z7, c, ?_, a2, a3.fm m4, m2⟩
  have hne : ¬ nI N - nI 4 < nI (4 * i) := by rw [q_sub (by omega), nI_ltI (by omega) (by omega)]; omega
  have hth := q_mThrown m3
  rw [H186_23]
  (conv => lhs; simp (disch := first | assumption | omega | (rw [nI_leI] <;> omega) | (rw [nI_ltI] <;> omega) | (rw [nI_eq] <;> omega) | (apply q_out <;> omega) | (apply q_nb; omega) | (apply q_n0 <;> omega)) only [M186, hop, M186_22, a1, ↓if_pos, ↓if_neg, nI_add, q_sub, q_cl, p_bnd_s, p_bnd_v])
  rw [q_bnd_c]
  refine q_bnd_m ?_
  (conv => lhs; simp (disch := first | assumption | omega | (rw [nI_leI] <;> omega) | (rw [nI_ltI] <;> omega) | (rw [nI_eq] <;> omega) | (apply q_out <;> omega) | (apply q_nb; omega) | (apply q_n0 <;> omega)) only [M186_22, m1, hth, ↓if_pos, ↓if_neg, nI_add, q_sub, q_cl, p_bnd_s, p_bnd_v])
  by_cases h0 : t = 0
  · subst h0
    have e00 : ¬ ¬ nI 0 = nI 0 := by decide
    have hb := m5 rfl
    subst hb
    have e23 : w2.2.1 23 0 = v := by rw [m4.2.1 23 (by decide)]; exact a5 rfl
    rw [hv rfl] at e23
    have hc : lg_cmp b2.toInt64 b2.toInt64 = nI 0 := q_cmp0.mpr rfl
    (conv => lhs; simp (disch := first | assumption | omega | (rw [nI_leI] <;> omega) | (rw [nI_ltI] <;> omega) | (rw [nI_eq] <;> omega) | (apply q_out <;> omega) | (apply q_nb; omega) | (apply q_n0 <;> omega)) only [M186_22, e23, M186_e, ↓if_pos, ↓if_neg, nI_add, q_sub, q_cl, p_bnd_s, p_bnd_v])
  · have h1 : ¬ nI t = nI 0 := by rw [nI_eq (by omega) (by omega)]; exact h0
    (conv => lhs; simp (disch := first | assumption | omega | (rw [nI_leI] <;> omega) | (rw [nI_ltI] <;> omega) | (rw [nI_eq] <;> omega) | (apply q_out <;> omega) | (apply q_nb; omega) | (apply q_n0 <;> omega)) only [M186_22, M186_e, ↓if_pos, ↓if_neg, nI_add, q_sub, q_cl, p_bnd_s, p_bnd_v])
theorem q_it23 {t : Nat} {v : Int64} {b : Int32} (ht : t < 4) (hi : 4 * i + 3 < N) (hN : N < 2 ^ 31) (hop : xs (4 * i) &&& nI 31 = nI 23) (hW : q_Wr w S (p_ev none 182 0 [.ref 0, .int (xs (4 * i + 1)), .ref 23, p_U] [] w) t v) (hM : ∀ w1, q_FW w w1 → q_MRi w1 S (p_ev none 156 0 [.ref 24, .int (xs (4 * i + 1))] [] w1) t (b)) (hv : t = 0 → v = b.toInt64) : q_IT i S (p_ev (some (N, xs)) 186 23 [.ref 999, .ref 0, .ref 24, .ref 23, .int (nI (4 * i)), z5, z6, z7] [] w) := by
  obtain ⟨w1, c, a1, a2, a3, a4, a5⟩ := hW
  obtain ⟨w2, b2, m1, m2, m3, m4, m5⟩ := hM w1 a4
  refine ⟨w2, .int (nI t), .int b2, z7, c, ?_, a2, a3.fm m4, m2⟩
  have hne : ¬ nI N - nI 4 < nI (4 * i) := by rw [q_sub (by omega), nI_ltI (by omega) (by omega)]; omega
  have hth := q_mThrown m3
  rw [H186_23]
  (conv => lhs; simp (disch := first | assumption | omega | (rw [nI_leI] <;> omega) | (rw [nI_ltI] <;> omega) | (rw [nI_eq] <;> omega) | (apply q_out <;> omega) | (apply q_nb; omega) | (apply q_n0 <;> omega)) only [M186, hop, M186_23, a1, ↓if_pos, ↓if_neg, nI_add, q_sub, q_cl, p_bnd_s, p_bnd_v])
  rw [q_bnd_c]
  refine q_bnd_m ?_
  (conv => lhs; simp (disch := first | assumption | omega | (rw [nI_leI] <;> omega) | (rw [nI_ltI] <;> omega) | (rw [nI_eq] <;> omega) | (apply q_out <;> omega) | (apply q_nb; omega) | (apply q_n0 <;> omega)) only [M186_23, m1, hth, ↓if_pos, ↓if_neg, nI_add, q_sub, q_cl, p_bnd_s, p_bnd_v])
  by_cases h0 : t = 0
  · subst h0
    have e00 : ¬ ¬ nI 0 = nI 0 := by decide
    have hb := m5 rfl
    subst hb
    have e23 : w2.2.1 23 0 = v := by rw [m4.2.1 23 (by decide)]; exact a5 rfl
    rw [hv rfl] at e23
    have hc : lg_cmp b2.toInt64 b2.toInt64 = nI 0 := q_cmp0.mpr rfl
    (conv => lhs; simp (disch := first | assumption | omega | (rw [nI_leI] <;> omega) | (rw [nI_ltI] <;> omega) | (rw [nI_eq] <;> omega) | (apply q_out <;> omega) | (apply q_nb; omega) | (apply q_n0 <;> omega)) only [M186_23, e23, M186_e, ↓if_pos, ↓if_neg, nI_add, q_sub, q_cl, p_bnd_s, p_bnd_v])
  · have h1 : ¬ nI t = nI 0 := by rw [nI_eq (by omega) (by omega)]; exact h0
    (conv => lhs; simp (disch := first | assumption | omega | (rw [nI_leI] <;> omega) | (rw [nI_ltI] <;> omega) | (rw [nI_eq] <;> omega) | (apply q_out <;> omega) | (apply q_nb; omega) | (apply q_n0 <;> omega)) only [M186_23, M186_e, ↓if_pos, ↓if_neg, nI_add, q_sub, q_cl, p_bnd_s, p_bnd_v])
theorem q_it24 {t : Nat} {v : Int64} {b : Int64} (ht : t < 4) (hi : 4 * i + 3 < N) (hN : N < 2 ^ 31) (hop : xs (4 * i) &&& nI 31 = nI 24) (hW : q_Wr w S (p_ev none 183 0 [.ref 0, .int (xs (4 * i + 1)), .int (xs (4 * i + 2)), .ref 23, p_U] [] w) t v) (hM : ∀ w1, q_FW w w1 → q_MRl w1 S (p_ev none 158 0 [.ref 24, .int (xs (4 * i + 1)), .int (xs (4 * i + 2))] [] w1) t (b)) (hv : t = 0 → v = b) : q_IT i S (p_ev (some (N, xs)) 186 23 [.ref 999, .ref 0, .ref 24, .ref 23, .int (nI (4 * i)), z5, z6, z7] [] w) := by
  obtain ⟨w1, c, a1, a2, a3, a4, a5⟩ := hW
  obtain ⟨w2, b2, m1, m2, m3, m4, m5⟩ := hM w1 a4
  refine ⟨w2, .int (nI t), .long b2, p_U, c, ?_, a2, a3.fm m4, m2⟩
  have hne : ¬ nI N - nI 4 < nI (4 * i) := by rw [q_sub (by omega), nI_ltI (by omega) (by omega)]; omega
  have hth := q_mThrown m3
  rw [H186_23]
  (conv => lhs; simp (disch := first | assumption | omega | (rw [nI_leI] <;> omega) | (rw [nI_ltI] <;> omega) | (rw [nI_eq] <;> omega) | (apply q_out <;> omega) | (apply q_nb; omega) | (apply q_n0 <;> omega)) only [M186, hop, M186_24, a1, ↓if_pos, ↓if_neg, nI_add, q_sub, q_cl, p_bnd_s, p_bnd_v])
  rw [q_bnd_c]
  refine q_bnd_m ?_
  (conv => lhs; simp (disch := first | assumption | omega | (rw [nI_leI] <;> omega) | (rw [nI_ltI] <;> omega) | (rw [nI_eq] <;> omega) | (apply q_out <;> omega) | (apply q_nb; omega) | (apply q_n0 <;> omega)) only [M186_24, m1, hth, ↓if_pos, ↓if_neg, nI_add, q_sub, q_cl, p_bnd_s, p_bnd_v])
  by_cases h0 : t = 0
  · subst h0
    have e00 : ¬ ¬ nI 0 = nI 0 := by decide
    have hb := m5 rfl
    subst hb
    have e23 : w2.2.1 23 0 = v := by rw [m4.2.1 23 (by decide)]; exact a5 rfl
    rw [hv rfl] at e23
    have hc : lg_cmp b2 b2 = nI 0 := q_cmp0.mpr rfl
    (conv => lhs; simp (disch := first | assumption | omega | (rw [nI_leI] <;> omega) | (rw [nI_ltI] <;> omega) | (rw [nI_eq] <;> omega) | (apply q_out <;> omega) | (apply q_nb; omega) | (apply q_n0 <;> omega)) only [M186_24, e23, M186_e, ↓if_pos, ↓if_neg, nI_add, q_sub, q_cl, p_bnd_s, p_bnd_v])
  · have h1 : ¬ nI t = nI 0 := by rw [nI_eq (by omega) (by omega)]; exact h0
    (conv => lhs; simp (disch := first | assumption | omega | (rw [nI_leI] <;> omega) | (rw [nI_ltI] <;> omega) | (rw [nI_eq] <;> omega) | (apply q_out <;> omega) | (apply q_nb; omega) | (apply q_n0 <;> omega)) only [M186_24, M186_e, ↓if_pos, ↓if_neg, nI_add, q_sub, q_cl, p_bnd_s, p_bnd_v])
theorem q_it25 {t : Nat} {v : Int64} {b : Int64} (ht : t < 4) (hi : 4 * i + 3 < N) (hN : N < 2 ^ 31) (hop : xs (4 * i) &&& nI 31 = nI 25) (hW : q_Wr w S (p_ev none 184 0 [.ref 0, .int (xs (4 * i + 1)), .ref 23, p_U] [] w) t v) (hM : ∀ w1, q_FW w w1 → q_MRl w1 S (p_ev none 161 0 [.ref 24, .int (xs (4 * i + 1))] [] w1) t (b)) (hv : t = 0 → v = b) : q_IT i S (p_ev (some (N, xs)) 186 23 [.ref 999, .ref 0, .ref 24, .ref 23, .int (nI (4 * i)), z5, z6, z7] [] w) := by
  obtain ⟨w1, c, a1, a2, a3, a4, a5⟩ := hW
  obtain ⟨w2, b2, m1, m2, m3, m4, m5⟩ := hM w1 a4
  refine ⟨w2, .int (nI t), .long b2, p_U, c, ?_, a2, a3.fm m4, m2⟩
  have hne : ¬ nI N - nI 4 < nI (4 * i) := by rw [q_sub (by omega), nI_ltI (by omega) (by omega)]; omega
  have hth := q_mThrown m3
  rw [H186_23]
  (conv => lhs; simp (disch := first | assumption | omega | (rw [nI_leI] <;> omega) | (rw [nI_ltI] <;> omega) | (rw [nI_eq] <;> omega) | (apply q_out <;> omega) | (apply q_nb; omega) | (apply q_n0 <;> omega)) only [M186, hop, M186_25, a1, ↓if_pos, ↓if_neg, nI_add, q_sub, q_cl, p_bnd_s, p_bnd_v])
  rw [q_bnd_c]
  refine q_bnd_m ?_
  (conv => lhs; simp (disch := first | assumption | omega | (rw [nI_leI] <;> omega) | (rw [nI_ltI] <;> omega) | (rw [nI_eq] <;> omega) | (apply q_out <;> omega) | (apply q_nb; omega) | (apply q_n0 <;> omega)) only [M186_25, m1, hth, ↓if_pos, ↓if_neg, nI_add, q_sub, q_cl, p_bnd_s, p_bnd_v])
  by_cases h0 : t = 0
  · subst h0
    have e00 : ¬ ¬ nI 0 = nI 0 := by decide
    have hb := m5 rfl
    subst hb
    have e23 : w2.2.1 23 0 = v := by rw [m4.2.1 23 (by decide)]; exact a5 rfl
    rw [hv rfl] at e23
    have hc : lg_cmp b2 b2 = nI 0 := q_cmp0.mpr rfl
    (conv => lhs; simp (disch := first | assumption | omega | (rw [nI_leI] <;> omega) | (rw [nI_ltI] <;> omega) | (rw [nI_eq] <;> omega) | (apply q_out <;> omega) | (apply q_nb; omega) | (apply q_n0 <;> omega)) only [M186_25, e23, M186_e, ↓if_pos, ↓if_neg, nI_add, q_sub, q_cl, p_bnd_s, p_bnd_v])
  · have h1 : ¬ nI t = nI 0 := by rw [nI_eq (by omega) (by omega)]; exact h0
    (conv => lhs; simp (disch := first | assumption | omega | (rw [nI_leI] <;> omega) | (rw [nI_ltI] <;> omega) | (rw [nI_eq] <;> omega) | (apply q_out <;> omega) | (apply q_nb; omega) | (apply q_n0 <;> omega)) only [M186_25, M186_e, ↓if_pos, ↓if_neg, nI_add, q_sub, q_cl, p_bnd_s, p_bnd_v])
theorem q_it26 {t : Nat} {v : Int64} {b : Int32} (ht : t < 4) (hi : 4 * i + 3 < N) (hN : N < 2 ^ 31) (hop : xs (4 * i) &&& nI 31 = nI 26) (hW : q_Wr w S (p_ev none 185 0 [.ref 0, .int (xs (4 * i + 1)), .ref 23, p_U] [] w) t v) (hM : ∀ w1, q_FW w w1 → q_MRi w1 S (p_ev none 162 0 [.ref 24, .int (xs (4 * i + 1)), p_U] [] w1) t (b)) (hv : t = 0 → v = b.toInt64) : q_IT i S (p_ev (some (N, xs)) 186 23 [.ref 999, .ref 0, .ref 24, .ref 23, .int (nI (4 * i)), z5, z6, z7] [] w) := by
  obtain ⟨w1, c, a1, a2, a3, a4, a5⟩ := hW
  obtain ⟨w2, b2, m1, m2, m3, m4, m5⟩ := hM w1 a4
  refine ⟨w2, .int (nI t), .int b2, z7, c, ?_, a2, a3.fm m4, m2⟩
  have hne : ¬ nI N - nI 4 < nI (4 * i) := by rw [q_sub (by omega), nI_ltI (by omega) (by omega)]; omega
  have hth := q_mThrown m3
  rw [H186_23]
  (conv => lhs; simp (disch := first | assumption | omega | (rw [nI_leI] <;> omega) | (rw [nI_ltI] <;> omega) | (rw [nI_eq] <;> omega) | (apply q_out <;> omega) | (apply q_nb; omega) | (apply q_n0 <;> omega)) only [M186, hop, M186_26, a1, ↓if_pos, ↓if_neg, nI_add, q_sub, q_cl, p_bnd_s, p_bnd_v])
  rw [q_bnd_c]
  refine q_bnd_m ?_
  (conv => lhs; simp (disch := first | assumption | omega | (rw [nI_leI] <;> omega) | (rw [nI_ltI] <;> omega) | (rw [nI_eq] <;> omega) | (apply q_out <;> omega) | (apply q_nb; omega) | (apply q_n0 <;> omega)) only [M186_26, m1, hth, ↓if_pos, ↓if_neg, nI_add, q_sub, q_cl, p_bnd_s, p_bnd_v])
  by_cases h0 : t = 0
  · subst h0
    have e00 : ¬ ¬ nI 0 = nI 0 := by decide
    have hb := m5 rfl
    subst hb
    have e23 : w2.2.1 23 0 = v := by rw [m4.2.1 23 (by decide)]; exact a5 rfl
    rw [hv rfl] at e23
    have hc : lg_cmp b2.toInt64 b2.toInt64 = nI 0 := q_cmp0.mpr rfl
    (conv => lhs; simp (disch := first | assumption | omega | (rw [nI_leI] <;> omega) | (rw [nI_ltI] <;> omega) | (rw [nI_eq] <;> omega) | (apply q_out <;> omega) | (apply q_nb; omega) | (apply q_n0 <;> omega)) only [M186_26, e23, M186_e, ↓if_pos, ↓if_neg, nI_add, q_sub, q_cl, p_bnd_s, p_bnd_v])
  · have h1 : ¬ nI t = nI 0 := by rw [nI_eq (by omega) (by omega)]; exact h0
    (conv => lhs; simp (disch := first | assumption | omega | (rw [nI_leI] <;> omega) | (rw [nI_ltI] <;> omega) | (rw [nI_eq] <;> omega) | (apply q_out <;> omega) | (apply q_nb; omega) | (apply q_n0 <;> omega)) only [M186_26, M186_e, ↓if_pos, ↓if_neg, nI_add, q_sub, q_cl, p_bnd_s, p_bnd_v])
end Li
