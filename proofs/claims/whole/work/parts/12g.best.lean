/-! THE CLASS: THE BEST THRESHOLD -/
section Bt
variable {n wv : Nat} {sp : Nat → Bool} {x : Nat → Int64} {w : pW}
theorem q_best_l (h : q_K n wv sp x w) {k : Nat} {b : Int32} (h1 : 1 ≤ k) (h2 : k < 16) : ∀ (d i : Nat) (z9 z11 : Value), i + d = q_wd n k → p_ev none 64 55 [.ref 0, .int (nI k), .int b, .long (q_bt x (q_so n k) (q_wd n k) b i).1, p_U, .long (q_bt x (q_so n k) (q_wd n k) b i).2, p_U, .int (nI (q_so n k + q_wd n k)), .int (nI (q_so n k + i)), z9, p_U, z11, p_U] [] w = some (.inl (some (.long (q_bt x (q_so n k) (q_wd n k) b (q_wd n k)).1)), w, 0) := by
  have hg := q_geo0 k h1 h2 n h.2.1.1
  have hn := h.2.1.n32
  have hw := q_wdle n k
  intro d
  induction d with
  | zero =>
    intro i z9 z11 hi
    have e : i = q_wd n k := by omega
    rw [e, H64_55]
    (conv => lhs; simp (disch := first | assumption | omega | (rw [nI_leI] <;> omega) | (rw [nI_ltI] <;> omega) | (rw [nI_eq] <;> omega) | (apply q_out <;> omega) | (apply q_nb; omega) | (apply q_n0 <;> omega)) only [M64, ↓if_pos, ↓if_neg, nI_add, q_sub, q_cl, p_bnd_s, p_bnd_v])
  | succ d ih =>
    intro i z9 z11 hi
    have e11 : w.2.1 11 (q_so n k + i) = x (q_so n k + i) := by rw [h.2.2]
    have hX : q_bt x (q_so n k) (q_wd n k) b (i + 1) = q_bt x (q_so n k) (q_wd n k) b (i + 1) := rfl
    conv at hX => rhs; rw [q_bt]
    rw [H64_55]
    by_cases hm : p_abs (x (q_so n k + i)) ≤ lN 100000
    · have hm' : ¬ nI 0 < lg_cmp (p_abs (x (q_so n k + i))) (lN 100000) := fun z => absurd (q_cmpT.mp z) (Int64.not_lt.mpr hm)
      rw [if_pos hm] at hX
      by_cases ha : q_rk x (q_so n k) (q_wd n k) b (p_abs (x (q_so n k + i))) < (q_bt x (q_so n k) (q_wd n k) b i).2
      · have ha' : lg_cmp (q_rk x (q_so n k) (q_wd n k) b (p_abs (x (q_so n k + i)))) (q_bt x (q_so n k) (q_wd n k) b i).2 < nI 0 := q_cmpL.mpr ha
        rw [if_pos (Or.inl ha)] at hX
        have i1 := ih (i + 1) (.long (p_abs (x (q_so n k + i)))) (.long (q_rk x (q_so n k) (q_wd n k) b (p_abs (x (q_so n k + i))))) (by omega)
        rw [hX] at i1
        (conv => lhs; simp (disch := first | assumption | omega | (rw [nI_leI] <;> omega) | (rw [nI_ltI] <;> omega) | (rw [nI_eq] <;> omega) | (apply q_out <;> omega) | (apply q_nb; omega) | (apply q_n0 <;> omega)) only [M64, q_mag q_r4, e11, q_softRisk h, ↓if_pos, ↓if_neg, nI_add, q_sub, q_cl, p_bnd_s, p_bnd_v])
        exact i1
      · have ha' : ¬ lg_cmp (q_rk x (q_so n k) (q_wd n k) b (p_abs (x (q_so n k + i)))) (q_bt x (q_so n k) (q_wd n k) b i).2 < nI 0 := fun z => ha (q_cmpL.mp z)
        by_cases hb : q_rk x (q_so n k) (q_wd n k) b (p_abs (x (q_so n k + i))) = (q_bt x (q_so n k) (q_wd n k) b i).2
        · have hb' : lg_cmp (q_rk x (q_so n k) (q_wd n k) b (p_abs (x (q_so n k + i)))) (q_bt x (q_so n k) (q_wd n k) b i).2 = nI 0 := q_cmp0.mpr hb
          have hb2 : ¬ ¬ lg_cmp (q_rk x (q_so n k) (q_wd n k) b (p_abs (x (q_so n k + i)))) (q_bt x (q_so n k) (q_wd n k) b i).2 = nI 0 := fun z => z hb'
          by_cases hc : p_abs (x (q_so n k + i)) < (q_bt x (q_so n k) (q_wd n k) b i).1
          · have hc' : ¬ nI 0 ≤ lg_cmp (p_abs (x (q_so n k + i))) (q_bt x (q_so n k) (q_wd n k) b i).1 := fun z => absurd hc (Int64.not_lt.mpr (q_cmpG.mp z))
            rw [if_pos (Or.inr ⟨hb, hc⟩)] at hX
            have i1 := ih (i + 1) (.long (p_abs (x (q_so n k + i)))) (.long (q_rk x (q_so n k) (q_wd n k) b (p_abs (x (q_so n k + i))))) (by omega)
            rw [hX] at i1
            (conv => lhs; simp (disch := first | assumption | omega | (rw [nI_leI] <;> omega) | (rw [nI_ltI] <;> omega) | (rw [nI_eq] <;> omega) | (apply q_out <;> omega) | (apply q_nb; omega) | (apply q_n0 <;> omega)) only [M64, q_mag q_r4, e11, q_softRisk h, ↓if_pos, ↓if_neg, nI_add, q_sub, q_cl, p_bnd_s, p_bnd_v])
            exact i1
          · have hc' : nI 0 ≤ lg_cmp (p_abs (x (q_so n k + i))) (q_bt x (q_so n k) (q_wd n k) b i).1 := q_cmpG.mpr (Int64.not_lt.mp hc)
            rw [if_neg (fun z => z.elim ha (fun y => hc y.2))] at hX
            have i1 := ih (i + 1) (.long (p_abs (x (q_so n k + i)))) (.long (q_rk x (q_so n k) (q_wd n k) b (p_abs (x (q_so n k + i))))) (by omega)
            rw [hX] at i1
            (conv => lhs; simp (disch := first | assumption | omega | (rw [nI_leI] <;> omega) | (rw [nI_ltI] <;> omega) | (rw [nI_eq] <;> omega) | (apply q_out <;> omega) | (apply q_nb; omega) | (apply q_n0 <;> omega)) only [M64, q_mag q_r4, e11, q_softRisk h, ↓if_pos, ↓if_neg, nI_add, q_sub, q_cl, p_bnd_s, p_bnd_v])
            exact i1
        · have hb' : ¬ lg_cmp (q_rk x (q_so n k) (q_wd n k) b (p_abs (x (q_so n k + i)))) (q_bt x (q_so n k) (q_wd n k) b i).2 = nI 0 := fun z => hb (q_cmp0.mp z)
          rw [if_neg (fun z => z.elim ha (fun y => hb y.1))] at hX
          have i1 := ih (i + 1) (.long (p_abs (x (q_so n k + i)))) (.long (q_rk x (q_so n k) (q_wd n k) b (p_abs (x (q_so n k + i))))) (by omega)
          rw [hX] at i1
          (conv => lhs; simp (disch := first | assumption | omega | (rw [nI_leI] <;> omega) | (rw [nI_ltI] <;> omega) | (rw [nI_eq] <;> omega) | (apply q_out <;> omega) | (apply q_nb; omega) | (apply q_n0 <;> omega)) only [M64, q_mag q_r4, e11, q_softRisk h, ↓if_pos, ↓if_neg, nI_add, q_sub, q_cl, p_bnd_s, p_bnd_v])
          exact i1
    · have hm' : nI 0 < lg_cmp (p_abs (x (q_so n k + i))) (lN 100000) := q_cmpT.mpr (Int64.not_le.mp hm)
      rw [if_neg hm] at hX
      have i1 := ih (i + 1) (.long (p_abs (x (q_so n k + i)))) z11 (by omega)
      rw [hX] at i1
      (conv => lhs; simp (disch := first | assumption | omega | (rw [nI_leI] <;> omega) | (rw [nI_ltI] <;> omega) | (rw [nI_eq] <;> omega) | (apply q_out <;> omega) | (apply q_nb; omega) | (apply q_n0 <;> omega)) only [M64, q_mag q_r4, e11, ↓if_pos, ↓if_neg, nI_add, q_sub, q_cl, p_bnd_s, p_bnd_v])
      exact i1
theorem q_cBest (h : q_K n wv sp x w) {k : Nat} {b : Int32} (h1 : 1 ≤ k) (h2 : k < 16) (hx : q_ex sp k = true) (hs : sp k = false) (hb : nI 0 ≤ b ∧ b ≤ nI 1000) : p_ev none 64 0 [.ref 0, .int (nI k), .int b, p_U, p_U, p_U, p_U, p_U, p_U, p_U, p_U, p_U, p_U] [] w = some (.inl (some (.long (q_bt x (q_so n k) (q_wd n k) b (q_wd n k)).1)), w, 0) := by
  have h3 : q_ex sp (q_nt (nI k)) = true := by rw [q_nt_n h2]; exact hx
  have h4 : k < 2 ^ 31 := by omega
  have hs2 : ¬ sp k = true := by rw [hs]; exact Bool.false_ne_true
  (conv => lhs; simp (disch := first | assumption | omega | (rw [nI_leI] <;> omega) | (rw [nI_ltI] <;> omega) | (rw [nI_eq] <;> omega) | (apply q_out <;> omega) | (apply q_nb; omega) | (apply q_n0 <;> omega)) only [M64, q_reqNode h.1, q_reqNoise, q_reqLeaf h.1, q_softRisk h, q_startOf h.1, q_widthOf h.1, ↓if_pos, ↓if_neg, nI_add, q_sub, q_cl, p_bnd_s, p_bnd_v])
  exact q_best_l h h1 h2 (q_wd n k) 0 _ _ (by omega)
theorem q_cBest_x (h : q_K n wv sp x w) {a b : Int32} (hx : ¬ q_ex sp (q_nt a) = true) : p_ev none 64 0 [.ref 0, .int a, .int b, p_U, p_U, p_U, p_U, p_U, p_U, p_U, p_U, p_U, p_U] [] w = some (.inr (.inl 2), w, 1) := by
  (conv => lhs; simp (disch := first | assumption | omega | (rw [nI_leI] <;> omega) | (rw [nI_ltI] <;> omega) | (rw [nI_eq] <;> omega) | (apply q_out <;> omega) | (apply q_nb; omega) | (apply q_n0 <;> omega)) only [M64, q_reqNode h.1, ↓if_pos, ↓if_neg, nI_add, q_sub, q_cl, p_bnd_s, p_bnd_v])
  exact p_bnd_x (by decide +kernel) (by decide +kernel)
theorem q_cBest_n (h : q_K n wv sp x w) {a b : Int32} (hx : q_ex sp (q_nt a) = true) (hb : ¬ (nI 0 ≤ b ∧ b ≤ nI 1000)) : p_ev none 64 0 [.ref 0, .int a, .int b, p_U, p_U, p_U, p_U, p_U, p_U, p_U, p_U, p_U, p_U] [] w = some (.inr (.inl 0), w, 1) := by
  (conv => lhs; simp (disch := first | assumption | omega | (rw [nI_leI] <;> omega) | (rw [nI_ltI] <;> omega) | (rw [nI_eq] <;> omega) | (apply q_out <;> omega) | (apply q_nb; omega) | (apply q_n0 <;> omega)) only [M64, q_reqNode h.1, q_reqNoise, ↓if_pos, ↓if_neg, nI_add, q_sub, q_cl, p_bnd_s, p_bnd_v])
  exact p_bnd_x (by decide +kernel) (by decide +kernel)
theorem q_cBest_s (h : q_K n wv sp x w) {k : Nat} {b : Int32} (h2 : k < 16) (hx : q_ex sp k = true) (hb : nI 0 ≤ b ∧ b ≤ nI 1000) (hs : sp k = true) : p_ev none 64 0 [.ref 0, .int (nI k), .int b, p_U, p_U, p_U, p_U, p_U, p_U, p_U, p_U, p_U, p_U] [] w = some (.inr (.inl 1), w, 1) := by
  have h3 : q_ex sp (q_nt (nI k)) = true := by rw [q_nt_n h2]; exact hx
  have h4 : k < 2 ^ 31 := by omega
  (conv => lhs; simp (disch := first | assumption | omega | (rw [nI_leI] <;> omega) | (rw [nI_ltI] <;> omega) | (rw [nI_eq] <;> omega) | (apply q_out <;> omega) | (apply q_nb; omega) | (apply q_n0 <;> omega)) only [M64, q_reqNode h.1, q_reqNoise, q_reqLeaf h.1, ↓if_pos, ↓if_neg, nI_add, q_sub, q_cl, p_bnd_s, p_bnd_v])
  exact p_bnd_x (by decide +kernel) (by decide +kernel)
end Bt
