/-! THE CLASS: RISKS -/
/-- one step of a risk: variance V, threshold T -/
def q_r1 (V T R v : Int64) : Int64 := if p_abs v ≤ T then R + p_min (p_abs v) T * p_min (p_abs v) T - lN 2 * V else R + p_min (p_abs v) T * p_min (p_abs v) T
def q_ra (x : Nat → Int64) (s : Nat) (V T R : Int64) : Nat → Int64
  | 0 => R
  | m + 1 => q_r1 V T (q_ra x s V T R m) (x (s + m))
def q_rk (x : Nat → Int64) (s m : Nat) (b : Int32) (T : Int64) : Int64 := q_ra x s (b.toInt64 * b.toInt64) T (lN m * (b.toInt64 * b.toInt64)) m
/-- the best threshold so far and its risk, after m places -/
def q_bt (x : Nat → Int64) (s w : Nat) (b : Int32) : Nat → Int64 × Int64
  | 0 => (lN 0, q_rk x s w b (lN 0))
  | m + 1 => if p_abs (x (s + m)) ≤ lN 100000 then if q_rk x s w b (p_abs (x (s + m))) < (q_bt x s w b m).2 ∨ (q_rk x s w b (p_abs (x (s + m))) = (q_bt x s w b m).2 ∧ p_abs (x (s + m)) < (q_bt x s w b m).1) then (p_abs (x (s + m)), q_rk x s w b (p_abs (x (s + m)))) else q_bt x s w b m else q_bt x s w b m
section Ri
variable {n wv : Nat} {sp : Nat → Bool} {x : Nat → Int64} {w : pW}
theorem q_risk_l {s m : Nat} (hb : s + m ≤ 32) {V T R : Int64} (x1 x2 : Int32) : ∀ (d i : Nat) (z11 z13 : Value), i + d = m → p_ev none 89 50 [.ref 0, .int x1, .int x2, .long T, p_U, .long V, p_U, .long (q_ra (w.2.1 11) s V T R i), p_U, .int (nI (s + m)), .int (nI (s + i)), z11, p_U, z13, p_U] [] w = some (.inl (some (.long (q_ra (w.2.1 11) s V T R m))), w, 0) := by
  intro d
  induction d with
  | zero =>
    intro i z11 z13 hi
    obtain rfl : i = m := by omega
    rw [H89_50]
    (conv => lhs; simp (disch := first | assumption | omega | (rw [nI_leI] <;> omega) | (rw [nI_ltI] <;> omega) | (rw [nI_eq] <;> omega) | (apply q_out <;> omega) | (apply q_nb; omega) | (apply q_n0 <;> omega)) only [M89, ↓if_pos, ↓if_neg, nI_add, q_sub, q_cl, p_bnd_s, p_bnd_v])
  | succ d ih =>
    intro i z11 z13 hi
    rw [H89_50]
    by_cases hm : p_abs (w.2.1 11 (s + i)) ≤ T
    · have hm' : ¬ nI 0 < lg_cmp (p_abs (w.2.1 11 (s + i))) T := fun z => absurd (q_cmpT.mp z) (Int64.not_lt.mpr hm)
      have e : q_ra (w.2.1 11) s V T R (i + 1) = q_ra (w.2.1 11) s V T R i + p_min (p_abs (w.2.1 11 (s + i))) T * p_min (p_abs (w.2.1 11 (s + i))) T - lN 2 * V := by rw [q_ra, q_r1, if_pos hm]
      (conv => lhs; simp (disch := first | assumption | omega | (rw [nI_leI] <;> omega) | (rw [nI_ltI] <;> omega) | (rw [nI_eq] <;> omega) | (apply q_out <;> omega) | (apply q_nb; omega) | (apply q_n0 <;> omega)) only [M89, q_mag q_r4, ↓if_pos, ↓if_neg, nI_add, q_sub, q_cl, p_bnd_s, p_bnd_v])
      rw [← e]
      exact ih (i + 1) _ _ (by omega)
    · have hm' : nI 0 < lg_cmp (p_abs (w.2.1 11 (s + i))) T := q_cmpT.mpr (Int64.not_le.mp hm)
      have e : q_ra (w.2.1 11) s V T R (i + 1) = q_ra (w.2.1 11) s V T R i + p_min (p_abs (w.2.1 11 (s + i))) T * p_min (p_abs (w.2.1 11 (s + i))) T := by rw [q_ra, q_r1, if_neg hm]
      (conv => lhs; simp (disch := first | assumption | omega | (rw [nI_leI] <;> omega) | (rw [nI_ltI] <;> omega) | (rw [nI_eq] <;> omega) | (apply q_out <;> omega) | (apply q_nb; omega) | (apply q_n0 <;> omega)) only [M89, q_mag q_r4, ↓if_pos, ↓if_neg, nI_add, q_sub, q_cl, p_bnd_s, p_bnd_v])
      rw [← e]
      exact ih (i + 1) _ _ (by omega)
theorem q_softRisk (h : q_K n wv sp x w) {k : Nat} (h1 : 1 ≤ k) (h2 : k < 16) {b : Int32} {T : Int64} : p_ev none 89 0 [.ref 0, .int (nI k), .int b, .long T, p_U, p_U, p_U, p_U, p_U, p_U, p_U, p_U, p_U, p_U, p_U] [] w = some (.inl (some (.long (q_rk x (q_so n k) (q_wd n k) b T))), w, 0) := by
  have hg := q_geo0 k h1 h2 n h.2.1.1
  have hn := h.2.1.n32
  have hw := q_wdle n k
  rw [← h.2.2]
  (conv => lhs; simp (disch := first | assumption | omega | (rw [nI_leI] <;> omega) | (rw [nI_ltI] <;> omega) | (rw [nI_eq] <;> omega) | (apply q_out <;> omega) | (apply q_nb; omega) | (apply q_n0 <;> omega)) only [M89, q_startOf h.1, q_widthOf h.1, nI_l, ↓if_pos, ↓if_neg, nI_add, q_sub, q_cl, p_bnd_s, p_bnd_v])
  exact q_risk_l (show q_so n k + q_wd n k ≤ 32 by omega) _ _ (q_wd n k) 0 _ _ (by omega)
theorem q_cRisk (h : q_K n wv sp x w) {k t : Nat} {b : Int32} (h1 : 1 ≤ k) (h2 : k < 16) (hx : q_ex sp k = true) (hs : sp k = false) (hb : nI 0 ≤ b ∧ b ≤ nI 1000) (ht : t ≤ 100000) : p_ev none 63 0 [.ref 0, .int (nI k), .int b, .int (nI t)] [] w = some (.inl (some (.long (q_rk x (q_so n k) (q_wd n k) b (lN t)))), w, 0) := by
  have h3 : q_ex sp (q_nt (nI k)) = true := by rw [q_nt_n h2]; exact hx
  have h4 : k < 2 ^ 31 := by omega
  have ht1 : nI 0 ≤ nI t ∧ nI t ≤ nI 100000 := ⟨(nI_leI (by omega) (by omega)).mpr (by omega), (nI_leI (by omega) (by omega)).mpr ht⟩
  have hs2 : ¬ sp k = true := by rw [hs]; exact Bool.false_ne_true
  (conv => lhs; simp (disch := first | assumption | omega | (rw [nI_leI] <;> omega) | (rw [nI_ltI] <;> omega) | (rw [nI_eq] <;> omega) | (apply q_out <;> omega) | (apply q_nb; omega) | (apply q_n0 <;> omega)) only [M63, q_reqNode h.1, q_reqNoise, q_reqThreshold, q_reqLeaf h.1, q_softRisk h, nI_l, ↓if_pos, ↓if_neg, nI_add, q_sub, q_cl, p_bnd_s, p_bnd_v])
theorem q_cRisk_x (h : q_K n wv sp x w) {a b c : Int32} (hx : ¬ q_ex sp (q_nt a) = true) : p_ev none 63 0 [.ref 0, .int a, .int b, .int c] [] w = some (.inr (.inl 2), w, 1) := by
  (conv => lhs; simp (disch := first | assumption | omega | (rw [nI_leI] <;> omega) | (rw [nI_ltI] <;> omega) | (rw [nI_eq] <;> omega) | (apply q_out <;> omega) | (apply q_nb; omega) | (apply q_n0 <;> omega)) only [M63, q_reqNode h.1, ↓if_pos, ↓if_neg, nI_add, q_sub, q_cl, p_bnd_s, p_bnd_v])
  exact p_bnd_x (by decide +kernel) (by decide +kernel)
theorem q_cRisk_n (h : q_K n wv sp x w) {a b c : Int32} (hx : q_ex sp (q_nt a) = true) (hb : ¬ (nI 0 ≤ b ∧ b ≤ nI 1000)) : p_ev none 63 0 [.ref 0, .int a, .int b, .int c] [] w = some (.inr (.inl 0), w, 1) := by
  (conv => lhs; simp (disch := first | assumption | omega | (rw [nI_leI] <;> omega) | (rw [nI_ltI] <;> omega) | (rw [nI_eq] <;> omega) | (apply q_out <;> omega) | (apply q_nb; omega) | (apply q_n0 <;> omega)) only [M63, q_reqNode h.1, q_reqNoise, ↓if_pos, ↓if_neg, nI_add, q_sub, q_cl, p_bnd_s, p_bnd_v])
  exact p_bnd_x (by decide +kernel) (by decide +kernel)
theorem q_cRisk_t (h : q_K n wv sp x w) {a b c : Int32} (hx : q_ex sp (q_nt a) = true) (hb : nI 0 ≤ b ∧ b ≤ nI 1000) (hc : ¬ (nI 0 ≤ c ∧ c ≤ nI 100000)) : p_ev none 63 0 [.ref 0, .int a, .int b, .int c] [] w = some (.inr (.inl 0), w, 1) := by
  (conv => lhs; simp (disch := first | assumption | omega | (rw [nI_leI] <;> omega) | (rw [nI_ltI] <;> omega) | (rw [nI_eq] <;> omega) | (apply q_out <;> omega) | (apply q_nb; omega) | (apply q_n0 <;> omega)) only [M63, q_reqNode h.1, q_reqNoise, q_reqThreshold, ↓if_pos, ↓if_neg, nI_add, q_sub, q_cl, p_bnd_s, p_bnd_v])
  exact p_bnd_x (by decide +kernel) (by decide +kernel)
theorem q_cRisk_s (h : q_K n wv sp x w) {k : Nat} {b c : Int32} (h2 : k < 16) (hx : q_ex sp k = true) (hb : nI 0 ≤ b ∧ b ≤ nI 1000) (hc : nI 0 ≤ c ∧ c ≤ nI 100000) (hs : sp k = true) : p_ev none 63 0 [.ref 0, .int (nI k), .int b, .int c] [] w = some (.inr (.inl 1), w, 1) := by
  have h3 : q_ex sp (q_nt (nI k)) = true := by rw [q_nt_n h2]; exact hx
  have h4 : k < 2 ^ 31 := by omega
  (conv => lhs; simp (disch := first | assumption | omega | (rw [nI_leI] <;> omega) | (rw [nI_ltI] <;> omega) | (rw [nI_eq] <;> omega) | (apply q_out <;> omega) | (apply q_nb; omega) | (apply q_n0 <;> omega)) only [M63, q_reqNode h.1, q_reqNoise, q_reqThreshold, q_reqLeaf h.1, ↓if_pos, ↓if_neg, nI_add, q_sub, q_cl, p_bnd_s, p_bnd_v])
  exact p_bnd_x (by decide +kernel) (by decide +kernel)
end Ri
