/-! THE REFERENCE: joining -/
/-- the children's rows of a node as evens and odds -/
def q_ch2 (A : Nat → Int64) (node : Nat) : (Nat → Int64) × (Nat → Int64) := (fun j => A (64 * node + j), fun j => A (64 * node + 32 + j))
section MJ
variable {n wv : Nat} {w0 : pW}
theorem q_mj1 {a node h : Nat} (ha : p_lg a) (ha27 : a ≠ 27) (ha28 : a ≠ 28) (hn : node < 8) (hh : h ≤ 16) {A : Nat → Int64} (hA : w0.2.1 a = A) : ∀ (d k : Nat) (w : pW), k + d = h → q_kJ w0 w [27, 28] → (∀ j, j < k → w.2.1 27 j = (q_ch2 A node).1 j ∧ w.2.1 28 j = (q_ch2 A node).2 j) →
    ∃ w', p_ev none 111 11 [.ref 24, .ref a, .int (nI node), .int (nI h), .int (nI k)] [] w = p_ev none 111 59 [.ref 24, .ref a, .int (nI node), .int (nI h), .int (nI h)] [] w' ∧ q_kJ w0 w' [27, 28] ∧ q_eq2 h (w'.2.1 27, w'.2.1 28) (q_ch2 A node) := by
  intro d
  induction d with
  | zero =>
    intro k w hk hJ hI
    obtain rfl : k = h := by omega
    refine ⟨w, ?_, hJ, hI⟩
    rw [H111_11 a ha]
    simp (disch := first | omega | (rw [nI_leI] <;> omega)) only [(M111 a ha), ↓if_pos]
  | succ d ih =>
    intro k w hk hJ hI
    have hne : (27 : Nat) ≠ 28 := by decide
    have hA2 : w.2.1 a = A := by rw [← hA]; exact hJ.2.2 a (by simp [ha27, ha28])
    obtain ⟨w', h1, h2⟩ := ih (k + 1) (w.1, q_r (q_r w.2.1 27 (fun j => if j = k then A (64 * node + k) else w.2.1 27 j)) 28 (fun j => if j = k then A (32 * (2 * node + 1) + k) else w.2.1 28 j), w.2.2) (by omega) ((hJ.set (a := 27) (by simp)).set (w := (w.1, _, w.2.2)) (a := 28) (by simp)) (fun j hj => by
      dsimp only
      rw [q_r_s, q_r_n (by decide), q_r_s]
      by_cases hjk : j = k
      · subst hjk; rw [if_pos rfl, if_pos rfl]; exact ⟨rfl, congrArg A (by omega)⟩
      · rw [if_neg hjk, if_neg hjk]; exact hI j (by omega))
    refine ⟨w', ?_, h2⟩
    rw [H111_11 a ha]
    (conv => lhs; simp (disch := first | assumption | omega | (rw [nI_leI] <;> omega) | (rw [nI_ltI] <;> omega) | (rw [nI_eq] <;> omega) | (apply q_out <;> omega) | (apply q_nb; omega) | (apply q_n0 <;> omega)) only [M111 a ha, pk_mul, q_pu, q_r_s, q_r_n, q_r_r, hA2, ↓if_pos, ↓if_neg, nI_add, q_sub, q_cl, p_bnd_s, p_bnd_v])
    exact h1
theorem q_mj2 {a node h : Nat} (ha : p_lg a) (h1 : 1 ≤ h) (hh : h ≤ 16) (hM : q_Mw n wv w0) : ∀ (k : Nat) (w : pW) (p : (Nat → Int64) × (Nat → Int64)), k ≤ q_nst wv → q_kJ w0 w [27, 28] → q_eq2 h (w.2.1 27, w.2.1 28) p →
    ∃ w', p_ev none 111 67 [.ref 24, .ref a, .int (nI node), .int (nI h), .int (nI k + (-1))] [] w = p_ev none 111 89 [.ref 24, .ref a, .int (nI node), .int (nI h), .int (nI 0)] [] w' ∧ q_kJ w0 w' [27, 28] ∧ q_eq2 h (w'.2.1 27, w'.2.1 28) (q_pd2 wv h k p) := by
  have hst : q_nst wv ≤ 4 := by unfold q_nst; split <;> omega
  intro k
  induction k with
  | zero =>
    intro w p hk hJ hI
    refine ⟨w, ?_, hJ, hI⟩
    have e : nI 0 + (-1) = (-1 : Int32) := by decide
    have e2 : (-1 : Int32) < nI 0 := by decide
    rw [e]
    (conv => lhs; simp (disch := first | assumption | omega | (rw [nI_leI] <;> omega) | (rw [nI_ltI] <;> omega) | (rw [nI_eq] <;> omega) | (apply q_out <;> omega) | (apply q_nb; omega) | (apply q_n0 <;> omega)) only [H111_67 a ha, M111 a ha, ↓if_pos, ↓if_neg, nI_add, q_sub, q_cl, p_bnd_s, p_bnd_v])
  | succ k ih =>
    intro w p hk hJ hI
    have hMw := hJ.M hM
    obtain ⟨w', e1, e2⟩ := ih (w.1, q_r (q_r w.2.1 27 (q_ps wv k (-1 : Int32).toInt64 h (w.2.1 27, w.2.1 28)).1) 28 (q_ps wv k (-1 : Int32).toInt64 h (w.2.1 27, w.2.1 28)).2, w.2.2) (q_ps wv k (-1) h p) (by omega) ((hJ.set (a := 27) (by simp)).set (w := (w.1, _, w.2.2)) (a := 28) (by simp)) (fun j hj => by
      dsimp only
      rw [q_r_s, q_r_n (by decide), q_r_s]
      exact q_ps_cg h1 hI j hj)
    refine ⟨w', ?_, e2⟩
    rw [q_m1 (by omega), Nat.add_sub_cancel, H111_67 a ha]
    (conv => lhs; simp (disch := first | assumption | omega | (rw [nI_leI] <;> omega) | (rw [nI_ltI] <;> omega) | (rw [nI_eq] <;> omega) | (apply q_out <;> omega) | (apply q_nb; omega) | (apply q_n0 <;> omega)) only [M111 a ha, q_mstep h1 hh (show k < q_nst wv by omega) hMw, ↓if_pos, ↓if_neg, nI_add, q_sub, q_cl, p_bnd_s, p_bnd_v])
    exact e1
theorem q_mj3 {a node h : Nat} (ha : p_lg a) (ha27 : a ≠ 27) (ha28 : a ≠ 28) (hn : node < 8) (hh : h ≤ 16) {p : (Nat → Int64) × (Nat → Int64)} : ∀ (d k : Nat) (w : pW), k + d = h → q_kJ w0 w [27, 28, a] → q_eq2 h (w.2.1 27, w.2.1 28) p → (∀ j, j < k → w.2.1 a (32 * node + 2 * j) = p.1 j ∧ w.2.1 a (32 * node + 2 * j + 1) = p.2 j) → (∀ j, ¬ (32 * node ≤ j ∧ j < 32 * node + 2 * h) → w.2.1 a j = w0.2.1 a j) →
    ∃ w', p_ev none 111 89 [.ref 24, .ref a, .int (nI node), .int (nI h), .int (nI k)] [] w = some (.inl none, w', 0) ∧ q_kJ w0 w' [27, 28, a] ∧ (∀ j, j < h → w'.2.1 a (32 * node + 2 * j) = p.1 j ∧ w'.2.1 a (32 * node + 2 * j + 1) = p.2 j) ∧ (∀ j, ¬ (32 * node ≤ j ∧ j < 32 * node + 2 * h) → w'.2.1 a j = w0.2.1 a j) := by
  intro d
  induction d with
  | zero =>
    intro k w hk hJ hp hI hO
    obtain rfl : k = h := by omega
    refine ⟨w, ?_, hJ, hI, hO⟩
    (conv => lhs; simp (disch := first | assumption | omega | (rw [nI_leI] <;> omega) | (rw [nI_ltI] <;> omega) | (rw [nI_eq] <;> omega) | (apply q_out <;> omega) | (apply q_nb; omega) | (apply q_n0 <;> omega)) only [H111_89 a ha, M111 a ha, ↓if_pos, ↓if_neg, nI_add, q_sub, q_cl, p_bnd_s, p_bnd_v])
  | succ d ih =>
    intro k w hk hJ hp hI hO
    have h27 : 27 ≠ a := Ne.symm ha27
    have h28 : 28 ≠ a := Ne.symm ha28
    obtain ⟨w', h1, h2⟩ := ih (k + 1) (w.1, q_r w.2.1 a (fun j => if j = 32 * node + 2 * k + 1 then w.2.1 28 k else if j = 32 * node + 2 * k then w.2.1 27 k else w.2.1 a j), w.2.2) (by omega) (hJ.set (a := a) (by simp)) (fun j hj => by
      dsimp only
      rw [q_r_n h27, q_r_n h28]; exact hp j hj) (fun j hj => by
      dsimp only
      rw [q_r_s]
      by_cases hjk : j = k
      · subst hjk
        rw [if_neg (by omega), if_pos rfl, if_pos rfl]
        exact ⟨(hp j (by omega)).1, (hp j (by omega)).2⟩
      · rw [if_neg (by omega), if_neg (by omega), if_neg (by omega), if_neg (by omega)]
        exact hI j (by omega)) (fun j hj => by
      dsimp only
      rw [q_r_s, if_neg (by omega), if_neg (by omega)]
      exact hO j hj)
    refine ⟨w', ?_, h2⟩
    rw [H111_89 a ha]
    (conv => lhs; simp (disch := first | assumption | omega | (rw [nI_leI] <;> omega) | (rw [nI_ltI] <;> omega) | (rw [nI_eq] <;> omega) | (apply q_out <;> omega) | (apply q_nb; omega) | (apply q_n0 <;> omega)) only [M111 a ha, pk_mul, q_pu, q_r_s, q_r_n, q_r_r, ↓if_pos, ↓if_neg, nI_add, q_sub, q_cl, p_bnd_s, p_bnd_v])
    exact h1
theorem q_joinRow {a node : Nat} (ha : p_lg a) (ha27 : a ≠ 27) (ha28 : a ≠ 28) (hn : node < 8) (hM : q_Mw n wv w0) (hn32 : n ≤ 32) (h2 : 2 ≤ q_wd n node) :
    ∃ w', p_ev none 111 0 [.ref 24, .ref a, .int (nI node), p_U, p_U] [] w0 = some (.inl none, w', 0) ∧ q_kJ w0 w' [27, 28, a] ∧ (∀ j, j < q_wd n node / 2 → w'.2.1 a (32 * node + 2 * j) = (q_pd2 wv (q_wd n node / 2) (q_nst wv) (q_ch2 (w0.2.1 a) node)).1 j ∧ w'.2.1 a (32 * node + 2 * j + 1) = (q_pd2 wv (q_wd n node / 2) (q_nst wv) (q_ch2 (w0.2.1 a) node)).2 j) ∧ (∀ j, ¬ (32 * node ≤ j ∧ j < 32 * node + 2 * (q_wd n node / 2)) → w'.2.1 a j = w0.2.1 a j) := by
  have hw := q_wdle n node
  have hst : q_nst wv ≤ 4 ∧ 1 ≤ q_nst wv := by unfold q_nst; split <;> omega
  obtain ⟨w1, a1, a2, a3⟩ := q_mj1 (h := q_wd n node / 2) ha ha27 ha28 hn (by omega) (rfl : w0.2.1 a = _) (q_wd n node / 2) 0 w0 (by omega) q_kJ.rf (fun j hj => absurd hj (by omega))
  obtain ⟨w2, b1, b2, b3⟩ := q_mj2 (a := a) (node := node) ha (show 1 ≤ q_wd n node / 2 by omega) (by omega) hM (q_nst wv) w1 _ (Nat.le_refl _) a2 a3
  have hA : w2.2.1 a = w0.2.1 a := b2.2.2 a (by simp [ha27, ha28])
  obtain ⟨w3, c1, c2, c3, c4⟩ := q_mj3 (h := q_wd n node / 2) ha ha27 ha28 hn (by omega) (q_wd n node / 2) 0 w2 (by omega) (b2.mono (fun b hb => by simp at hb ⊢; omega)) b3 (fun j hj => absurd hj (by omega)) (fun j _ => by rw [hA])
  refine ⟨w3, ?_, c2, c3, c4⟩
  have e0 : nI (q_nst wv) - nI 1 = nI (q_nst wv) + (-1) := by rw [q_m1 hst.2, q_sub hst.2]
  (conv => lhs; simp (disch := first | assumption | omega | (rw [nI_leI] <;> omega) | (rw [nI_ltI] <;> omega) | (rw [nI_eq] <;> omega) | (apply q_out <;> omega) | (apply q_nb; omega) | (apply q_n0 <;> omega)) only [M111 a ha, q_sizeAt hM, q_div, a1, ↓if_pos, ↓if_neg, nI_add, q_sub, q_cl, p_bnd_s, p_bnd_v])
  rw [q_msteps (a2.M hM), p_bnd_s]
  (conv => lhs; simp only [M111 a ha, e0])
  rw [b1, c1]
end MJ
