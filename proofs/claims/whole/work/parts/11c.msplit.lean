/-! THE REFERENCE: splitting and joining a row of a node -/
def q_eq2 (h : Nat) (p q : (Nat → Int64) × (Nat → Int64)) : Prop := ∀ j, j < h → p.1 j = q.1 j ∧ p.2 j = q.2 j
theorem q_nx_lt {h j : Nat} (h1 : 1 ≤ h) (hj : j < h) : q_nx h j < h := by unfold q_nx; split <;> omega
theorem q_ps_cg {wv step h : Nat} {sg : Int64} {p q : (Nat → Int64) × (Nat → Int64)} (h1 : 1 ≤ h) (hp : q_eq2 h p q) : q_eq2 h (q_ps wv step sg h p) (q_ps wv step sg h q) := by
  intro j hj
  unfold q_ps
  by_cases he : step % 2 = 0
  · rw [if_pos he, if_pos he]
    refine ⟨(hp j hj).1, ?_⟩
    simp only [q_pO]
    rw [q_seg_in (by omega), q_seg_in (by omega), (hp j hj).1, (hp j hj).2, (hp _ (q_nx_lt h1 hj)).1]
  · rw [if_neg he, if_neg he]
    refine ⟨?_, (hp j hj).2⟩
    simp only [q_pE]
    rw [q_seg_in (by omega), q_seg_in (by omega), (hp j hj).1, (hp j hj).2, (hp (j - 1) (by omega)).2]
theorem q_pu2_cg {wv h : Nat} (h1 : 1 ≤ h) : ∀ (d k : Nat) {p q : (Nat → Int64) × (Nat → Int64)}, q_eq2 h p q → q_eq2 h (q_pu2 wv h d k p) (q_pu2 wv h d k q)
  | 0, _, _, _, hp => hp
  | d + 1, k, _, _, hp => q_pu2_cg h1 d (k + 1) (q_ps_cg h1 hp)
theorem q_pd2_cg {wv h : Nat} (h1 : 1 ≤ h) : ∀ (k : Nat) {p q : (Nat → Int64) × (Nat → Int64)}, q_eq2 h p q → q_eq2 h (q_pd2 wv h k p) (q_pd2 wv h k q)
  | 0, _, _, hp => hp
  | k + 1, _, _, hp => q_pd2_cg h1 k (q_ps_cg h1 hp)
/-- a row of a node as evens and odds -/
def q_un2 (A : Nat → Int64) (node : Nat) : (Nat → Int64) × (Nat → Int64) := (fun j => A (32 * node + 2 * j), fun j => A (32 * node + 2 * j + 1))
/-- the same world, but for some long arrays -/
def q_kJ (w0 w : pW) (S : List Nat) : Prop := w.1 = w0.1 ∧ w.2.2 = w0.2.2 ∧ ∀ b, b ∉ S → w.2.1 b = w0.2.1 b
theorem q_kJ.rf {w : pW} {S : List Nat} : q_kJ w w S := ⟨rfl, rfl, fun _ _ => rfl⟩
theorem q_kJ.set {w0 w : pW} {S : List Nat} {a : Nat} {g : Nat → Int64} (h : q_kJ w0 w S) (ha : a ∈ S) : q_kJ w0 (w.1, q_r w.2.1 a g, w.2.2) S :=
  ⟨h.1, h.2.1, fun b hb => by rw [← h.2.2 b hb]; exact q_r_n (fun z => hb (z ▸ ha))⟩
theorem q_kJ.tr {w0 w1 w2 : pW} {S T : List Nat} (h : q_kJ w0 w1 S) (h2 : q_kJ w1 w2 T) : q_kJ w0 w2 (S ++ T) :=
  ⟨h2.1.trans h.1, h2.2.1.trans h.2.1, fun b hb => (h2.2.2 b (fun z => hb (List.mem_append_right _ z))).trans (h.2.2 b (fun z => hb (List.mem_append_left _ z)))⟩
theorem q_kJ.mono {w0 w : pW} {S T : List Nat} (h : q_kJ w0 w S) (hs : ∀ b ∈ S, b ∈ T) : q_kJ w0 w T := ⟨h.1, h.2.1, fun b hb => h.2.2 b (fun z => hb (hs b z))⟩
theorem q_kJ.M {n wv : Nat} {w0 w : pW} {S : List Nat} (h : q_kJ w0 w S) (hM : q_Mw n wv w0) : q_Mw n wv w := by
  unfold q_Mw at *; rw [h.1]; exact hM
section MS
variable {n wv : Nat} {w0 : pW}
theorem q_ms1 {a node h : Nat} (ha : p_lg a) (ha27 : a ≠ 27) (ha28 : a ≠ 28) (hn : node < 8) (hh : h ≤ 16) {A : Nat → Int64} (hA : w0.2.1 a = A) : ∀ (d k : Nat) (w : pW), k + d = h → q_kJ w0 w [27, 28] → (∀ j, j < k → w.2.1 27 j = (q_un2 A node).1 j ∧ w.2.1 28 j = (q_un2 A node).2 j) →
    ∃ w', p_ev none 110 11 [.ref 24, .ref a, .int (nI node), .int (nI h), .int (nI k)] [] w = p_ev none 110 64 [.ref 24, .ref a, .int (nI node), .int (nI h), .int (nI 0)] [] w' ∧ q_kJ w0 w' [27, 28] ∧ q_eq2 h (w'.2.1 27, w'.2.1 28) (q_un2 A node) := by
  intro d
  induction d with
  | zero =>
    intro k w hk hJ hI
    obtain rfl : k = h := by omega
    refine ⟨w, ?_, hJ, hI⟩
    (conv => lhs; simp (disch := first | assumption | omega | (rw [nI_leI] <;> omega) | (rw [nI_ltI] <;> omega) | (rw [nI_eq] <;> omega) | (apply q_out <;> omega) | (apply q_nb; omega) | (apply q_n0 <;> omega)) only [H110_11 a ha, M110 a ha, ↓if_pos, ↓if_neg, nI_add, q_sub, q_cl, p_bnd_s, p_bnd_v])
  | succ d ih =>
    intro k w hk hJ hI
    have hne : (27 : Nat) ≠ 28 := by decide
    have hA2 : w.2.1 a = A := by rw [← hA]; exact hJ.2.2 a (by simp [ha27, ha28])
    obtain ⟨w', h1, h2⟩ := ih (k + 1) (w.1, q_r (q_r w.2.1 27 (fun j => if j = k then A (32 * node + 2 * k) else w.2.1 27 j)) 28 (fun j => if j = k then A (32 * node + 2 * k + 1) else w.2.1 28 j), w.2.2) (by omega) ((hJ.set (a := 27) (by simp)).set (w := (w.1, _, w.2.2)) (a := 28) (by simp)) (fun j hj => by
      dsimp only
      rw [q_r_s, q_r_n (by decide), q_r_s]
      by_cases hjk : j = k
      · subst hjk; rw [if_pos rfl, if_pos rfl]; exact ⟨rfl, rfl⟩
      · rw [if_neg hjk, if_neg hjk]; exact hI j (by omega))
    refine ⟨w', ?_, h2⟩
    rw [H110_11 a ha]
    (conv => lhs; simp (disch := first | assumption | omega | (rw [nI_leI] <;> omega) | (rw [nI_ltI] <;> omega) | (rw [nI_eq] <;> omega) | (apply q_out <;> omega) | (apply q_nb; omega) | (apply q_n0 <;> omega)) only [M110 a ha, pk_mul, q_pu, q_r_s, q_r_n, q_r_r, hA2, ↓if_pos, ↓if_neg, nI_add, q_sub, q_cl, p_bnd_s, p_bnd_v])
    exact h1
theorem q_ms2 {a node h : Nat} (ha : p_lg a) (h1 : 1 ≤ h) (hh : h ≤ 16) (hM : q_Mw n wv w0) : ∀ (d k : Nat) (w : pW) (p : (Nat → Int64) × (Nat → Int64)), k + d = q_nst wv → q_kJ w0 w [27, 28] → q_eq2 h (w.2.1 27, w.2.1 28) p →
    ∃ w', p_ev none 110 64 [.ref 24, .ref a, .int (nI node), .int (nI h), .int (nI k)] [] w = p_ev none 110 90 [.ref 24, .ref a, .int (nI node), .int (nI h), .int (nI 0)] [] w' ∧ q_kJ w0 w' [27, 28] ∧ q_eq2 h (w'.2.1 27, w'.2.1 28) (q_pu2 wv h d k p) := by
  have hst : q_nst wv ≤ 4 := by unfold q_nst; split <;> omega
  intro d
  induction d with
  | zero =>
    intro k w p hk hJ hI
    refine ⟨w, ?_, hJ, hI⟩
    (conv => lhs; simp (disch := first | assumption | omega | (rw [nI_leI] <;> omega) | (rw [nI_ltI] <;> omega) | (rw [nI_eq] <;> omega) | (apply q_out <;> omega) | (apply q_nb; omega) | (apply q_n0 <;> omega)) only [H110_64 a ha, M110 a ha, q_msteps (hJ.M hM), ↓if_pos, ↓if_neg, nI_add, q_sub, q_cl, p_bnd_s, p_bnd_v])
  | succ d ih =>
    intro k w p hk hJ hI
    have hMw := hJ.M hM
    obtain ⟨w', e1, e2⟩ := ih (k + 1) (w.1, q_r (q_r w.2.1 27 (q_ps wv k (nI 1).toInt64 h (w.2.1 27, w.2.1 28)).1) 28 (q_ps wv k (nI 1).toInt64 h (w.2.1 27, w.2.1 28)).2, w.2.2) (q_ps wv k 1 h p) (by omega) ((hJ.set (a := 27) (by simp)).set (w := (w.1, _, w.2.2)) (a := 28) (by simp)) (fun j hj => by
      dsimp only
      rw [q_r_s, q_r_n (by decide), q_r_s]
      exact q_ps_cg h1 hI j hj)
    refine ⟨w', ?_, e2⟩
    rw [H110_64 a ha]
    (conv => lhs; simp (disch := first | assumption | omega | (rw [nI_leI] <;> omega) | (rw [nI_ltI] <;> omega) | (rw [nI_eq] <;> omega) | (apply q_out <;> omega) | (apply q_nb; omega) | (apply q_n0 <;> omega)) only [M110 a ha, q_msteps hMw, q_mstep h1 hh (show k < q_nst wv by omega) hMw, ↓if_pos, ↓if_neg, nI_add, q_sub, q_cl, p_bnd_s, p_bnd_v])
    exact e1
theorem q_ms3 {a node h : Nat} (ha : p_lg a) (ha27 : a ≠ 27) (ha28 : a ≠ 28) (hn : node < 8) (hh : h ≤ 16) {p : (Nat → Int64) × (Nat → Int64)} : ∀ (d k : Nat) (w : pW), k + d = h → q_kJ w0 w [27, 28, a] → q_eq2 h (w.2.1 27, w.2.1 28) p → (∀ j, j < k → w.2.1 a (64 * node + j) = p.1 j ∧ w.2.1 a (64 * node + 32 + j) = p.2 j) → (∀ j, ¬ (64 * node ≤ j ∧ j < 64 * node + 64) → w.2.1 a j = w0.2.1 a j) →
    ∃ w', p_ev none 110 90 [.ref 24, .ref a, .int (nI node), .int (nI h), .int (nI k)] [] w = some (.inl none, w', 0) ∧ q_kJ w0 w' [27, 28, a] ∧ (∀ j, j < h → w'.2.1 a (64 * node + j) = p.1 j ∧ w'.2.1 a (64 * node + 32 + j) = p.2 j) ∧ (∀ j, ¬ (64 * node ≤ j ∧ j < 64 * node + 64) → w'.2.1 a j = w0.2.1 a j) := by
  intro d
  induction d with
  | zero =>
    intro k w hk hJ hp hI hO
    obtain rfl : k = h := by omega
    refine ⟨w, ?_, hJ, hI, hO⟩
    (conv => lhs; simp (disch := first | assumption | omega | (rw [nI_leI] <;> omega) | (rw [nI_ltI] <;> omega) | (rw [nI_eq] <;> omega) | (apply q_out <;> omega) | (apply q_nb; omega) | (apply q_n0 <;> omega)) only [H110_90 a ha, M110 a ha, ↓if_pos, ↓if_neg, nI_add, q_sub, q_cl, p_bnd_s, p_bnd_v])
  | succ d ih =>
    intro k w hk hJ hp hI hO
    have h27 : 27 ≠ a := Ne.symm ha27
    have h28 : 28 ≠ a := Ne.symm ha28
    obtain ⟨w', h1, h2⟩ := ih (k + 1) (w.1, q_r w.2.1 a (fun j => if j = 32 * (2 * node + 1) + k then w.2.1 28 k else if j = 64 * node + k then w.2.1 27 k else w.2.1 a j), w.2.2) (by omega) (hJ.set (a := a) (by simp)) (fun j hj => by
      dsimp only
      rw [q_r_n h27, q_r_n h28]; exact hp j hj) (fun j hj => by
      dsimp only
      rw [q_r_s]
      by_cases hjk : j = k
      · subst hjk
        rw [if_neg (by omega), if_pos rfl, if_pos (by omega)]
        exact ⟨(hp j (by omega)).1, (hp j (by omega)).2⟩
      · rw [if_neg (by omega), if_neg (by omega), if_neg (by omega), if_neg (by omega)]
        exact hI j (by omega)) (fun j hj => by
      dsimp only
      rw [q_r_s, if_neg (by omega), if_neg (by omega)]
      exact hO j hj)
    refine ⟨w', ?_, h2⟩
    rw [H110_90 a ha]
    (conv => lhs; simp (disch := first | assumption | omega | (rw [nI_leI] <;> omega) | (rw [nI_ltI] <;> omega) | (rw [nI_eq] <;> omega) | (apply q_out <;> omega) | (apply q_nb; omega) | (apply q_n0 <;> omega)) only [M110 a ha, pk_mul, q_pu, q_r_s, q_r_n, q_r_r, ↓if_pos, ↓if_neg, nI_add, q_sub, q_cl, p_bnd_s, p_bnd_v])
    exact h1
theorem q_splitRow {a node : Nat} (ha : p_lg a) (ha27 : a ≠ 27) (ha28 : a ≠ 28) (hn : node < 8) (hM : q_Mw n wv w0) (hn32 : n ≤ 32) (h2 : 2 ≤ q_wd n node) :
    ∃ w', p_ev none 110 0 [.ref 24, .ref a, .int (nI node), p_U, p_U] [] w0 = some (.inl none, w', 0) ∧ q_kJ w0 w' [27, 28, a] ∧ (∀ j, j < q_wd n node / 2 → w'.2.1 a (64 * node + j) = (q_pu2 wv (q_wd n node / 2) (q_nst wv) 0 (q_un2 (w0.2.1 a) node)).1 j ∧ w'.2.1 a (64 * node + 32 + j) = (q_pu2 wv (q_wd n node / 2) (q_nst wv) 0 (q_un2 (w0.2.1 a) node)).2 j) ∧ (∀ j, ¬ (64 * node ≤ j ∧ j < 64 * node + 64) → w'.2.1 a j = w0.2.1 a j) := by
  have hw := q_wdle n node
  obtain ⟨w1, a1, a2, a3⟩ := q_ms1 (h := q_wd n node / 2) ha ha27 ha28 hn (by omega) (rfl : w0.2.1 a = _) (q_wd n node / 2) 0 w0 (by omega) q_kJ.rf (fun j hj => absurd hj (by omega))
  obtain ⟨w2, b1, b2, b3⟩ := q_ms2 (a := a) (node := node) ha (show 1 ≤ q_wd n node / 2 by omega) (by omega) hM (q_nst wv) 0 w1 _ (by omega) a2 a3
  have hA : w2.2.1 a = w0.2.1 a := b2.2.2 a (by simp [ha27, ha28])
  obtain ⟨w3, c1, c2, c3, c4⟩ := q_ms3 (h := q_wd n node / 2) ha ha27 ha28 hn (by omega) (q_wd n node / 2) 0 w2 (by omega) (b2.mono (fun b hb => by simp at hb ⊢; omega)) b3 (fun j hj => absurd hj (by omega)) (fun j _ => by rw [hA])
  refine ⟨w3, ?_, c2, c3, c4⟩
  (conv => lhs; simp (disch := first | assumption | omega | (rw [nI_leI] <;> omega) | (rw [nI_ltI] <;> omega) | (rw [nI_eq] <;> omega) | (apply q_out <;> omega) | (apply q_nb; omega) | (apply q_n0 <;> omega)) only [M110 a ha, q_sizeAt hM, q_div, a1, ↓if_pos, ↓if_neg, nI_add, q_sub, q_cl, p_bnd_s, p_bnd_v])
  rw [b1, c1]
end MS
