/-! THE CLASS: CALLS THAT CHANGE A LEAF -/
section Le
variable {n wv : Nat} {sp : Nat → Bool} {x : Nat → Int64} {w : pW}
theorem q_T.n32 {n : Nat} {sp : Nat → Bool} (h : q_T n sp) : n ≤ 32 := by rcases h.1 with z | z | z | z <;> omega
theorem q_zeroUpTo (h : q_K n wv sp x w) {k t e : Nat} (h1 : 1 ≤ k) (h2 : k < 16) (ht : t < 2 ^ 31) (he : e < 2 ^ 31) : p_ev none 88 0 [.ref 0, .int (nI k), .int (nI t), .int (nI e), p_U, p_U, p_U, p_U, p_U] [] w = some (.inl (some (.int (nI (q_zc t x (q_so n k) (q_wd n k))))), (w.1, q_r w.2.1 11 (q_seg (q_so n k) (q_wd n k) (fun j => q_z t e (x j)) x), w.2.2), 0) := by
  have hg := q_geo0 k h1 h2 n h.2.1.1
  have hn := h.2.1.n32
  have hl := q_zero_l (x := x) (w := w) (show q_so n k + q_wd n k ≤ 32 by omega) ht he (nI k) (q_wd n k) 0 p_U (by omega)
  rw [q_seg_0, ← h.2.2, q_r_id] at hl
  rw [← h.2.2]
  (conv => lhs; simp (disch := first | assumption | omega | (rw [nI_leI] <;> omega) | (rw [nI_ltI] <;> omega) | (rw [nI_eq] <;> omega) | (apply q_out <;> omega) | (apply q_nb; omega) | (apply q_n0 <;> omega)) only [M88, q_startOf h.1, q_widthOf h.1, ↓if_pos, ↓if_neg, nI_add, q_sub, q_cl, p_bnd_s, p_bnd_v])
  exact hl
theorem q_cHard (h : q_K n wv sp x w) {k t : Nat} (h1 : 1 ≤ k) (h2 : k < 16) (hx : q_ex sp k = true) (hs : sp k = false) (ht : t ≤ 100000) : q_Z w n wv sp (q_seg (q_so n k) (q_wd n k) (fun j => q_z t 0 (x j)) x) (p_ev none 61 0 [.ref 0, .int (nI k), .int (nI t)] [] w) (some (.int (nI (q_zc t x (q_so n k) (q_wd n k))))) := by
  have h3 : q_ex sp (q_nt (nI k)) = true := by rw [q_nt_n h2]; exact hx
  have h4 : k < 2 ^ 31 := by omega
  have ht1 : nI 0 ≤ nI t ∧ nI t ≤ nI 100000 := ⟨(nI_leI (by omega) (by omega)).mpr (by omega), (nI_leI (by omega) (by omega)).mpr ht⟩
  have hs2 : ¬ sp k = true := by rw [hs]; exact Bool.false_ne_true
  refine ⟨_, ?_, q_K_row h (J := q_r w.2.1 11 (q_seg (q_so n k) (q_wd n k) (fun j => q_z t 0 (x j)) x)) q_r_s, q_FC.l (fun a ha => q_r_n (by omega))⟩
  (conv => lhs; simp (disch := first | assumption | omega | (rw [nI_leI] <;> omega) | (rw [nI_ltI] <;> omega) | (rw [nI_eq] <;> omega) | (apply q_out <;> omega) | (apply q_nb; omega) | (apply q_n0 <;> omega)) only [M61, q_reqNode h.1, q_reqThreshold, q_reqLeaf h.1, q_zeroUpTo h, ↓if_pos, ↓if_neg, nI_add, q_sub, q_cl, p_bnd_s, p_bnd_v])
theorem q_cSoft (h : q_K n wv sp x w) {k t : Nat} (h1 : 1 ≤ k) (h2 : k < 16) (hx : q_ex sp k = true) (hs : sp k = false) (ht : t ≤ 100000) : q_Z w n wv sp (q_seg (q_so n k) (q_wd n k) (fun j => q_z t t (x j)) x) (p_ev none 62 0 [.ref 0, .int (nI k), .int (nI t)] [] w) (some (.int (nI (q_zc t x (q_so n k) (q_wd n k))))) := by
  have h3 : q_ex sp (q_nt (nI k)) = true := by rw [q_nt_n h2]; exact hx
  have h4 : k < 2 ^ 31 := by omega
  have ht1 : nI 0 ≤ nI t ∧ nI t ≤ nI 100000 := ⟨(nI_leI (by omega) (by omega)).mpr (by omega), (nI_leI (by omega) (by omega)).mpr ht⟩
  have hs2 : ¬ sp k = true := by rw [hs]; exact Bool.false_ne_true
  refine ⟨_, ?_, q_K_row h (J := q_r w.2.1 11 (q_seg (q_so n k) (q_wd n k) (fun j => q_z t t (x j)) x)) q_r_s, q_FC.l (fun a ha => q_r_n (by omega))⟩
  (conv => lhs; simp (disch := first | assumption | omega | (rw [nI_leI] <;> omega) | (rw [nI_ltI] <;> omega) | (rw [nI_eq] <;> omega) | (apply q_out <;> omega) | (apply q_nb; omega) | (apply q_n0 <;> omega)) only [M62, q_reqNode h.1, q_reqThreshold, q_reqLeaf h.1, q_zeroUpTo h, ↓if_pos, ↓if_neg, nI_add, q_sub, q_cl, p_bnd_s, p_bnd_v])
/-- no such node: thrown first -/
theorem q_cHard_x (h : q_K n wv sp x w) {a b : Int32} (hx : ¬ q_ex sp (q_nt a) = true) : p_ev none 61 0 [.ref 0, .int a, .int b] [] w = some (.inr (.inl 2), w, 1) := by
  (conv => lhs; simp (disch := first | assumption | omega | (rw [nI_leI] <;> omega) | (rw [nI_ltI] <;> omega) | (rw [nI_eq] <;> omega) | (apply q_out <;> omega) | (apply q_nb; omega) | (apply q_n0 <;> omega)) only [M61, q_reqNode h.1, ↓if_pos, ↓if_neg, nI_add, q_sub, q_cl, p_bnd_s, p_bnd_v])
  exact p_bnd_x (by decide +kernel) (by decide +kernel)
theorem q_cHard_t (h : q_K n wv sp x w) {a b : Int32} (hx : q_ex sp (q_nt a) = true) (ht : ¬ (nI 0 ≤ b ∧ b ≤ nI 100000)) : p_ev none 61 0 [.ref 0, .int a, .int b] [] w = some (.inr (.inl 0), w, 1) := by
  (conv => lhs; simp (disch := first | assumption | omega | (rw [nI_leI] <;> omega) | (rw [nI_ltI] <;> omega) | (rw [nI_eq] <;> omega) | (apply q_out <;> omega) | (apply q_nb; omega) | (apply q_n0 <;> omega)) only [M61, q_reqNode h.1, q_reqThreshold, ↓if_pos, ↓if_neg, nI_add, q_sub, q_cl, p_bnd_s, p_bnd_v])
  exact p_bnd_x (by decide +kernel) (by decide +kernel)
theorem q_cHard_s (h : q_K n wv sp x w) {k : Nat} {b : Int32} (h2 : k < 16) (hx : q_ex sp k = true) (ht : nI 0 ≤ b ∧ b ≤ nI 100000) (hs : sp k = true) : p_ev none 61 0 [.ref 0, .int (nI k), .int b] [] w = some (.inr (.inl 1), w, 1) := by
  have h3 : q_ex sp (q_nt (nI k)) = true := by rw [q_nt_n h2]; exact hx
  have h4 : k < 2 ^ 31 := by omega
  (conv => lhs; simp (disch := first | assumption | omega | (rw [nI_leI] <;> omega) | (rw [nI_ltI] <;> omega) | (rw [nI_eq] <;> omega) | (apply q_out <;> omega) | (apply q_nb; omega) | (apply q_n0 <;> omega)) only [M61, q_reqNode h.1, q_reqThreshold, q_reqLeaf h.1, ↓if_pos, ↓if_neg, nI_add, q_sub, q_cl, p_bnd_s, p_bnd_v])
  exact p_bnd_x (by decide +kernel) (by decide +kernel)
theorem q_cSoft_x (h : q_K n wv sp x w) {a b : Int32} (hx : ¬ q_ex sp (q_nt a) = true) : p_ev none 62 0 [.ref 0, .int a, .int b] [] w = some (.inr (.inl 2), w, 1) := by
  (conv => lhs; simp (disch := first | assumption | omega | (rw [nI_leI] <;> omega) | (rw [nI_ltI] <;> omega) | (rw [nI_eq] <;> omega) | (apply q_out <;> omega) | (apply q_nb; omega) | (apply q_n0 <;> omega)) only [M62, q_reqNode h.1, ↓if_pos, ↓if_neg, nI_add, q_sub, q_cl, p_bnd_s, p_bnd_v])
  exact p_bnd_x (by decide +kernel) (by decide +kernel)
theorem q_cSoft_t (h : q_K n wv sp x w) {a b : Int32} (hx : q_ex sp (q_nt a) = true) (ht : ¬ (nI 0 ≤ b ∧ b ≤ nI 100000)) : p_ev none 62 0 [.ref 0, .int a, .int b] [] w = some (.inr (.inl 0), w, 1) := by
  (conv => lhs; simp (disch := first | assumption | omega | (rw [nI_leI] <;> omega) | (rw [nI_ltI] <;> omega) | (rw [nI_eq] <;> omega) | (apply q_out <;> omega) | (apply q_nb; omega) | (apply q_n0 <;> omega)) only [M62, q_reqNode h.1, q_reqThreshold, ↓if_pos, ↓if_neg, nI_add, q_sub, q_cl, p_bnd_s, p_bnd_v])
  exact p_bnd_x (by decide +kernel) (by decide +kernel)
theorem q_cSoft_s (h : q_K n wv sp x w) {k : Nat} {b : Int32} (h2 : k < 16) (hx : q_ex sp k = true) (ht : nI 0 ≤ b ∧ b ≤ nI 100000) (hs : sp k = true) : p_ev none 62 0 [.ref 0, .int (nI k), .int b] [] w = some (.inr (.inl 1), w, 1) := by
  have h3 : q_ex sp (q_nt (nI k)) = true := by rw [q_nt_n h2]; exact hx
  have h4 : k < 2 ^ 31 := by omega
  (conv => lhs; simp (disch := first | assumption | omega | (rw [nI_leI] <;> omega) | (rw [nI_ltI] <;> omega) | (rw [nI_eq] <;> omega) | (apply q_out <;> omega) | (apply q_nb; omega) | (apply q_n0 <;> omega)) only [M62, q_reqNode h.1, q_reqThreshold, q_reqLeaf h.1, ↓if_pos, ↓if_neg, nI_add, q_sub, q_cl, p_bnd_s, p_bnd_v])
  exact p_bnd_x (by decide +kernel) (by decide +kernel)
/-- a number of a leaf is set -/
theorem q_cSetNumber_x (h : q_K n wv sp x w) {a b c : Int32} (hx : ¬ q_ex sp (q_nt a) = true) : p_ev none 59 0 [.ref 0, .int a, .int b, .int c, p_U, p_U, p_U] [] w = some (.inr (.inl 2), w, 1) := by
  (conv => lhs; simp (disch := first | assumption | omega | (rw [nI_leI] <;> omega) | (rw [nI_ltI] <;> omega) | (rw [nI_eq] <;> omega) | (apply q_out <;> omega) | (apply q_nb; omega) | (apply q_n0 <;> omega)) only [M59, q_reqNode h.1, ↓if_pos, ↓if_neg, nI_add, q_sub, q_cl, p_bnd_s, p_bnd_v])
  exact p_bnd_x (by decide +kernel) (by decide +kernel)
theorem q_cSetNumber_s (h : q_K n wv sp x w) {k : Nat} {b c : Int32} (h2 : k < 16) (hx : q_ex sp k = true) (hs : sp k = true) : p_ev none 59 0 [.ref 0, .int (nI k), .int b, .int c, p_U, p_U, p_U] [] w = some (.inr (.inl 1), w, 1) := by
  have h3 : q_ex sp (q_nt (nI k)) = true := by rw [q_nt_n h2]; exact hx
  have h4 : k < 2 ^ 31 := by omega
  (conv => lhs; simp (disch := first | assumption | omega | (rw [nI_leI] <;> omega) | (rw [nI_ltI] <;> omega) | (rw [nI_eq] <;> omega) | (apply q_out <;> omega) | (apply q_nb; omega) | (apply q_n0 <;> omega)) only [M59, q_reqNode h.1, q_reqLeaf h.1, ↓if_pos, ↓if_neg, nI_add, q_sub, q_cl, p_bnd_s, p_bnd_v])
  exact p_bnd_x (by decide +kernel) (by decide +kernel)
theorem q_cSetNumber_p (h : q_K n wv sp x w) {k : Nat} {b c : Int32} (h2 : k < 16) (hx : q_ex sp k = true) (hs : sp k = false) (hb : ¬ q_pt (q_wd n k) b < q_wd n k) : p_ev none 59 0 [.ref 0, .int (nI k), .int b, .int c, p_U, p_U, p_U] [] w = some (.inr (.inl 2), w, 1) := by
  have h3 : q_ex sp (q_nt (nI k)) = true := by rw [q_nt_n h2]; exact hx
  have h4 : k < 2 ^ 31 := by omega
  have hs2 : ¬ sp k = true := by rw [hs]; exact Bool.false_ne_true
  have hw := q_wdle n k
  have hn := h.2.1.n32
  (conv => lhs; simp (disch := first | assumption | omega | (rw [nI_leI] <;> omega) | (rw [nI_ltI] <;> omega) | (rw [nI_eq] <;> omega) | (apply q_out <;> omega) | (apply q_nb; omega) | (apply q_n0 <;> omega)) only [M59, q_reqNode h.1, q_reqLeaf h.1, q_widthOf h.1, q_reqBelow, ↓if_pos, ↓if_neg, nI_add, q_sub, q_cl, p_bnd_s, p_bnd_v])
  exact p_bnd_x (by decide +kernel) (by decide +kernel)
theorem q_cSetNumber_v (h : q_K n wv sp x w) {k : Nat} {b c : Int32} (h2 : k < 16) (hx : q_ex sp k = true) (hs : sp k = false) (hb : q_pt (q_wd n k) b < q_wd n k) (hc : ¬ ((-100000 : Int32) ≤ c ∧ c ≤ nI 100000)) : p_ev none 59 0 [.ref 0, .int (nI k), .int b, .int c, p_U, p_U, p_U] [] w = some (.inr (.inl 0), w, 1) := by
  have h3 : q_ex sp (q_nt (nI k)) = true := by rw [q_nt_n h2]; exact hx
  have h4 : k < 2 ^ 31 := by omega
  have hs2 : ¬ sp k = true := by rw [hs]; exact Bool.false_ne_true
  have hw := q_wdle n k
  have hn := h.2.1.n32
  by_cases hc1 : c < (-100000 : Int32)
  · (conv => lhs; simp (disch := first | assumption | omega | (rw [nI_leI] <;> omega) | (rw [nI_ltI] <;> omega) | (rw [nI_eq] <;> omega) | (apply q_out <;> omega) | (apply q_nb; omega) | (apply q_n0 <;> omega)) only [M59, q_reqNode h.1, q_reqLeaf h.1, q_widthOf h.1, q_reqBelow, ↓if_pos, ↓if_neg, nI_add, q_sub, q_cl, p_bnd_s, p_bnd_v])
  · have hc2 : ¬ c ≤ nI 100000 := fun z => hc ⟨Int32.not_lt.mp hc1, z⟩
    (conv => lhs; simp (disch := first | assumption | omega | (rw [nI_leI] <;> omega) | (rw [nI_ltI] <;> omega) | (rw [nI_eq] <;> omega) | (apply q_out <;> omega) | (apply q_nb; omega) | (apply q_n0 <;> omega)) only [M59, q_reqNode h.1, q_reqLeaf h.1, q_widthOf h.1, q_reqBelow, ↓if_pos, ↓if_neg, nI_add, q_sub, q_cl, p_bnd_s, p_bnd_v])
theorem q_cSetNumber (h : q_K n wv sp x w) {k j : Nat} {c : Int32} (h1 : 1 ≤ k) (h2 : k < 16) (hx : q_ex sp k = true) (hs : sp k = false) (hj : j < q_wd n k) (hc : (-100000 : Int32) ≤ c ∧ c ≤ nI 100000) : q_Z w n wv sp (fun i => if i = q_so n k + j then c.toInt64 else x i) (p_ev none 59 0 [.ref 0, .int (nI k), .int (nI j), .int c, p_U, p_U, p_U] [] w) (some (.long (x (q_so n k + j)))) := by
  have h3 : q_ex sp (q_nt (nI k)) = true := by rw [q_nt_n h2]; exact hx
  have h4 : k < 2 ^ 31 := by omega
  have hs2 : ¬ sp k = true := by rw [hs]; exact Bool.false_ne_true
  have hw := q_wdle n k
  have hn := h.2.1.n32
  have hg := q_geo0 k h1 h2 n h.2.1.1
  have hb : q_pt (q_wd n k) (nI j) < q_wd n k := by rw [q_pt_n hj (by omega)]; exact hj
  have hc1 : ¬ c < (-100000 : Int32) := Int32.not_lt.mpr hc.1
  have hc2 := hc.2
  refine ⟨(w.1, q_r w.2.1 11 (fun i => if i = q_so n k + j then c.toInt64 else w.2.1 11 i), w.2.2), ?_, q_K_row h ?_, q_FC.l (fun a ha => q_r_n (by omega))⟩
  · (conv => lhs; simp (disch := first | assumption | omega | (rw [nI_leI] <;> omega) | (rw [nI_ltI] <;> omega) | (rw [nI_eq] <;> omega) | (apply q_out <;> omega) | (apply q_nb; omega) | (apply q_n0 <;> omega)) only [M59, q_reqNode h.1, q_reqLeaf h.1, q_widthOf h.1, q_reqBelow, q_startOf h.1, q_get q_r4, q_set q_r4, ↓if_pos, ↓if_neg, nI_add, q_sub, q_cl, p_bnd_s, p_bnd_v])
    rw [h.2.2]
  · rw [q_r_s, h.2.2]
end Le
