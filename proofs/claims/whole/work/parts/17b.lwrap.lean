/-! THE LAW'S WRAPPERS -/
section Lw
variable {n wv : Nat} {sp : Nat → Bool} {x : Nat → Int64} {w : pW}
theorem q_w163 {x1 : Int32} {v : Int32} (h : q_Z w n wv sp x (p_ev none 44 0 [.ref 0, .int x1, p_U] [] w) (some (.int v))) : q_Wr w (n, wv, sp, x) (p_ev none 163 0 [.ref 0, .int x1, .ref 23, p_U] [] w) 0 (v.toInt64) := by
  obtain ⟨w1, h1, h2, h3⟩ := h
  refine ⟨(w1.1, q_r w1.2.1 23 (fun j => if j = 0 then v.toInt64 else w1.2.1 23 j), w1.2.2), 0, ?_, by decide, h2.out, h3.fwo, fun _ => by dsimp only; rw [q_r_s, if_pos rfl]⟩
  (conv => lhs; simp (disch := first | assumption | omega | (rw [nI_leI] <;> omega) | (rw [nI_ltI] <;> omega) | (rw [nI_eq] <;> omega) | (apply q_out <;> omega) | (apply q_nb; omega) | (apply q_n0 <;> omega)) only [M163, h1, q_pu, ↓if_pos, ↓if_neg, nI_add, q_sub, q_cl, p_bnd_s, p_bnd_v])
theorem q_x163_0 {x1 : Int32} {v : Int64} (h : q_Zx w n wv sp x (p_ev none 44 0 [.ref 0, .int x1, p_U] [] w) 0) : q_Wr w (n, wv, sp, x) (p_ev none 163 0 [.ref 0, .int x1, .ref 23, p_U] [] w) 1 v := by
  obtain ⟨w1, h1, h2, h3⟩ := h
  refine ⟨w1, 1, ?_, Nat.le_refl _, h2, h3.fw, fun z => absurd z (by decide)⟩
  (conv => lhs; simp (disch := first | assumption | omega | (rw [nI_leI] <;> omega) | (rw [nI_ltI] <;> omega) | (rw [nI_eq] <;> omega) | (apply q_out <;> omega) | (apply q_nb; omega) | (apply q_n0 <;> omega)) only [M163, h1, ↓if_pos, ↓if_neg, nI_add, q_sub, q_cl, p_bnd_s, p_bnd_v])
  exact p_bnd_h (show p_hd 163 4 0 = some (12, 3, 1) by decide +kernel)
theorem q_w164 {x1 x2 : Int32} {v : Int64} (h : q_Z w n wv sp x (p_ev none 45 0 [.ref 0, .int x1, .int x2, p_U, p_U] [] w) (some (.long v))) : q_Wr w (n, wv, sp, x) (p_ev none 164 0 [.ref 0, .int x1, .int x2, .ref 23, p_U] [] w) 0 (v) := by
  obtain ⟨w1, h1, h2, h3⟩ := h
  refine ⟨(w1.1, q_r w1.2.1 23 (fun j => if j = 0 then v else w1.2.1 23 j), w1.2.2), 0, ?_, by decide, h2.out, h3.fwo, fun _ => by dsimp only; rw [q_r_s, if_pos rfl]⟩
  (conv => lhs; simp (disch := first | assumption | omega | (rw [nI_leI] <;> omega) | (rw [nI_ltI] <;> omega) | (rw [nI_eq] <;> omega) | (apply q_out <;> omega) | (apply q_nb; omega) | (apply q_n0 <;> omega)) only [M164, h1, q_pu, ↓if_pos, ↓if_neg, nI_add, q_sub, q_cl, p_bnd_s, p_bnd_v])
theorem q_x164_2 {x1 x2 : Int32} {v : Int64} (h : q_Zx w n wv sp x (p_ev none 45 0 [.ref 0, .int x1, .int x2, p_U, p_U] [] w) 2) : q_Wr w (n, wv, sp, x) (p_ev none 164 0 [.ref 0, .int x1, .int x2, .ref 23, p_U] [] w) 1 v := by
  obtain ⟨w1, h1, h2, h3⟩ := h
  refine ⟨w1, 1, ?_, Nat.le_refl _, h2, h3.fw, fun z => absurd z (by decide)⟩
  (conv => lhs; simp (disch := first | assumption | omega | (rw [nI_leI] <;> omega) | (rw [nI_ltI] <;> omega) | (rw [nI_eq] <;> omega) | (apply q_out <;> omega) | (apply q_nb; omega) | (apply q_n0 <;> omega)) only [M164, h1, ↓if_pos, ↓if_neg, nI_add, q_sub, q_cl, p_bnd_s, p_bnd_v])
  exact p_bnd_h (show p_hd 164 5 2 = some (12, 4, 1) by decide +kernel)
theorem q_x164_0 {x1 x2 : Int32} {v : Int64} (h : q_Zx w n wv sp x (p_ev none 45 0 [.ref 0, .int x1, .int x2, p_U, p_U] [] w) 0) : q_Wr w (n, wv, sp, x) (p_ev none 164 0 [.ref 0, .int x1, .int x2, .ref 23, p_U] [] w) 2 v := by
  obtain ⟨w1, h1, h2, h3⟩ := h
  refine ⟨w1, 1, ?_, Nat.le_refl _, h2, h3.fw, fun z => absurd z (by decide)⟩
  (conv => lhs; simp (disch := first | assumption | omega | (rw [nI_leI] <;> omega) | (rw [nI_ltI] <;> omega) | (rw [nI_eq] <;> omega) | (apply q_out <;> omega) | (apply q_nb; omega) | (apply q_n0 <;> omega)) only [M164, h1, ↓if_pos, ↓if_neg, nI_add, q_sub, q_cl, p_bnd_s, p_bnd_v])
  exact p_bnd_h (show p_hd 164 5 0 = some (16, 4, 2) by decide +kernel)
theorem q_x164_1 {x1 x2 : Int32} {v : Int64} (h : q_Zx w n wv sp x (p_ev none 45 0 [.ref 0, .int x1, .int x2, p_U, p_U] [] w) 1) : q_Wr w (n, wv, sp, x) (p_ev none 164 0 [.ref 0, .int x1, .int x2, .ref 23, p_U] [] w) 3 v := by
  obtain ⟨w1, h1, h2, h3⟩ := h
  refine ⟨w1, 1, ?_, Nat.le_refl _, h2, h3.fw, fun z => absurd z (by decide)⟩
  (conv => lhs; simp (disch := first | assumption | omega | (rw [nI_leI] <;> omega) | (rw [nI_ltI] <;> omega) | (rw [nI_eq] <;> omega) | (apply q_out <;> omega) | (apply q_nb; omega) | (apply q_n0 <;> omega)) only [M164, h1, ↓if_pos, ↓if_neg, nI_add, q_sub, q_cl, p_bnd_s, p_bnd_v])
  exact p_bnd_h (show p_hd 164 5 1 = some (20, 4, 3) by decide +kernel)
theorem q_w165 {x1 : Int32} {v : Int64} (h : q_Z w n wv sp x (p_ev none 46 0 [.ref 0, .int x1] [] w) (some (.long v))) : q_Wr w (n, wv, sp, x) (p_ev none 165 0 [.ref 0, .int x1, .ref 23, p_U] [] w) 0 (v) := by
  obtain ⟨w1, h1, h2, h3⟩ := h
  refine ⟨(w1.1, q_r w1.2.1 23 (fun j => if j = 0 then v else w1.2.1 23 j), w1.2.2), 0, ?_, by decide, h2.out, h3.fwo, fun _ => by dsimp only; rw [q_r_s, if_pos rfl]⟩
  (conv => lhs; simp (disch := first | assumption | omega | (rw [nI_leI] <;> omega) | (rw [nI_ltI] <;> omega) | (rw [nI_eq] <;> omega) | (apply q_out <;> omega) | (apply q_nb; omega) | (apply q_n0 <;> omega)) only [M165, h1, q_pu, ↓if_pos, ↓if_neg, nI_add, q_sub, q_cl, p_bnd_s, p_bnd_v])
theorem q_x165_2 {x1 : Int32} {v : Int64} (h : q_Zx w n wv sp x (p_ev none 46 0 [.ref 0, .int x1] [] w) 2) : q_Wr w (n, wv, sp, x) (p_ev none 165 0 [.ref 0, .int x1, .ref 23, p_U] [] w) 1 v := by
  obtain ⟨w1, h1, h2, h3⟩ := h
  refine ⟨w1, 1, ?_, Nat.le_refl _, h2, h3.fw, fun z => absurd z (by decide)⟩
  (conv => lhs; simp (disch := first | assumption | omega | (rw [nI_leI] <;> omega) | (rw [nI_ltI] <;> omega) | (rw [nI_eq] <;> omega) | (apply q_out <;> omega) | (apply q_nb; omega) | (apply q_n0 <;> omega)) only [M165, h1, ↓if_pos, ↓if_neg, nI_add, q_sub, q_cl, p_bnd_s, p_bnd_v])
  exact p_bnd_h (show p_hd 165 4 2 = some (11, 3, 1) by decide +kernel)
theorem q_w166 {x1 : Int32} {v : Int32} (h : q_Z w n wv sp x (p_ev none 48 0 [.ref 0, .int x1, p_U] [] w) (some (.int v))) : q_Wr w (n, wv, sp, x) (p_ev none 166 0 [.ref 0, .int x1, .ref 23, p_U] [] w) 0 (v.toInt64) := by
  obtain ⟨w1, h1, h2, h3⟩ := h
  refine ⟨(w1.1, q_r w1.2.1 23 (fun j => if j = 0 then v.toInt64 else w1.2.1 23 j), w1.2.2), 0, ?_, by decide, h2.out, h3.fwo, fun _ => by dsimp only; rw [q_r_s, if_pos rfl]⟩
  (conv => lhs; simp (disch := first | assumption | omega | (rw [nI_leI] <;> omega) | (rw [nI_ltI] <;> omega) | (rw [nI_eq] <;> omega) | (apply q_out <;> omega) | (apply q_nb; omega) | (apply q_n0 <;> omega)) only [M166, h1, q_pu, ↓if_pos, ↓if_neg, nI_add, q_sub, q_cl, p_bnd_s, p_bnd_v])
theorem q_x166_0 {x1 : Int32} {v : Int64} (h : q_Zx w n wv sp x (p_ev none 48 0 [.ref 0, .int x1, p_U] [] w) 0) : q_Wr w (n, wv, sp, x) (p_ev none 166 0 [.ref 0, .int x1, .ref 23, p_U] [] w) 1 v := by
  obtain ⟨w1, h1, h2, h3⟩ := h
  refine ⟨w1, 1, ?_, Nat.le_refl _, h2, h3.fw, fun z => absurd z (by decide)⟩
  (conv => lhs; simp (disch := first | assumption | omega | (rw [nI_leI] <;> omega) | (rw [nI_ltI] <;> omega) | (rw [nI_eq] <;> omega) | (apply q_out <;> omega) | (apply q_nb; omega) | (apply q_n0 <;> omega)) only [M166, h1, ↓if_pos, ↓if_neg, nI_add, q_sub, q_cl, p_bnd_s, p_bnd_v])
  exact p_bnd_h (show p_hd 166 4 0 = some (12, 3, 1) by decide +kernel)
theorem q_x166_1 {x1 : Int32} {v : Int64} (h : q_Zx w n wv sp x (p_ev none 48 0 [.ref 0, .int x1, p_U] [] w) 1) : q_Wr w (n, wv, sp, x) (p_ev none 166 0 [.ref 0, .int x1, .ref 23, p_U] [] w) 2 v := by
  obtain ⟨w1, h1, h2, h3⟩ := h
  refine ⟨w1, 1, ?_, Nat.le_refl _, h2, h3.fw, fun z => absurd z (by decide)⟩
  (conv => lhs; simp (disch := first | assumption | omega | (rw [nI_leI] <;> omega) | (rw [nI_ltI] <;> omega) | (rw [nI_eq] <;> omega) | (apply q_out <;> omega) | (apply q_nb; omega) | (apply q_n0 <;> omega)) only [M166, h1, ↓if_pos, ↓if_neg, nI_add, q_sub, q_cl, p_bnd_s, p_bnd_v])
  exact p_bnd_h (show p_hd 166 4 1 = some (15, 3, 2) by decide +kernel)
theorem q_w167 {x1 : Int32} {v : Int32} (h : q_Z w n wv sp x (p_ev none 49 0 [.ref 0, .int x1] [] w) (some (.int v))) : q_Wr w (n, wv, sp, x) (p_ev none 167 0 [.ref 0, .int x1, .ref 23, p_U] [] w) 0 (v.toInt64) := by
  obtain ⟨w1, h1, h2, h3⟩ := h
  refine ⟨(w1.1, q_r w1.2.1 23 (fun j => if j = 0 then v.toInt64 else w1.2.1 23 j), w1.2.2), 0, ?_, by decide, h2.out, h3.fwo, fun _ => by dsimp only; rw [q_r_s, if_pos rfl]⟩
  (conv => lhs; simp (disch := first | assumption | omega | (rw [nI_leI] <;> omega) | (rw [nI_ltI] <;> omega) | (rw [nI_eq] <;> omega) | (apply q_out <;> omega) | (apply q_nb; omega) | (apply q_n0 <;> omega)) only [M167, h1, q_pu, ↓if_pos, ↓if_neg, nI_add, q_sub, q_cl, p_bnd_s, p_bnd_v])
theorem q_x167_2 {x1 : Int32} {v : Int64} (h : q_Zx w n wv sp x (p_ev none 49 0 [.ref 0, .int x1] [] w) 2) : q_Wr w (n, wv, sp, x) (p_ev none 167 0 [.ref 0, .int x1, .ref 23, p_U] [] w) 1 v := by
  obtain ⟨w1, h1, h2, h3⟩ := h
  refine ⟨w1, 1, ?_, Nat.le_refl _, h2, h3.fw, fun z => absurd z (by decide)⟩
  (conv => lhs; simp (disch := first | assumption | omega | (rw [nI_leI] <;> omega) | (rw [nI_ltI] <;> omega) | (rw [nI_eq] <;> omega) | (apply q_out <;> omega) | (apply q_nb; omega) | (apply q_n0 <;> omega)) only [M167, h1, ↓if_pos, ↓if_neg, nI_add, q_sub, q_cl, p_bnd_s, p_bnd_v])
  exact p_bnd_h (show p_hd 167 4 2 = some (12, 3, 1) by decide +kernel)
theorem q_x167_1 {x1 : Int32} {v : Int64} (h : q_Zx w n wv sp x (p_ev none 49 0 [.ref 0, .int x1] [] w) 1) : q_Wr w (n, wv, sp, x) (p_ev none 167 0 [.ref 0, .int x1, .ref 23, p_U] [] w) 2 v := by
  obtain ⟨w1, h1, h2, h3⟩ := h
  refine ⟨w1, 1, ?_, Nat.le_refl _, h2, h3.fw, fun z => absurd z (by decide)⟩
  (conv => lhs; simp (disch := first | assumption | omega | (rw [nI_leI] <;> omega) | (rw [nI_ltI] <;> omega) | (rw [nI_eq] <;> omega) | (apply q_out <;> omega) | (apply q_nb; omega) | (apply q_n0 <;> omega)) only [M167, h1, ↓if_pos, ↓if_neg, nI_add, q_sub, q_cl, p_bnd_s, p_bnd_v])
  exact p_bnd_h (show p_hd 167 4 1 = some (15, 3, 2) by decide +kernel)
theorem q_w168 {x1 : Int32} {v : Int32} (h : q_Z w n wv sp x (p_ev none 50 0 [.ref 0, .int x1] [] w) (some (.int v))) : q_Wr w (n, wv, sp, x) (p_ev none 168 0 [.ref 0, .int x1, .ref 23, p_U] [] w) 0 (v.toInt64) := by
  obtain ⟨w1, h1, h2, h3⟩ := h
  refine ⟨(w1.1, q_r w1.2.1 23 (fun j => if j = 0 then v.toInt64 else w1.2.1 23 j), w1.2.2), 0, ?_, by decide, h2.out, h3.fwo, fun _ => by dsimp only; rw [q_r_s, if_pos rfl]⟩
  (conv => lhs; simp (disch := first | assumption | omega | (rw [nI_leI] <;> omega) | (rw [nI_ltI] <;> omega) | (rw [nI_eq] <;> omega) | (apply q_out <;> omega) | (apply q_nb; omega) | (apply q_n0 <;> omega)) only [M168, h1, q_pu, ↓if_pos, ↓if_neg, nI_add, q_sub, q_cl, p_bnd_s, p_bnd_v])
theorem q_x168_2 {x1 : Int32} {v : Int64} (h : q_Zx w n wv sp x (p_ev none 50 0 [.ref 0, .int x1] [] w) 2) : q_Wr w (n, wv, sp, x) (p_ev none 168 0 [.ref 0, .int x1, .ref 23, p_U] [] w) 1 v := by
  obtain ⟨w1, h1, h2, h3⟩ := h
  refine ⟨w1, 1, ?_, Nat.le_refl _, h2, h3.fw, fun z => absurd z (by decide)⟩
  (conv => lhs; simp (disch := first | assumption | omega | (rw [nI_leI] <;> omega) | (rw [nI_ltI] <;> omega) | (rw [nI_eq] <;> omega) | (apply q_out <;> omega) | (apply q_nb; omega) | (apply q_n0 <;> omega)) only [M168, h1, ↓if_pos, ↓if_neg, nI_add, q_sub, q_cl, p_bnd_s, p_bnd_v])
  exact p_bnd_h (show p_hd 168 4 2 = some (12, 3, 1) by decide +kernel)
theorem q_x168_1 {x1 : Int32} {v : Int64} (h : q_Zx w n wv sp x (p_ev none 50 0 [.ref 0, .int x1] [] w) 1) : q_Wr w (n, wv, sp, x) (p_ev none 168 0 [.ref 0, .int x1, .ref 23, p_U] [] w) 2 v := by
  obtain ⟨w1, h1, h2, h3⟩ := h
  refine ⟨w1, 1, ?_, Nat.le_refl _, h2, h3.fw, fun z => absurd z (by decide)⟩
  (conv => lhs; simp (disch := first | assumption | omega | (rw [nI_leI] <;> omega) | (rw [nI_ltI] <;> omega) | (rw [nI_eq] <;> omega) | (apply q_out <;> omega) | (apply q_nb; omega) | (apply q_n0 <;> omega)) only [M168, h1, ↓if_pos, ↓if_neg, nI_add, q_sub, q_cl, p_bnd_s, p_bnd_v])
  exact p_bnd_h (show p_hd 168 4 1 = some (15, 3, 2) by decide +kernel)
theorem q_w169 {x1 : Int32} {b : Bool} (h : q_Z w n wv sp x (p_ev none 52 0 [.ref 0, .int x1] [] w) (some (.int (nI b.toNat)))) : q_Wr w (n, wv, sp, x) (p_ev none 169 0 [.ref 0, .int x1, .ref 23, p_U] [] w) 0 (lN b.toNat) := by
  obtain ⟨w1, h1, h2, h3⟩ := h
  refine ⟨(w1.1, q_r w1.2.1 23 (fun j => if j = 0 then lN b.toNat else w1.2.1 23 j), w1.2.2), 0, ?_, by decide, h2.out, h3.fwo, fun _ => by dsimp only; rw [q_r_s, if_pos rfl]⟩
  have e10 : ¬ nI 1 = nI 0 := by decide
  cases b
  · rw [Bool.toNat_false] at h1
    (conv => lhs; simp (disch := first | assumption | omega | (rw [nI_leI] <;> omega) | (rw [nI_ltI] <;> omega) | (rw [nI_eq] <;> omega) | (apply q_out <;> omega) | (apply q_nb; omega) | (apply q_n0 <;> omega)) only [M169, h1, q_pu, ↓if_pos, ↓if_neg, nI_add, q_sub, q_cl, p_bnd_s, p_bnd_v])
    rfl
  · rw [Bool.toNat_true] at h1
    (conv => lhs; simp (disch := first | assumption | omega | (rw [nI_leI] <;> omega) | (rw [nI_ltI] <;> omega) | (rw [nI_eq] <;> omega) | (apply q_out <;> omega) | (apply q_nb; omega) | (apply q_n0 <;> omega)) only [M169, h1, q_pu, ↓if_pos, ↓if_neg, nI_add, q_sub, q_cl, p_bnd_s, p_bnd_v])
    rfl
theorem q_x169_2 {x1 : Int32} {v : Int64} (h : q_Zx w n wv sp x (p_ev none 52 0 [.ref 0, .int x1] [] w) 2) : q_Wr w (n, wv, sp, x) (p_ev none 169 0 [.ref 0, .int x1, .ref 23, p_U] [] w) 1 v := by
  obtain ⟨w1, h1, h2, h3⟩ := h
  refine ⟨w1, 1, ?_, Nat.le_refl _, h2, h3.fw, fun z => absurd z (by decide)⟩
  (conv => lhs; simp (disch := first | assumption | omega | (rw [nI_leI] <;> omega) | (rw [nI_ltI] <;> omega) | (rw [nI_eq] <;> omega) | (apply q_out <;> omega) | (apply q_nb; omega) | (apply q_n0 <;> omega)) only [M169, h1, ↓if_pos, ↓if_neg, nI_add, q_sub, q_cl, p_bnd_s, p_bnd_v])
  exact p_bnd_h (show p_hd 169 4 2 = some (19, 3, 1) by decide +kernel)
theorem q_w170 {x1 : Int32} {v : Int32} (h : q_Z w n wv sp x (p_ev none 54 0 [.ref 0, .int x1, p_U, p_U] [] w) (some (.int v))) : q_Wr w (n, wv, sp, x) (p_ev none 170 0 [.ref 0, .int x1, .ref 23, p_U] [] w) 0 (v.toInt64) := by
  obtain ⟨w1, h1, h2, h3⟩ := h
  refine ⟨(w1.1, q_r w1.2.1 23 (fun j => if j = 0 then v.toInt64 else w1.2.1 23 j), w1.2.2), 0, ?_, by decide, h2.out, h3.fwo, fun _ => by dsimp only; rw [q_r_s, if_pos rfl]⟩
  (conv => lhs; simp (disch := first | assumption | omega | (rw [nI_leI] <;> omega) | (rw [nI_ltI] <;> omega) | (rw [nI_eq] <;> omega) | (apply q_out <;> omega) | (apply q_nb; omega) | (apply q_n0 <;> omega)) only [M170, h1, q_pu, ↓if_pos, ↓if_neg, nI_add, q_sub, q_cl, p_bnd_s, p_bnd_v])
theorem q_x170_2 {x1 : Int32} {v : Int64} (h : q_Zx w n wv sp x (p_ev none 54 0 [.ref 0, .int x1, p_U, p_U] [] w) 2) : q_Wr w (n, wv, sp, x) (p_ev none 170 0 [.ref 0, .int x1, .ref 23, p_U] [] w) 1 v := by
  obtain ⟨w1, h1, h2, h3⟩ := h
  refine ⟨w1, 1, ?_, Nat.le_refl _, h2, h3.fw, fun z => absurd z (by decide)⟩
  (conv => lhs; simp (disch := first | assumption | omega | (rw [nI_leI] <;> omega) | (rw [nI_ltI] <;> omega) | (rw [nI_eq] <;> omega) | (apply q_out <;> omega) | (apply q_nb; omega) | (apply q_n0 <;> omega)) only [M170, h1, ↓if_pos, ↓if_neg, nI_add, q_sub, q_cl, p_bnd_s, p_bnd_v])
  exact p_bnd_h (show p_hd 170 4 2 = some (12, 3, 1) by decide +kernel)
theorem q_w171 {x1 : Int32} {v : Int32} (h : q_Z w n wv sp x (p_ev none 55 0 [.ref 0, .int x1] [] w) (some (.int v))) : q_Wr w (n, wv, sp, x) (p_ev none 171 0 [.ref 0, .int x1, .ref 23, p_U] [] w) 0 (v.toInt64) := by
  obtain ⟨w1, h1, h2, h3⟩ := h
  refine ⟨(w1.1, q_r w1.2.1 23 (fun j => if j = 0 then v.toInt64 else w1.2.1 23 j), w1.2.2), 0, ?_, by decide, h2.out, h3.fwo, fun _ => by dsimp only; rw [q_r_s, if_pos rfl]⟩
  (conv => lhs; simp (disch := first | assumption | omega | (rw [nI_leI] <;> omega) | (rw [nI_ltI] <;> omega) | (rw [nI_eq] <;> omega) | (apply q_out <;> omega) | (apply q_nb; omega) | (apply q_n0 <;> omega)) only [M171, h1, q_pu, ↓if_pos, ↓if_neg, nI_add, q_sub, q_cl, p_bnd_s, p_bnd_v])
theorem q_x171_2 {x1 : Int32} {v : Int64} (h : q_Zx w n wv sp x (p_ev none 55 0 [.ref 0, .int x1] [] w) 2) : q_Wr w (n, wv, sp, x) (p_ev none 171 0 [.ref 0, .int x1, .ref 23, p_U] [] w) 1 v := by
  obtain ⟨w1, h1, h2, h3⟩ := h
  refine ⟨w1, 1, ?_, Nat.le_refl _, h2, h3.fw, fun z => absurd z (by decide)⟩
  (conv => lhs; simp (disch := first | assumption | omega | (rw [nI_leI] <;> omega) | (rw [nI_ltI] <;> omega) | (rw [nI_eq] <;> omega) | (apply q_out <;> omega) | (apply q_nb; omega) | (apply q_n0 <;> omega)) only [M171, h1, ↓if_pos, ↓if_neg, nI_add, q_sub, q_cl, p_bnd_s, p_bnd_v])
  exact p_bnd_h (show p_hd 171 4 2 = some (12, 3, 1) by decide +kernel)
theorem q_w172 {x1 : Int32} {v : Int32} (h : q_Z w n wv sp x (p_ev none 56 0 [.ref 0, .int x1] [] w) (some (.int v))) : q_Wr w (n, wv, sp, x) (p_ev none 172 0 [.ref 0, .int x1, .ref 23, p_U] [] w) 0 (v.toInt64) := by
  obtain ⟨w1, h1, h2, h3⟩ := h
  refine ⟨(w1.1, q_r w1.2.1 23 (fun j => if j = 0 then v.toInt64 else w1.2.1 23 j), w1.2.2), 0, ?_, by decide, h2.out, h3.fwo, fun _ => by dsimp only; rw [q_r_s, if_pos rfl]⟩
  (conv => lhs; simp (disch := first | assumption | omega | (rw [nI_leI] <;> omega) | (rw [nI_ltI] <;> omega) | (rw [nI_eq] <;> omega) | (apply q_out <;> omega) | (apply q_nb; omega) | (apply q_n0 <;> omega)) only [M172, h1, q_pu, ↓if_pos, ↓if_neg, nI_add, q_sub, q_cl, p_bnd_s, p_bnd_v])
theorem q_x172_0 {x1 : Int32} {v : Int64} (h : q_Zx w n wv sp x (p_ev none 56 0 [.ref 0, .int x1] [] w) 0) : q_Wr w (n, wv, sp, x) (p_ev none 172 0 [.ref 0, .int x1, .ref 23, p_U] [] w) 1 v := by
  obtain ⟨w1, h1, h2, h3⟩ := h
  refine ⟨w1, 1, ?_, Nat.le_refl _, h2, h3.fw, fun z => absurd z (by decide)⟩
  (conv => lhs; simp (disch := first | assumption | omega | (rw [nI_leI] <;> omega) | (rw [nI_ltI] <;> omega) | (rw [nI_eq] <;> omega) | (apply q_out <;> omega) | (apply q_nb; omega) | (apply q_n0 <;> omega)) only [M172, h1, ↓if_pos, ↓if_neg, nI_add, q_sub, q_cl, p_bnd_s, p_bnd_v])
  exact p_bnd_h (show p_hd 172 4 0 = some (12, 3, 1) by decide +kernel)
theorem q_w173 {x1 : Int32} {v : Int32} (h : q_Z w n wv sp x (p_ev none 57 0 [.ref 0, .int x1] [] w) (some (.int v))) : q_Wr w (n, wv, sp, x) (p_ev none 173 0 [.ref 0, .int x1, .ref 23, p_U] [] w) 0 (v.toInt64) := by
  obtain ⟨w1, h1, h2, h3⟩ := h
  refine ⟨(w1.1, q_r w1.2.1 23 (fun j => if j = 0 then v.toInt64 else w1.2.1 23 j), w1.2.2), 0, ?_, by decide, h2.out, h3.fwo, fun _ => by dsimp only; rw [q_r_s, if_pos rfl]⟩
  (conv => lhs; simp (disch := first | assumption | omega | (rw [nI_leI] <;> omega) | (rw [nI_ltI] <;> omega) | (rw [nI_eq] <;> omega) | (apply q_out <;> omega) | (apply q_nb; omega) | (apply q_n0 <;> omega)) only [M173, h1, q_pu, ↓if_pos, ↓if_neg, nI_add, q_sub, q_cl, p_bnd_s, p_bnd_v])
theorem q_x173_2 {x1 : Int32} {v : Int64} (h : q_Zx w n wv sp x (p_ev none 57 0 [.ref 0, .int x1] [] w) 2) : q_Wr w (n, wv, sp, x) (p_ev none 173 0 [.ref 0, .int x1, .ref 23, p_U] [] w) 1 v := by
  obtain ⟨w1, h1, h2, h3⟩ := h
  refine ⟨w1, 1, ?_, Nat.le_refl _, h2, h3.fw, fun z => absurd z (by decide)⟩
  (conv => lhs; simp (disch := first | assumption | omega | (rw [nI_leI] <;> omega) | (rw [nI_ltI] <;> omega) | (rw [nI_eq] <;> omega) | (apply q_out <;> omega) | (apply q_nb; omega) | (apply q_n0 <;> omega)) only [M173, h1, ↓if_pos, ↓if_neg, nI_add, q_sub, q_cl, p_bnd_s, p_bnd_v])
  exact p_bnd_h (show p_hd 173 4 2 = some (12, 3, 1) by decide +kernel)
theorem q_x173_1 {x1 : Int32} {v : Int64} (h : q_Zx w n wv sp x (p_ev none 57 0 [.ref 0, .int x1] [] w) 1) : q_Wr w (n, wv, sp, x) (p_ev none 173 0 [.ref 0, .int x1, .ref 23, p_U] [] w) 2 v := by
  obtain ⟨w1, h1, h2, h3⟩ := h
  refine ⟨w1, 1, ?_, Nat.le_refl _, h2, h3.fw, fun z => absurd z (by decide)⟩
  (conv => lhs; simp (disch := first | assumption | omega | (rw [nI_leI] <;> omega) | (rw [nI_ltI] <;> omega) | (rw [nI_eq] <;> omega) | (apply q_out <;> omega) | (apply q_nb; omega) | (apply q_n0 <;> omega)) only [M173, h1, ↓if_pos, ↓if_neg, nI_add, q_sub, q_cl, p_bnd_s, p_bnd_v])
  exact p_bnd_h (show p_hd 173 4 1 = some (15, 3, 2) by decide +kernel)
theorem q_w174 {x1 x2 : Int32} {v : Int64} (h : q_Z w n wv sp x (p_ev none 58 0 [.ref 0, .int x1, .int x2] [] w) (some (.long v))) : q_Wr w (n, wv, sp, x) (p_ev none 174 0 [.ref 0, .int x1, .int x2, .ref 23, p_U] [] w) 0 (v) := by
  obtain ⟨w1, h1, h2, h3⟩ := h
  refine ⟨(w1.1, q_r w1.2.1 23 (fun j => if j = 0 then v else w1.2.1 23 j), w1.2.2), 0, ?_, by decide, h2.out, h3.fwo, fun _ => by dsimp only; rw [q_r_s, if_pos rfl]⟩
  (conv => lhs; simp (disch := first | assumption | omega | (rw [nI_leI] <;> omega) | (rw [nI_ltI] <;> omega) | (rw [nI_eq] <;> omega) | (apply q_out <;> omega) | (apply q_nb; omega) | (apply q_n0 <;> omega)) only [M174, h1, q_pu, ↓if_pos, ↓if_neg, nI_add, q_sub, q_cl, p_bnd_s, p_bnd_v])
theorem q_x174_2 {x1 x2 : Int32} {v : Int64} (h : q_Zx w n wv sp x (p_ev none 58 0 [.ref 0, .int x1, .int x2] [] w) 2) : q_Wr w (n, wv, sp, x) (p_ev none 174 0 [.ref 0, .int x1, .int x2, .ref 23, p_U] [] w) 1 v := by
  obtain ⟨w1, h1, h2, h3⟩ := h
  refine ⟨w1, 1, ?_, Nat.le_refl _, h2, h3.fw, fun z => absurd z (by decide)⟩
  (conv => lhs; simp (disch := first | assumption | omega | (rw [nI_leI] <;> omega) | (rw [nI_ltI] <;> omega) | (rw [nI_eq] <;> omega) | (apply q_out <;> omega) | (apply q_nb; omega) | (apply q_n0 <;> omega)) only [M174, h1, ↓if_pos, ↓if_neg, nI_add, q_sub, q_cl, p_bnd_s, p_bnd_v])
  exact p_bnd_h (show p_hd 174 5 2 = some (12, 4, 1) by decide +kernel)
theorem q_x174_1 {x1 x2 : Int32} {v : Int64} (h : q_Zx w n wv sp x (p_ev none 58 0 [.ref 0, .int x1, .int x2] [] w) 1) : q_Wr w (n, wv, sp, x) (p_ev none 174 0 [.ref 0, .int x1, .int x2, .ref 23, p_U] [] w) 2 v := by
  obtain ⟨w1, h1, h2, h3⟩ := h
  refine ⟨w1, 1, ?_, Nat.le_refl _, h2, h3.fw, fun z => absurd z (by decide)⟩
  (conv => lhs; simp (disch := first | assumption | omega | (rw [nI_leI] <;> omega) | (rw [nI_ltI] <;> omega) | (rw [nI_eq] <;> omega) | (apply q_out <;> omega) | (apply q_nb; omega) | (apply q_n0 <;> omega)) only [M174, h1, ↓if_pos, ↓if_neg, nI_add, q_sub, q_cl, p_bnd_s, p_bnd_v])
  exact p_bnd_h (show p_hd 174 5 1 = some (16, 4, 2) by decide +kernel)
theorem q_w175 {x1 x2 x3 : Int32} {v : Int64} (h : q_Z w n wv sp x (p_ev none 59 0 [.ref 0, .int x1, .int x2, .int x3, p_U, p_U, p_U] [] w) (some (.long v))) : q_Wr w (n, wv, sp, x) (p_ev none 175 0 [.ref 0, .int x1, .int x2, .int x3, .ref 23, p_U] [] w) 0 (v) := by
  obtain ⟨w1, h1, h2, h3⟩ := h
  refine ⟨(w1.1, q_r w1.2.1 23 (fun j => if j = 0 then v else w1.2.1 23 j), w1.2.2), 0, ?_, by decide, h2.out, h3.fwo, fun _ => by dsimp only; rw [q_r_s, if_pos rfl]⟩
  (conv => lhs; simp (disch := first | assumption | omega | (rw [nI_leI] <;> omega) | (rw [nI_ltI] <;> omega) | (rw [nI_eq] <;> omega) | (apply q_out <;> omega) | (apply q_nb; omega) | (apply q_n0 <;> omega)) only [M175, h1, q_pu, ↓if_pos, ↓if_neg, nI_add, q_sub, q_cl, p_bnd_s, p_bnd_v])
theorem q_x175_2 {x1 x2 x3 : Int32} {v : Int64} (h : q_Zx w n wv sp x (p_ev none 59 0 [.ref 0, .int x1, .int x2, .int x3, p_U, p_U, p_U] [] w) 2) : q_Wr w (n, wv, sp, x) (p_ev none 175 0 [.ref 0, .int x1, .int x2, .int x3, .ref 23, p_U] [] w) 1 v := by
  obtain ⟨w1, h1, h2, h3⟩ := h
  refine ⟨w1, 1, ?_, Nat.le_refl _, h2, h3.fw, fun z => absurd z (by decide)⟩
  (conv => lhs; simp (disch := first | assumption | omega | (rw [nI_leI] <;> omega) | (rw [nI_ltI] <;> omega) | (rw [nI_eq] <;> omega) | (apply q_out <;> omega) | (apply q_nb; omega) | (apply q_n0 <;> omega)) only [M175, h1, ↓if_pos, ↓if_neg, nI_add, q_sub, q_cl, p_bnd_s, p_bnd_v])
  exact p_bnd_h (show p_hd 175 7 2 = some (14, 5, 1) by decide +kernel)
theorem q_x175_1 {x1 x2 x3 : Int32} {v : Int64} (h : q_Zx w n wv sp x (p_ev none 59 0 [.ref 0, .int x1, .int x2, .int x3, p_U, p_U, p_U] [] w) 1) : q_Wr w (n, wv, sp, x) (p_ev none 175 0 [.ref 0, .int x1, .int x2, .int x3, .ref 23, p_U] [] w) 2 v := by
  obtain ⟨w1, h1, h2, h3⟩ := h
  refine ⟨w1, 1, ?_, Nat.le_refl _, h2, h3.fw, fun z => absurd z (by decide)⟩
  (conv => lhs; simp (disch := first | assumption | omega | (rw [nI_leI] <;> omega) | (rw [nI_ltI] <;> omega) | (rw [nI_eq] <;> omega) | (apply q_out <;> omega) | (apply q_nb; omega) | (apply q_n0 <;> omega)) only [M175, h1, ↓if_pos, ↓if_neg, nI_add, q_sub, q_cl, p_bnd_s, p_bnd_v])
  exact p_bnd_h (show p_hd 175 7 1 = some (18, 5, 2) by decide +kernel)
theorem q_x175_0 {x1 x2 x3 : Int32} {v : Int64} (h : q_Zx w n wv sp x (p_ev none 59 0 [.ref 0, .int x1, .int x2, .int x3, p_U, p_U, p_U] [] w) 0) : q_Wr w (n, wv, sp, x) (p_ev none 175 0 [.ref 0, .int x1, .int x2, .int x3, .ref 23, p_U] [] w) 3 v := by
  obtain ⟨w1, h1, h2, h3⟩ := h
  refine ⟨w1, 1, ?_, Nat.le_refl _, h2, h3.fw, fun z => absurd z (by decide)⟩
  (conv => lhs; simp (disch := first | assumption | omega | (rw [nI_leI] <;> omega) | (rw [nI_ltI] <;> omega) | (rw [nI_eq] <;> omega) | (apply q_out <;> omega) | (apply q_nb; omega) | (apply q_n0 <;> omega)) only [M175, h1, ↓if_pos, ↓if_neg, nI_add, q_sub, q_cl, p_bnd_s, p_bnd_v])
  exact p_bnd_h (show p_hd 175 7 0 = some (22, 5, 3) by decide +kernel)
theorem q_w176 {x1 x2 : Int32} {v : Int64} (h : q_Z w n wv sp x (p_ev none 60 0 [.ref 0, .int x1, .int x2, p_U, p_U, p_U, p_U, p_U] [] w) (some (.long v))) : q_Wr w (n, wv, sp, x) (p_ev none 176 0 [.ref 0, .int x1, .int x2, .ref 23, p_U] [] w) 0 (v) := by
  obtain ⟨w1, h1, h2, h3⟩ := h
  refine ⟨(w1.1, q_r w1.2.1 23 (fun j => if j = 0 then v else w1.2.1 23 j), w1.2.2), 0, ?_, by decide, h2.out, h3.fwo, fun _ => by dsimp only; rw [q_r_s, if_pos rfl]⟩
  (conv => lhs; simp (disch := first | assumption | omega | (rw [nI_leI] <;> omega) | (rw [nI_ltI] <;> omega) | (rw [nI_eq] <;> omega) | (apply q_out <;> omega) | (apply q_nb; omega) | (apply q_n0 <;> omega)) only [M176, h1, q_pu, ↓if_pos, ↓if_neg, nI_add, q_sub, q_cl, p_bnd_s, p_bnd_v])
theorem q_x176_2 {x1 x2 : Int32} {v : Int64} (h : q_Zx w n wv sp x (p_ev none 60 0 [.ref 0, .int x1, .int x2, p_U, p_U, p_U, p_U, p_U] [] w) 2) : q_Wr w (n, wv, sp, x) (p_ev none 176 0 [.ref 0, .int x1, .int x2, .ref 23, p_U] [] w) 1 v := by
  obtain ⟨w1, h1, h2, h3⟩ := h
  refine ⟨w1, 1, ?_, Nat.le_refl _, h2, h3.fw, fun z => absurd z (by decide)⟩
  (conv => lhs; simp (disch := first | assumption | omega | (rw [nI_leI] <;> omega) | (rw [nI_ltI] <;> omega) | (rw [nI_eq] <;> omega) | (apply q_out <;> omega) | (apply q_nb; omega) | (apply q_n0 <;> omega)) only [M176, h1, ↓if_pos, ↓if_neg, nI_add, q_sub, q_cl, p_bnd_s, p_bnd_v])
  exact p_bnd_h (show p_hd 176 5 2 = some (12, 4, 1) by decide +kernel)
theorem q_x176_1 {x1 x2 : Int32} {v : Int64} (h : q_Zx w n wv sp x (p_ev none 60 0 [.ref 0, .int x1, .int x2, p_U, p_U, p_U, p_U, p_U] [] w) 1) : q_Wr w (n, wv, sp, x) (p_ev none 176 0 [.ref 0, .int x1, .int x2, .ref 23, p_U] [] w) 2 v := by
  obtain ⟨w1, h1, h2, h3⟩ := h
  refine ⟨w1, 1, ?_, Nat.le_refl _, h2, h3.fw, fun z => absurd z (by decide)⟩
  (conv => lhs; simp (disch := first | assumption | omega | (rw [nI_leI] <;> omega) | (rw [nI_ltI] <;> omega) | (rw [nI_eq] <;> omega) | (apply q_out <;> omega) | (apply q_nb; omega) | (apply q_n0 <;> omega)) only [M176, h1, ↓if_pos, ↓if_neg, nI_add, q_sub, q_cl, p_bnd_s, p_bnd_v])
  exact p_bnd_h (show p_hd 176 5 1 = some (16, 4, 2) by decide +kernel)
theorem q_w177 {x1 x2 : Int32} {v : Int32} (h : q_Z w n wv sp x (p_ev none 61 0 [.ref 0, .int x1, .int x2] [] w) (some (.int v))) : q_Wr w (n, wv, sp, x) (p_ev none 177 0 [.ref 0, .int x1, .int x2, .ref 23, p_U] [] w) 0 (v.toInt64) := by
  obtain ⟨w1, h1, h2, h3⟩ := h
  refine ⟨(w1.1, q_r w1.2.1 23 (fun j => if j = 0 then v.toInt64 else w1.2.1 23 j), w1.2.2), 0, ?_, by decide, h2.out, h3.fwo, fun _ => by dsimp only; rw [q_r_s, if_pos rfl]⟩
  (conv => lhs; simp (disch := first | assumption | omega | (rw [nI_leI] <;> omega) | (rw [nI_ltI] <;> omega) | (rw [nI_eq] <;> omega) | (apply q_out <;> omega) | (apply q_nb; omega) | (apply q_n0 <;> omega)) only [M177, h1, q_pu, ↓if_pos, ↓if_neg, nI_add, q_sub, q_cl, p_bnd_s, p_bnd_v])
theorem q_x177_2 {x1 x2 : Int32} {v : Int64} (h : q_Zx w n wv sp x (p_ev none 61 0 [.ref 0, .int x1, .int x2] [] w) 2) : q_Wr w (n, wv, sp, x) (p_ev none 177 0 [.ref 0, .int x1, .int x2, .ref 23, p_U] [] w) 1 v := by
  obtain ⟨w1, h1, h2, h3⟩ := h
  refine ⟨w1, 1, ?_, Nat.le_refl _, h2, h3.fw, fun z => absurd z (by decide)⟩
  (conv => lhs; simp (disch := first | assumption | omega | (rw [nI_leI] <;> omega) | (rw [nI_ltI] <;> omega) | (rw [nI_eq] <;> omega) | (apply q_out <;> omega) | (apply q_nb; omega) | (apply q_n0 <;> omega)) only [M177, h1, ↓if_pos, ↓if_neg, nI_add, q_sub, q_cl, p_bnd_s, p_bnd_v])
  exact p_bnd_h (show p_hd 177 5 2 = some (13, 4, 1) by decide +kernel)
theorem q_x177_0 {x1 x2 : Int32} {v : Int64} (h : q_Zx w n wv sp x (p_ev none 61 0 [.ref 0, .int x1, .int x2] [] w) 0) : q_Wr w (n, wv, sp, x) (p_ev none 177 0 [.ref 0, .int x1, .int x2, .ref 23, p_U] [] w) 2 v := by
  obtain ⟨w1, h1, h2, h3⟩ := h
  refine ⟨w1, 1, ?_, Nat.le_refl _, h2, h3.fw, fun z => absurd z (by decide)⟩
  (conv => lhs; simp (disch := first | assumption | omega | (rw [nI_leI] <;> omega) | (rw [nI_ltI] <;> omega) | (rw [nI_eq] <;> omega) | (apply q_out <;> omega) | (apply q_nb; omega) | (apply q_n0 <;> omega)) only [M177, h1, ↓if_pos, ↓if_neg, nI_add, q_sub, q_cl, p_bnd_s, p_bnd_v])
  exact p_bnd_h (show p_hd 177 5 0 = some (17, 4, 2) by decide +kernel)
theorem q_x177_1 {x1 x2 : Int32} {v : Int64} (h : q_Zx w n wv sp x (p_ev none 61 0 [.ref 0, .int x1, .int x2] [] w) 1) : q_Wr w (n, wv, sp, x) (p_ev none 177 0 [.ref 0, .int x1, .int x2, .ref 23, p_U] [] w) 3 v := by
  obtain ⟨w1, h1, h2, h3⟩ := h
  refine ⟨w1, 1, ?_, Nat.le_refl _, h2, h3.fw, fun z => absurd z (by decide)⟩
  (conv => lhs; simp (disch := first | assumption | omega | (rw [nI_leI] <;> omega) | (rw [nI_ltI] <;> omega) | (rw [nI_eq] <;> omega) | (apply q_out <;> omega) | (apply q_nb; omega) | (apply q_n0 <;> omega)) only [M177, h1, ↓if_pos, ↓if_neg, nI_add, q_sub, q_cl, p_bnd_s, p_bnd_v])
  exact p_bnd_h (show p_hd 177 5 1 = some (21, 4, 3) by decide +kernel)
theorem q_w178 {x1 x2 : Int32} {v : Int32} (h : q_Z w n wv sp x (p_ev none 62 0 [.ref 0, .int x1, .int x2] [] w) (some (.int v))) : q_Wr w (n, wv, sp, x) (p_ev none 178 0 [.ref 0, .int x1, .int x2, .ref 23, p_U] [] w) 0 (v.toInt64) := by
  obtain ⟨w1, h1, h2, h3⟩ := h
  refine ⟨(w1.1, q_r w1.2.1 23 (fun j => if j = 0 then v.toInt64 else w1.2.1 23 j), w1.2.2), 0, ?_, by decide, h2.out, h3.fwo, fun _ => by dsimp only; rw [q_r_s, if_pos rfl]⟩
  (conv => lhs; simp (disch := first | assumption | omega | (rw [nI_leI] <;> omega) | (rw [nI_ltI] <;> omega) | (rw [nI_eq] <;> omega) | (apply q_out <;> omega) | (apply q_nb; omega) | (apply q_n0 <;> omega)) only [M178, h1, q_pu, ↓if_pos, ↓if_neg, nI_add, q_sub, q_cl, p_bnd_s, p_bnd_v])
theorem q_x178_2 {x1 x2 : Int32} {v : Int64} (h : q_Zx w n wv sp x (p_ev none 62 0 [.ref 0, .int x1, .int x2] [] w) 2) : q_Wr w (n, wv, sp, x) (p_ev none 178 0 [.ref 0, .int x1, .int x2, .ref 23, p_U] [] w) 1 v := by
  obtain ⟨w1, h1, h2, h3⟩ := h
  refine ⟨w1, 1, ?_, Nat.le_refl _, h2, h3.fw, fun z => absurd z (by decide)⟩
  (conv => lhs; simp (disch := first | assumption | omega | (rw [nI_leI] <;> omega) | (rw [nI_ltI] <;> omega) | (rw [nI_eq] <;> omega) | (apply q_out <;> omega) | (apply q_nb; omega) | (apply q_n0 <;> omega)) only [M178, h1, ↓if_pos, ↓if_neg, nI_add, q_sub, q_cl, p_bnd_s, p_bnd_v])
  exact p_bnd_h (show p_hd 178 5 2 = some (13, 4, 1) by decide +kernel)
theorem q_x178_0 {x1 x2 : Int32} {v : Int64} (h : q_Zx w n wv sp x (p_ev none 62 0 [.ref 0, .int x1, .int x2] [] w) 0) : q_Wr w (n, wv, sp, x) (p_ev none 178 0 [.ref 0, .int x1, .int x2, .ref 23, p_U] [] w) 2 v := by
  obtain ⟨w1, h1, h2, h3⟩ := h
  refine ⟨w1, 1, ?_, Nat.le_refl _, h2, h3.fw, fun z => absurd z (by decide)⟩
  (conv => lhs; simp (disch := first | assumption | omega | (rw [nI_leI] <;> omega) | (rw [nI_ltI] <;> omega) | (rw [nI_eq] <;> omega) | (apply q_out <;> omega) | (apply q_nb; omega) | (apply q_n0 <;> omega)) only [M178, h1, ↓if_pos, ↓if_neg, nI_add, q_sub, q_cl, p_bnd_s, p_bnd_v])
  exact p_bnd_h (show p_hd 178 5 0 = some (17, 4, 2) by decide +kernel)
theorem q_x178_1 {x1 x2 : Int32} {v : Int64} (h : q_Zx w n wv sp x (p_ev none 62 0 [.ref 0, .int x1, .int x2] [] w) 1) : q_Wr w (n, wv, sp, x) (p_ev none 178 0 [.ref 0, .int x1, .int x2, .ref 23, p_U] [] w) 3 v := by
  obtain ⟨w1, h1, h2, h3⟩ := h
  refine ⟨w1, 1, ?_, Nat.le_refl _, h2, h3.fw, fun z => absurd z (by decide)⟩
  (conv => lhs; simp (disch := first | assumption | omega | (rw [nI_leI] <;> omega) | (rw [nI_ltI] <;> omega) | (rw [nI_eq] <;> omega) | (apply q_out <;> omega) | (apply q_nb; omega) | (apply q_n0 <;> omega)) only [M178, h1, ↓if_pos, ↓if_neg, nI_add, q_sub, q_cl, p_bnd_s, p_bnd_v])
  exact p_bnd_h (show p_hd 178 5 1 = some (21, 4, 3) by decide +kernel)
theorem q_w179 {x1 x2 x3 : Int32} {v : Int64} (h : q_Z w n wv sp x (p_ev none 63 0 [.ref 0, .int x1, .int x2, .int x3] [] w) (some (.long v))) : q_Wr w (n, wv, sp, x) (p_ev none 179 0 [.ref 0, .int x1, .int x2, .int x3, .ref 23, p_U] [] w) 0 (v) := by
  obtain ⟨w1, h1, h2, h3⟩ := h
  refine ⟨(w1.1, q_r w1.2.1 23 (fun j => if j = 0 then v else w1.2.1 23 j), w1.2.2), 0, ?_, by decide, h2.out, h3.fwo, fun _ => by dsimp only; rw [q_r_s, if_pos rfl]⟩
  (conv => lhs; simp (disch := first | assumption | omega | (rw [nI_leI] <;> omega) | (rw [nI_ltI] <;> omega) | (rw [nI_eq] <;> omega) | (apply q_out <;> omega) | (apply q_nb; omega) | (apply q_n0 <;> omega)) only [M179, h1, q_pu, ↓if_pos, ↓if_neg, nI_add, q_sub, q_cl, p_bnd_s, p_bnd_v])
theorem q_x179_2 {x1 x2 x3 : Int32} {v : Int64} (h : q_Zx w n wv sp x (p_ev none 63 0 [.ref 0, .int x1, .int x2, .int x3] [] w) 2) : q_Wr w (n, wv, sp, x) (p_ev none 179 0 [.ref 0, .int x1, .int x2, .int x3, .ref 23, p_U] [] w) 1 v := by
  obtain ⟨w1, h1, h2, h3⟩ := h
  refine ⟨w1, 1, ?_, Nat.le_refl _, h2, h3.fw, fun z => absurd z (by decide)⟩
  (conv => lhs; simp (disch := first | assumption | omega | (rw [nI_leI] <;> omega) | (rw [nI_ltI] <;> omega) | (rw [nI_eq] <;> omega) | (apply q_out <;> omega) | (apply q_nb; omega) | (apply q_n0 <;> omega)) only [M179, h1, ↓if_pos, ↓if_neg, nI_add, q_sub, q_cl, p_bnd_s, p_bnd_v])
  exact p_bnd_h (show p_hd 179 7 2 = some (14, 5, 1) by decide +kernel)
theorem q_x179_0 {x1 x2 x3 : Int32} {v : Int64} (h : q_Zx w n wv sp x (p_ev none 63 0 [.ref 0, .int x1, .int x2, .int x3] [] w) 0) : q_Wr w (n, wv, sp, x) (p_ev none 179 0 [.ref 0, .int x1, .int x2, .int x3, .ref 23, p_U] [] w) 2 v := by
  obtain ⟨w1, h1, h2, h3⟩ := h
  refine ⟨w1, 1, ?_, Nat.le_refl _, h2, h3.fw, fun z => absurd z (by decide)⟩
  (conv => lhs; simp (disch := first | assumption | omega | (rw [nI_leI] <;> omega) | (rw [nI_ltI] <;> omega) | (rw [nI_eq] <;> omega) | (apply q_out <;> omega) | (apply q_nb; omega) | (apply q_n0 <;> omega)) only [M179, h1, ↓if_pos, ↓if_neg, nI_add, q_sub, q_cl, p_bnd_s, p_bnd_v])
  exact p_bnd_h (show p_hd 179 7 0 = some (18, 5, 2) by decide +kernel)
theorem q_x179_1 {x1 x2 x3 : Int32} {v : Int64} (h : q_Zx w n wv sp x (p_ev none 63 0 [.ref 0, .int x1, .int x2, .int x3] [] w) 1) : q_Wr w (n, wv, sp, x) (p_ev none 179 0 [.ref 0, .int x1, .int x2, .int x3, .ref 23, p_U] [] w) 3 v := by
  obtain ⟨w1, h1, h2, h3⟩ := h
  refine ⟨w1, 1, ?_, Nat.le_refl _, h2, h3.fw, fun z => absurd z (by decide)⟩
  (conv => lhs; simp (disch := first | assumption | omega | (rw [nI_leI] <;> omega) | (rw [nI_ltI] <;> omega) | (rw [nI_eq] <;> omega) | (apply q_out <;> omega) | (apply q_nb; omega) | (apply q_n0 <;> omega)) only [M179, h1, ↓if_pos, ↓if_neg, nI_add, q_sub, q_cl, p_bnd_s, p_bnd_v])
  exact p_bnd_h (show p_hd 179 7 1 = some (22, 5, 3) by decide +kernel)
theorem q_w180 {x1 x2 : Int32} {v : Int64} (h : q_Z w n wv sp x (p_ev none 64 0 [.ref 0, .int x1, .int x2, p_U, p_U, p_U, p_U, p_U, p_U, p_U, p_U, p_U, p_U] [] w) (some (.long v))) : q_Wr w (n, wv, sp, x) (p_ev none 180 0 [.ref 0, .int x1, .int x2, .ref 23, p_U] [] w) 0 (v) := by
  obtain ⟨w1, h1, h2, h3⟩ := h
  refine ⟨(w1.1, q_r w1.2.1 23 (fun j => if j = 0 then v else w1.2.1 23 j), w1.2.2), 0, ?_, by decide, h2.out, h3.fwo, fun _ => by dsimp only; rw [q_r_s, if_pos rfl]⟩
  (conv => lhs; simp (disch := first | assumption | omega | (rw [nI_leI] <;> omega) | (rw [nI_ltI] <;> omega) | (rw [nI_eq] <;> omega) | (apply q_out <;> omega) | (apply q_nb; omega) | (apply q_n0 <;> omega)) only [M180, h1, q_pu, ↓if_pos, ↓if_neg, nI_add, q_sub, q_cl, p_bnd_s, p_bnd_v])
theorem q_x180_2 {x1 x2 : Int32} {v : Int64} (h : q_Zx w n wv sp x (p_ev none 64 0 [.ref 0, .int x1, .int x2, p_U, p_U, p_U, p_U, p_U, p_U, p_U, p_U, p_U, p_U] [] w) 2) : q_Wr w (n, wv, sp, x) (p_ev none 180 0 [.ref 0, .int x1, .int x2, .ref 23, p_U] [] w) 1 v := by
  obtain ⟨w1, h1, h2, h3⟩ := h
  refine ⟨w1, 1, ?_, Nat.le_refl _, h2, h3.fw, fun z => absurd z (by decide)⟩
  (conv => lhs; simp (disch := first | assumption | omega | (rw [nI_leI] <;> omega) | (rw [nI_ltI] <;> omega) | (rw [nI_eq] <;> omega) | (apply q_out <;> omega) | (apply q_nb; omega) | (apply q_n0 <;> omega)) only [M180, h1, ↓if_pos, ↓if_neg, nI_add, q_sub, q_cl, p_bnd_s, p_bnd_v])
  exact p_bnd_h (show p_hd 180 5 2 = some (12, 4, 1) by decide +kernel)
theorem q_x180_0 {x1 x2 : Int32} {v : Int64} (h : q_Zx w n wv sp x (p_ev none 64 0 [.ref 0, .int x1, .int x2, p_U, p_U, p_U, p_U, p_U, p_U, p_U, p_U, p_U, p_U] [] w) 0) : q_Wr w (n, wv, sp, x) (p_ev none 180 0 [.ref 0, .int x1, .int x2, .ref 23, p_U] [] w) 2 v := by
  obtain ⟨w1, h1, h2, h3⟩ := h
  refine ⟨w1, 1, ?_, Nat.le_refl _, h2, h3.fw, fun z => absurd z (by decide)⟩
  (conv => lhs; simp (disch := first | assumption | omega | (rw [nI_leI] <;> omega) | (rw [nI_ltI] <;> omega) | (rw [nI_eq] <;> omega) | (apply q_out <;> omega) | (apply q_nb; omega) | (apply q_n0 <;> omega)) only [M180, h1, ↓if_pos, ↓if_neg, nI_add, q_sub, q_cl, p_bnd_s, p_bnd_v])
  exact p_bnd_h (show p_hd 180 5 0 = some (16, 4, 2) by decide +kernel)
theorem q_x180_1 {x1 x2 : Int32} {v : Int64} (h : q_Zx w n wv sp x (p_ev none 64 0 [.ref 0, .int x1, .int x2, p_U, p_U, p_U, p_U, p_U, p_U, p_U, p_U, p_U, p_U] [] w) 1) : q_Wr w (n, wv, sp, x) (p_ev none 180 0 [.ref 0, .int x1, .int x2, .ref 23, p_U] [] w) 3 v := by
  obtain ⟨w1, h1, h2, h3⟩ := h
  refine ⟨w1, 1, ?_, Nat.le_refl _, h2, h3.fw, fun z => absurd z (by decide)⟩
  (conv => lhs; simp (disch := first | assumption | omega | (rw [nI_leI] <;> omega) | (rw [nI_ltI] <;> omega) | (rw [nI_eq] <;> omega) | (apply q_out <;> omega) | (apply q_nb; omega) | (apply q_n0 <;> omega)) only [M180, h1, ↓if_pos, ↓if_neg, nI_add, q_sub, q_cl, p_bnd_s, p_bnd_v])
  exact p_bnd_h (show p_hd 180 5 1 = some (20, 4, 3) by decide +kernel)
theorem q_w181 {v : Int32} (h : q_Z w n wv sp x (p_ev none 66 0 [.ref 0] [] w) (some (.int v))) : q_Wr w (n, wv, sp, x) (p_ev none 181 0 [.ref 0, .ref 23, p_U] [] w) 0 (v.toInt64) := by
  obtain ⟨w1, h1, h2, h3⟩ := h
  refine ⟨(w1.1, q_r w1.2.1 23 (fun j => if j = 0 then v.toInt64 else w1.2.1 23 j), w1.2.2), 0, ?_, by decide, h2.out, h3.fwo, fun _ => by dsimp only; rw [q_r_s, if_pos rfl]⟩
  (conv => lhs; simp (disch := first | assumption | omega | (rw [nI_leI] <;> omega) | (rw [nI_ltI] <;> omega) | (rw [nI_eq] <;> omega) | (apply q_out <;> omega) | (apply q_nb; omega) | (apply q_n0 <;> omega)) only [M181, h1, q_pu, ↓if_pos, ↓if_neg, nI_add, q_sub, q_cl, p_bnd_s, p_bnd_v])
theorem q_x181_1 {v : Int64} (h : q_Zx w n wv sp x (p_ev none 66 0 [.ref 0] [] w) 1) : q_Wr w (n, wv, sp, x) (p_ev none 181 0 [.ref 0, .ref 23, p_U] [] w) 1 v := by
  obtain ⟨w1, h1, h2, h3⟩ := h
  refine ⟨w1, 1, ?_, Nat.le_refl _, h2, h3.fw, fun z => absurd z (by decide)⟩
  (conv => lhs; simp (disch := first | assumption | omega | (rw [nI_leI] <;> omega) | (rw [nI_ltI] <;> omega) | (rw [nI_eq] <;> omega) | (apply q_out <;> omega) | (apply q_nb; omega) | (apply q_n0 <;> omega)) only [M181, h1, ↓if_pos, ↓if_neg, nI_add, q_sub, q_cl, p_bnd_s, p_bnd_v])
  exact p_bnd_h (show p_hd 181 3 1 = some (11, 2, 1) by decide +kernel)
theorem q_w182 {x1 : Int32} {v : Int32} (h : q_Z w n wv sp x (p_ev none 67 0 [.ref 0, .int x1] [] w) (some (.int v))) : q_Wr w (n, wv, sp, x) (p_ev none 182 0 [.ref 0, .int x1, .ref 23, p_U] [] w) 0 (v.toInt64) := by
  obtain ⟨w1, h1, h2, h3⟩ := h
  refine ⟨(w1.1, q_r w1.2.1 23 (fun j => if j = 0 then v.toInt64 else w1.2.1 23 j), w1.2.2), 0, ?_, by decide, h2.out, h3.fwo, fun _ => by dsimp only; rw [q_r_s, if_pos rfl]⟩
  (conv => lhs; simp (disch := first | assumption | omega | (rw [nI_leI] <;> omega) | (rw [nI_ltI] <;> omega) | (rw [nI_eq] <;> omega) | (apply q_out <;> omega) | (apply q_nb; omega) | (apply q_n0 <;> omega)) only [M182, h1, q_pu, ↓if_pos, ↓if_neg, nI_add, q_sub, q_cl, p_bnd_s, p_bnd_v])
theorem q_x182_1 {x1 : Int32} {v : Int64} (h : q_Zx w n wv sp x (p_ev none 67 0 [.ref 0, .int x1] [] w) 1) : q_Wr w (n, wv, sp, x) (p_ev none 182 0 [.ref 0, .int x1, .ref 23, p_U] [] w) 1 v := by
  obtain ⟨w1, h1, h2, h3⟩ := h
  refine ⟨w1, 1, ?_, Nat.le_refl _, h2, h3.fw, fun z => absurd z (by decide)⟩
  (conv => lhs; simp (disch := first | assumption | omega | (rw [nI_leI] <;> omega) | (rw [nI_ltI] <;> omega) | (rw [nI_eq] <;> omega) | (apply q_out <;> omega) | (apply q_nb; omega) | (apply q_n0 <;> omega)) only [M182, h1, ↓if_pos, ↓if_neg, nI_add, q_sub, q_cl, p_bnd_s, p_bnd_v])
  exact p_bnd_h (show p_hd 182 4 1 = some (12, 3, 1) by decide +kernel)
theorem q_x182_2 {x1 : Int32} {v : Int64} (h : q_Zx w n wv sp x (p_ev none 67 0 [.ref 0, .int x1] [] w) 2) : q_Wr w (n, wv, sp, x) (p_ev none 182 0 [.ref 0, .int x1, .ref 23, p_U] [] w) 2 v := by
  obtain ⟨w1, h1, h2, h3⟩ := h
  refine ⟨w1, 1, ?_, Nat.le_refl _, h2, h3.fw, fun z => absurd z (by decide)⟩
  (conv => lhs; simp (disch := first | assumption | omega | (rw [nI_leI] <;> omega) | (rw [nI_ltI] <;> omega) | (rw [nI_eq] <;> omega) | (apply q_out <;> omega) | (apply q_nb; omega) | (apply q_n0 <;> omega)) only [M182, h1, ↓if_pos, ↓if_neg, nI_add, q_sub, q_cl, p_bnd_s, p_bnd_v])
  exact p_bnd_h (show p_hd 182 4 2 = some (15, 3, 2) by decide +kernel)
theorem q_w183 {x1 x2 : Int32} {v : Int64} (h : q_Z w n wv sp x (p_ev none 68 0 [.ref 0, .int x1, .int x2] [] w) (some (.long v))) : q_Wr w (n, wv, sp, x) (p_ev none 183 0 [.ref 0, .int x1, .int x2, .ref 23, p_U] [] w) 0 (v) := by
  obtain ⟨w1, h1, h2, h3⟩ := h
  refine ⟨(w1.1, q_r w1.2.1 23 (fun j => if j = 0 then v else w1.2.1 23 j), w1.2.2), 0, ?_, by decide, h2.out, h3.fwo, fun _ => by dsimp only; rw [q_r_s, if_pos rfl]⟩
  (conv => lhs; simp (disch := first | assumption | omega | (rw [nI_leI] <;> omega) | (rw [nI_ltI] <;> omega) | (rw [nI_eq] <;> omega) | (apply q_out <;> omega) | (apply q_nb; omega) | (apply q_n0 <;> omega)) only [M183, h1, q_pu, ↓if_pos, ↓if_neg, nI_add, q_sub, q_cl, p_bnd_s, p_bnd_v])
theorem q_x183_1 {x1 x2 : Int32} {v : Int64} (h : q_Zx w n wv sp x (p_ev none 68 0 [.ref 0, .int x1, .int x2] [] w) 1) : q_Wr w (n, wv, sp, x) (p_ev none 183 0 [.ref 0, .int x1, .int x2, .ref 23, p_U] [] w) 1 v := by
  obtain ⟨w1, h1, h2, h3⟩ := h
  refine ⟨w1, 1, ?_, Nat.le_refl _, h2, h3.fw, fun z => absurd z (by decide)⟩
  (conv => lhs; simp (disch := first | assumption | omega | (rw [nI_leI] <;> omega) | (rw [nI_ltI] <;> omega) | (rw [nI_eq] <;> omega) | (apply q_out <;> omega) | (apply q_nb; omega) | (apply q_n0 <;> omega)) only [M183, h1, ↓if_pos, ↓if_neg, nI_add, q_sub, q_cl, p_bnd_s, p_bnd_v])
  exact p_bnd_h (show p_hd 183 5 1 = some (12, 4, 1) by decide +kernel)
theorem q_x183_0 {x1 x2 : Int32} {v : Int64} (h : q_Zx w n wv sp x (p_ev none 68 0 [.ref 0, .int x1, .int x2] [] w) 0) : q_Wr w (n, wv, sp, x) (p_ev none 183 0 [.ref 0, .int x1, .int x2, .ref 23, p_U] [] w) 2 v := by
  obtain ⟨w1, h1, h2, h3⟩ := h
  refine ⟨w1, 1, ?_, Nat.le_refl _, h2, h3.fw, fun z => absurd z (by decide)⟩
  (conv => lhs; simp (disch := first | assumption | omega | (rw [nI_leI] <;> omega) | (rw [nI_ltI] <;> omega) | (rw [nI_eq] <;> omega) | (apply q_out <;> omega) | (apply q_nb; omega) | (apply q_n0 <;> omega)) only [M183, h1, ↓if_pos, ↓if_neg, nI_add, q_sub, q_cl, p_bnd_s, p_bnd_v])
  exact p_bnd_h (show p_hd 183 5 0 = some (16, 4, 2) by decide +kernel)
theorem q_x183_2 {x1 x2 : Int32} {v : Int64} (h : q_Zx w n wv sp x (p_ev none 68 0 [.ref 0, .int x1, .int x2] [] w) 2) : q_Wr w (n, wv, sp, x) (p_ev none 183 0 [.ref 0, .int x1, .int x2, .ref 23, p_U] [] w) 3 v := by
  obtain ⟨w1, h1, h2, h3⟩ := h
  refine ⟨w1, 1, ?_, Nat.le_refl _, h2, h3.fw, fun z => absurd z (by decide)⟩
  (conv => lhs; simp (disch := first | assumption | omega | (rw [nI_leI] <;> omega) | (rw [nI_ltI] <;> omega) | (rw [nI_eq] <;> omega) | (apply q_out <;> omega) | (apply q_nb; omega) | (apply q_n0 <;> omega)) only [M183, h1, ↓if_pos, ↓if_neg, nI_add, q_sub, q_cl, p_bnd_s, p_bnd_v])
  exact p_bnd_h (show p_hd 183 5 2 = some (20, 4, 3) by decide +kernel)
theorem q_w184 {x1 : Int32} {v : Int64} (h : q_Z w n wv sp x (p_ev none 69 0 [.ref 0, .int x1] [] w) (some (.long v))) : q_Wr w (n, wv, sp, x) (p_ev none 184 0 [.ref 0, .int x1, .ref 23, p_U] [] w) 0 (v) := by
  obtain ⟨w1, h1, h2, h3⟩ := h
  refine ⟨(w1.1, q_r w1.2.1 23 (fun j => if j = 0 then v else w1.2.1 23 j), w1.2.2), 0, ?_, by decide, h2.out, h3.fwo, fun _ => by dsimp only; rw [q_r_s, if_pos rfl]⟩
  (conv => lhs; simp (disch := first | assumption | omega | (rw [nI_leI] <;> omega) | (rw [nI_ltI] <;> omega) | (rw [nI_eq] <;> omega) | (apply q_out <;> omega) | (apply q_nb; omega) | (apply q_n0 <;> omega)) only [M184, h1, q_pu, ↓if_pos, ↓if_neg, nI_add, q_sub, q_cl, p_bnd_s, p_bnd_v])
theorem q_x184_1 {x1 : Int32} {v : Int64} (h : q_Zx w n wv sp x (p_ev none 69 0 [.ref 0, .int x1] [] w) 1) : q_Wr w (n, wv, sp, x) (p_ev none 184 0 [.ref 0, .int x1, .ref 23, p_U] [] w) 1 v := by
  obtain ⟨w1, h1, h2, h3⟩ := h
  refine ⟨w1, 1, ?_, Nat.le_refl _, h2, h3.fw, fun z => absurd z (by decide)⟩
  (conv => lhs; simp (disch := first | assumption | omega | (rw [nI_leI] <;> omega) | (rw [nI_ltI] <;> omega) | (rw [nI_eq] <;> omega) | (apply q_out <;> omega) | (apply q_nb; omega) | (apply q_n0 <;> omega)) only [M184, h1, ↓if_pos, ↓if_neg, nI_add, q_sub, q_cl, p_bnd_s, p_bnd_v])
  exact p_bnd_h (show p_hd 184 4 1 = some (11, 3, 1) by decide +kernel)
theorem q_x184_0 {x1 : Int32} {v : Int64} (h : q_Zx w n wv sp x (p_ev none 69 0 [.ref 0, .int x1] [] w) 0) : q_Wr w (n, wv, sp, x) (p_ev none 184 0 [.ref 0, .int x1, .ref 23, p_U] [] w) 2 v := by
  obtain ⟨w1, h1, h2, h3⟩ := h
  refine ⟨w1, 1, ?_, Nat.le_refl _, h2, h3.fw, fun z => absurd z (by decide)⟩
  (conv => lhs; simp (disch := first | assumption | omega | (rw [nI_leI] <;> omega) | (rw [nI_ltI] <;> omega) | (rw [nI_eq] <;> omega) | (apply q_out <;> omega) | (apply q_nb; omega) | (apply q_n0 <;> omega)) only [M184, h1, ↓if_pos, ↓if_neg, nI_add, q_sub, q_cl, p_bnd_s, p_bnd_v])
  exact p_bnd_h (show p_hd 184 4 0 = some (14, 3, 2) by decide +kernel)
theorem q_w185 {x1 : Int32} {v : Int32} (h : q_Z w n wv sp x (p_ev none 70 0 [.ref 0, .int x1, p_U, p_U, p_U] [] w) (some (.int v))) : q_Wr w (n, wv, sp, x) (p_ev none 185 0 [.ref 0, .int x1, .ref 23, p_U] [] w) 0 (v.toInt64) := by
  obtain ⟨w1, h1, h2, h3⟩ := h
  refine ⟨(w1.1, q_r w1.2.1 23 (fun j => if j = 0 then v.toInt64 else w1.2.1 23 j), w1.2.2), 0, ?_, by decide, h2.out, h3.fwo, fun _ => by dsimp only; rw [q_r_s, if_pos rfl]⟩
  (conv => lhs; simp (disch := first | assumption | omega | (rw [nI_leI] <;> omega) | (rw [nI_ltI] <;> omega) | (rw [nI_eq] <;> omega) | (apply q_out <;> omega) | (apply q_nb; omega) | (apply q_n0 <;> omega)) only [M185, h1, q_pu, ↓if_pos, ↓if_neg, nI_add, q_sub, q_cl, p_bnd_s, p_bnd_v])
theorem q_x185_1 {x1 : Int32} {v : Int64} (h : q_Zx w n wv sp x (p_ev none 70 0 [.ref 0, .int x1, p_U, p_U, p_U] [] w) 1) : q_Wr w (n, wv, sp, x) (p_ev none 185 0 [.ref 0, .int x1, .ref 23, p_U] [] w) 1 v := by
  obtain ⟨w1, h1, h2, h3⟩ := h
  refine ⟨w1, 1, ?_, Nat.le_refl _, h2, h3.fw, fun z => absurd z (by decide)⟩
  (conv => lhs; simp (disch := first | assumption | omega | (rw [nI_leI] <;> omega) | (rw [nI_ltI] <;> omega) | (rw [nI_eq] <;> omega) | (apply q_out <;> omega) | (apply q_nb; omega) | (apply q_n0 <;> omega)) only [M185, h1, ↓if_pos, ↓if_neg, nI_add, q_sub, q_cl, p_bnd_s, p_bnd_v])
  exact p_bnd_h (show p_hd 185 4 1 = some (12, 3, 1) by decide +kernel)
theorem q_x185_0 {x1 : Int32} {v : Int64} (h : q_Zx w n wv sp x (p_ev none 70 0 [.ref 0, .int x1, p_U, p_U, p_U] [] w) 0) : q_Wr w (n, wv, sp, x) (p_ev none 185 0 [.ref 0, .int x1, .ref 23, p_U] [] w) 2 v := by
  obtain ⟨w1, h1, h2, h3⟩ := h
  refine ⟨w1, 1, ?_, Nat.le_refl _, h2, h3.fw, fun z => absurd z (by decide)⟩
  (conv => lhs; simp (disch := first | assumption | omega | (rw [nI_leI] <;> omega) | (rw [nI_ltI] <;> omega) | (rw [nI_eq] <;> omega) | (apply q_out <;> omega) | (apply q_nb; omega) | (apply q_n0 <;> omega)) only [M185, h1, ↓if_pos, ↓if_neg, nI_add, q_sub, q_cl, p_bnd_s, p_bnd_v])
  exact p_bnd_h (show p_hd 185 4 0 = some (15, 3, 2) by decide +kernel)
end Lw
