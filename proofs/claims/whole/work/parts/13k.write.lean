/-! THE CODE IS WRITTEN -/
def q_hd (P : Nat) : Nat → List q_ev
  | 0 => []
  | d + 1 => (0, P / 2 ^ d % 2, 0, 0) :: q_hd P d
def q_pl (n lo : Nat) (x R : Nat → Int64) : Nat → List q_ev
  | 0 => []
  | k + 1 => q_f2 n lo x R k 0 n ++ (q_s2 x k 0 n ++ q_pl n lo x R k)
def q_code (n lo : Nat) (x R : Nat → Int64) : List q_ev := q_hd (q_dg (q_mx x n)) 6 ++ q_pl n lo x (q_rd lo n (q_ab x R n)) (q_dg (q_mx x n))
theorem q_hd_len {P : Nat} : ∀ d, (q_hd P d).length = d
  | 0 => rfl
  | d + 1 => by rw [q_hd, List.length_cons, q_hd_len d]
theorem q_fs_len {n lo pl : Nat} {x R : Nat → Int64} {p : Nat} : (q_f1 n lo x R pl p).length + (q_s1 x pl p).length ≤ 2 := by
  unfold q_f1 q_s1
  by_cases h : lN 1 < q_sh (p_abs (x p)) pl
  · rw [if_neg (fun z => by rw [z] at h; exact absurd h (Int64.lt_irrefl)), if_neg (fun z => by rw [z.1] at h; exact absurd h (by decide)), if_pos h]
    simp
  · rw [if_neg h]
    split
    · simp
    · split
      · split <;> simp
      · simp
theorem q_fs2_len {n lo pl : Nat} {x R : Nat → Int64} : ∀ (d k : Nat), (q_f2 n lo x R pl k d).length + (q_s2 x pl k d).length ≤ 2 * d
  | 0, k => by simp [q_f2, q_s2]
  | d + 1, k => by
    have h1 := q_fs2_len (n := n) (lo := lo) (pl := pl) (x := x) (R := R) d (k + 1)
    have h2 := q_fs_len (n := n) (lo := lo) (pl := pl) (x := x) (R := R) (p := k)
    rw [q_f2, q_s2, List.length_append, List.length_append]
    omega
theorem q_pl_len {n lo : Nat} {x R : Nat → Int64} : ∀ k, (q_pl n lo x R k).length ≤ 2 * n * k
  | 0 => by simp [q_pl]
  | k + 1 => by
    have h1 := q_pl_len (n := n) (lo := lo) (x := x) (R := R) k
    have h2 := q_fs2_len (n := n) (lo := lo) (pl := k) (x := x) (R := R) n 0
    rw [q_pl, List.length_append, List.length_append, Nat.mul_succ]
    omega
theorem q_code_len {n lo : Nat} {x R : Nat → Int64} (hn : n ≤ 32) : (q_code n lo x R).length ≤ 4038 := by
  unfold q_code
  rw [List.length_append, q_hd_len]
  have h1 := q_pl_len (n := n) (lo := lo) (x := x) (R := q_rd lo n (q_ab x R n)) (q_dg (q_mx x n))
  have h2 := q_dg_le (x := q_mx x n)
  have h3 : 2 * n * q_dg (q_mx x n) ≤ 64 * 63 := Nat.mul_le_mul (by omega) h2
  omega
theorem q_hbit : ∀ d, d < 6 → ∀ P, P < 64 → (nI P >>> (nI d &&& 31)) &&& nI 1 = nI (P / 2 ^ d % 2) := by decide +kernel
section Wr
variable {n lo : Nat} {x R : Nat → Int64} {r : Nat} {w : pW}
theorem q_w_hd (hr : p_rw r) {x2 x3 : Int32} {P : Nat} (hP : P < 64) : ∀ (d : Nat) (w : pW) (E : List q_ev), d < 7 → E.length + d < 50 → q_E E w → ∃ w', p_ev none 3 35 [.ref 3, .ref r, .int x2, .int x3, .int (nI P), .int (nI d + (-1))] [] w = p_ev none 3 63 [.ref 3, .ref r, .int x2, .int x3, .int (nI P), .int (nI P + (-1))] [] w' ∧ q_E (E ++ q_hd P d) w' ∧ q_X w w' := by
  intro d
  induction d with
  | zero =>
    intro w E hd hlE hE
    refine ⟨w, ?_, ?_, q_X.rf⟩
    · rw [show nI 0 + (-1) = (-1 : Int32) from rfl, H3_35 r hr]
      have e : (-1 : Int32) < nI 0 := by decide
      (conv => lhs; simp (disch := first | assumption | omega | (rw [nI_leI] <;> omega) | (rw [nI_ltI] <;> omega) | (rw [nI_eq] <;> omega) | (apply q_out <;> omega) | (apply q_nb; omega) | (apply q_n0 <;> omega)) only [M3 r hr, ↓if_pos, ↓if_neg, nI_add, q_sub, q_cl, p_bnd_s, p_bnd_v])
      rw [Int32.sub_eq_add_neg]
      rfl
    · rw [q_hd, List.append_nil]; exact hE
  | succ d ih =>
    intro w E hd hlE hE
    have hE2 := q_E_put (e := (0, P / 2 ^ d % 2, 0, 0)) hE ⟨by show P / 2 ^ d % 2 < 2; omega, by show 0 < 32; omega, by show 0 < 64; omega⟩
    obtain ⟨w', h1, h2, h3⟩ := ih _ _ (by omega) (by simp only [List.length_append, List.length_singleton]; omega) hE2
    refine ⟨w', ?_, ?_, q_X_put.tr h3⟩
    · rw [q_m1 (show 1 ≤ d + 1 by omega), Nat.add_sub_cancel, H3_35 r hr]
      have e : ¬ nI d < nI 0 := by rw [nI_ltI (by omega) (by omega)]; omega
      have hb := q_hbit d (by omega) P hP
      have hp := q_put1E (a := nI (P / 2 ^ d % 2)) hE (by omega)
      (conv => lhs; simp (disch := first | assumption | omega | (rw [nI_leI] <;> omega) | (rw [nI_ltI] <;> omega) | (rw [nI_eq] <;> omega) | (apply q_out <;> omega) | (apply q_nb; omega) | (apply q_n0 <;> omega)) only [M3 r hr, hb, hp, ↓if_pos, ↓if_neg, nI_add, q_sub, q_cl, p_bnd_s, p_bnd_v])
      exact h1
    · rw [q_hd, List.append_cons]; exact h2
theorem q_w_pl (hr : p_rw r) (hn : n ≤ 32) (hlo : lo < 2 ^ 20) {x2 x3 x4 : Int32} : ∀ (k : Nat) (w : pW) (E : List q_ev), k < 64 → (E ++ q_pl n lo x R k).length ≤ 4038 → q_W n lo w → w.2.1 16 = x → w.2.1 17 = R → q_E E w → ∃ w', p_ev none 3 63 [.ref 3, .ref r, .int x2, .int x3, .int x4, .int (nI k + (-1))] [] w = some (.inl none, w', 0) ∧ q_E (E ++ q_pl n lo x R k) w' ∧ q_X w w' := by
  intro k
  induction k with
  | zero =>
    intro w E hk hl hW hx hR hE
    refine ⟨w, ?_, ?_, q_X.rf⟩
    · rw [show nI 0 + (-1) = (-1 : Int32) from rfl, H3_63 r hr]
      have e : (-1 : Int32) < nI 0 := by decide
      (conv => lhs; simp (disch := first | assumption | omega | (rw [nI_leI] <;> omega) | (rw [nI_ltI] <;> omega) | (rw [nI_eq] <;> omega) | (apply q_out <;> omega) | (apply q_nb; omega) | (apply q_n0 <;> omega)) only [M3 r hr, ↓if_pos, ↓if_neg, nI_add, q_sub, q_cl, p_bnd_s, p_bnd_v])
    · rw [q_pl, List.append_nil]; exact hE
  | succ k ih =>
    intro w E hk hl hW hx hR hE
    rw [q_pl, ← List.append_assoc, ← List.append_assoc] at hl
    obtain ⟨w1, a1, a2, a3⟩ := q_pass1 (pl := k) hn hlo (by omega) hW hx hR hE (by simp only [List.length_append] at hl ⊢; omega)
    obtain ⟨w2, b1, b2, b3⟩ := q_pass2 (pl := k) (x := x) hn (by omega) (hW.x a3) (by rw [a3.1]; exact hx) a2 (by simp only [List.length_append] at hl ⊢; omega)
    obtain ⟨w', h1, h2, h3⟩ := ih w2 _ (by omega) hl ((hW.x a3).x b3) (by rw [b3.1, a3.1]; exact hx) (by rw [b3.1, a3.1]; exact hR) b2
    refine ⟨w', ?_, ?_, (a3.tr b3).tr h3⟩
    · rw [q_m1 (show 1 ≤ k + 1 by omega), Nat.add_sub_cancel, H3_63 r hr]
      have e : ¬ nI k < nI 0 := by rw [nI_ltI (by omega) (by omega)]; omega
      (conv => lhs; simp (disch := first | assumption | omega | (rw [nI_leI] <;> omega) | (rw [nI_ltI] <;> omega) | (rw [nI_eq] <;> omega) | (apply q_out <;> omega) | (apply q_nb; omega) | (apply q_n0 <;> omega)) only [M3 r hr, a1, b1, ↓if_pos, ↓if_neg, nI_add, q_sub, q_cl, p_bnd_s, p_bnd_v])
      exact h1
    · rw [q_pl, ← List.append_assoc, ← List.append_assoc]; exact h2
end Wr
/-- what writing the code leaves alone -/
def q_Y (w w' : pW) : Prop := (∀ o, o ≠ 3 → w'.1 o = w.1 o) ∧ (∀ a, a ≠ 16 → a ≠ 17 → w'.2.1 a = w.2.1 a) ∧ ∀ a, a < 20 ∨ 22 < a → w'.2.2 a = w.2.2 a
theorem q_Y.x {a b c : pW} (h : q_Y a b) (g : q_X b c) : q_Y a c := ⟨fun o ho => (funext fun j => g.2.1 o j (fun z => ho z.1)).trans (h.1 o ho), fun o h1 h2 => (congrFun g.1 o).trans (h.2.1 o h1 h2), fun o ho => (g.2.2 o ho).trans (h.2.2 o ho)⟩
theorem q_write {r n lo : Nat} {w : pW} {x : Nat → Int64} (hr : p_rw r) (hne : 9 ≠ r) (hn : n ≤ 32) (h1 : 1 ≤ lo) (hlo : lo ≤ n) (hx : x = fun j => if j < 32 then w.2.1 (r + 7) j else w.2.1 16 j) : ∃ w', p_ev none 3 0 [.ref 3, .ref r, .int (nI n), .int (nI lo), p_U, p_U] [] w = some (.inl none, w', 0) ∧ q_E (q_code n lo x (w.2.1 17)) w' ∧ q_W n lo w' ∧ w'.2.1 16 = x ∧ q_Y w w' := by
  have h9 : p_rw 9 := ⟨rfl, rfl⟩
  have hC := q_copy (w := w) h9 hr hne
  simp only [Nat.reduceAdd] at hC
  rw [← hx] at hC
  have hP : q_dg (q_mx x n) < 64 := by have := q_dg_le (x := q_mx x n); omega
  have hW : q_W n lo (q_r (q_r (q_r w.1 3 (fun j => if j = 6 then nI n else w.1 3 j)) 3 (fun j => if j = 7 then nI lo else if j = 6 then nI n else w.1 3 j)) 3 (fun j => if j = 5 then nI 0 else if j = 7 then nI lo else if j = 6 then nI n else w.1 3 j), q_r w.2.1 16 x, w.2.2) := by
    refine ⟨?_, ?_⟩
    · dsimp only; rw [q_r_s]; rfl
    · dsimp only; rw [q_r_s]; rfl
  have hx16 : q_r w.2.1 16 x 16 = x := q_r_s
  have hR := q_reach hn h1 hlo hW hx16
  have e17 : q_r w.2.1 16 x 17 = w.2.1 17 := q_r_n (by decide)
  dsimp only at hR
  rw [e17] at hR
  have hE0 : q_E [] (q_r (q_r (q_r w.1 3 (fun j => if j = 6 then nI n else w.1 3 j)) 3 (fun j => if j = 7 then nI lo else if j = 6 then nI n else w.1 3 j)) 3 (fun j => if j = 5 then nI 0 else if j = 7 then nI lo else if j = 6 then nI n else w.1 3 j), q_r (q_r w.2.1 16 x) 17 (q_rd lo n (q_ab x (w.2.1 17) n)), w.2.2) := by
    refine ⟨?_, fun i e hi => absurd hi (by simp)⟩
    dsimp only; rw [q_r_s]; rfl
  obtain ⟨w1, a1, a2, a3⟩ := q_w_hd (r := r) (x2 := nI n) (x3 := nI lo) hr hP 6 _ [] (by omega) (by simp) hE0
  have g16 : w1.2.1 16 = x := by rw [a3.1]; dsimp only; rw [q_r_n (by decide), q_r_s]
  have g17 : w1.2.1 17 = q_rd lo n (q_ab x (w.2.1 17) n) := by rw [a3.1]; dsimp only; rw [q_r_s]
  have gW : q_W n lo w1 := by
    refine ⟨?_, ?_⟩
    · rw [a3.2.1 3 6 (by decide)]; exact hW.1
    · rw [a3.2.1 3 7 (by decide)]; exact hW.2
  have gl := q_code_len (lo := lo) (x := x) (R := w.2.1 17) hn
  obtain ⟨w', b1, b2, b3⟩ := q_w_pl (r := r) (x2 := nI n) (x3 := nI lo) (x4 := nI (q_dg (q_mx x n))) hr hn (show lo < 2 ^ 20 by omega) _ w1 _ hP gl gW g16 g17 a2
  refine ⟨w', ?_, b2, gW.x b3, by rw [b3.1]; exact g16, ?_⟩
  · (conv => lhs; simp (disch := first | assumption | omega | (rw [nI_leI] <;> omega) | (rw [nI_ltI] <;> omega) | (rw [nI_eq] <;> omega) | (apply q_out <;> omega) | (apply q_nb; omega) | (apply q_n0 <;> omega)) only [M3 r hr, hC, q_pu, q_r_s, hR, q_digits, ↓if_pos, ↓if_neg, nI_add, q_sub, q_cl, p_bnd_s, p_bnd_v])
    refine Eq.trans ?_ (a1.trans b1)
    rfl
  · refine q_Y.x (b := w1) (q_Y.x (b := (q_r (q_r (q_r w.1 3 (fun j => if j = 6 then nI n else w.1 3 j)) 3 (fun j => if j = 7 then nI lo else if j = 6 then nI n else w.1 3 j)) 3 (fun j => if j = 5 then nI 0 else if j = 7 then nI lo else if j = 6 then nI n else w.1 3 j), q_r (q_r w.2.1 16 x) 17 (q_rd lo n (q_ab x (w.2.1 17) n)), w.2.2)) ⟨fun o ho => ?_, fun a g1 g2 => ?_, fun _ _ => rfl⟩ a3) b3
    · dsimp only; rw [q_r_n ho, q_r_n ho, q_r_n ho]
    · dsimp only; rw [q_r_n g2, q_r_n g1]
