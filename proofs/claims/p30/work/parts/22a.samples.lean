/-! P30: A SIGNAL IS LAID -/
theorem ts_pu {f : Nat → Nat → Int32} {o k : Nat} {v : Int32} : p_u f o k v o k = v := if_pos ⟨rfl, rfl⟩
theorem ts_i64 (v : Int32) : v.toInt64.toInt = v.toInt := Int32.toInt_toInt64 v
theorem ts_rng {v : Int32} (h1 : -1000 ≤ v.toInt) (h2 : v.toInt ≤ 1000) : (-1000 : Int32) ≤ v ∧ v ≤ nI 1000 := by
  refine ⟨Int32.le_iff_toInt_le.mpr ?_, Int32.le_iff_toInt_le.mpr ?_⟩
  · exact h1
  · rw [nI_toInt (by omega)]; exact h2
section Sa
variable {n wv X Y : Nat}
theorem ts_K_23 {sp : Nat → Bool} {x : Nat → Int64} {w : pW} (h : q_K n wv sp x w) {k : Nat} {v : Int32} : q_K n wv sp x (w.1, w.2.1, p_u w.2.2 23 k v) := by
  obtain ⟨⟨c1, c2, c3, c4, c5, c6⟩, hT, hx⟩ := h
  refine ⟨⟨c1, c2, c3, c4, fun i hi => ?_, c6⟩, hT, hx⟩
  show (p_u w.2.2 23 k v) 18 i = _
  unfold p_u
  rw [if_neg (by omega)]
  exact c5 i hi
/-- one sample, once it is drawn -/
theorem ts_set1 {x : Nat → Int64} {w : pW} {p : Nat} {v x7 x8 x10 : Int32} (hK : q_K n wv (fun _ => false) x w) (hp : p < n) (h0 : x p = lN 0) (h1 : -1000 ≤ v.toInt) (h2 : v.toInt ≤ 1000) :
    ∃ w', p_ev none 99 159 [.ref 0, .int (nI X), .int (nI Y), .ref 23, .ref 24, .int (nI n), .int (nI wv), .int x7, .int x8, .int (nI p), .int x10, p_U, p_U, p_U, p_U, p_U] [.int v, .int (nI p), .ref 23] w = p_ev none 99 58 [.ref 0, .int (nI X), .int (nI Y), .ref 23, .ref 24, .int (nI n), .int (nI wv), .int x7, .int x8, .int (nI (p + 1)), .int x10, p_U, p_U, p_U, p_U, p_U] [] w' ∧ q_K n wv (fun _ => false) (fun j => if j = p then v.toInt64 else x j) w' ∧ w'.2.2 23 = p_u w.2.2 23 p v 23 := by
  have hn := hK.2.1.n32
  have K1 := ts_K_23 hK (k := p) (v := v)
  have g := q_cSetSample K1 (nI p) v
  rw [q_pt_n hp (by omega), if_pos hp, if_pos (ts_rng h1 h2), if_neg Bool.false_ne_true, h0] at g
  obtain ⟨w2, e2, K2, F2⟩ := g
  have ec : lg_cmp (lN 0) (lN 0) = nI 0 := by decide
  refine ⟨w2, ?_, K2, F2.2.2 23 (Nat.le_refl 23)⟩
  (conv => lhs; simp (disch := first | assumption | omega | (rw [nI_leI] <;> omega) | (rw [nI_ltI] <;> omega) | (rw [nI_eq] <;> omega) | (apply q_out <;> omega) | (apply q_nb; omega) | (apply q_n0 <;> omega)) only [M99_c, ts_pu, e2, ec, ↓if_pos, ↓if_neg, nI_add, q_sub, q_cl, p_bnd_s, p_bnd_v])
theorem ts_draw (a b : Int32) : ∃ D : Nat, D < 2 ^ 31 ∧ a * b &&& nI 2147483647 = nI D := by
  obtain ⟨j, h1, h2⟩ := pk_andE (a * b) (m := nI 2147483647) 31 (by decide +kernel)
  exact ⟨j, h1, h2⟩
theorem ts_set_l {x7 : Int32} {kd : Nat} (hkd : kd < 4) (hX : X < 2 ^ 31) (hY : Y < 2 ^ 31) : ∀ (d p : Nat) (x : Nat → Int64) (w : pW) (z10 : Value), p + d = n → q_K n wv (fun _ => false) x w → (∀ j, j < p → x j = (w.2.2 23 j).toInt64 ∧ ts_in 1000 (x j)) → (∀ j, p ≤ j → j < n → x j = lN 0) →
    ∃ w' x' z, p_ev none 99 58 [.ref 0, .int (nI X), .int (nI Y), .ref 23, .ref 24, .int (nI n), .int (nI wv), .int x7, .int (nI kd), .int (nI p), z10, p_U, p_U, p_U, p_U, p_U] [] w = p_ev none 99 183 [.ref 0, .int (nI X), .int (nI Y), .ref 23, .ref 24, .int (nI n), .int (nI wv), .int x7, .int (nI kd), .int (nI n), z, p_U, p_U, p_U, p_U, p_U] [] w' ∧ q_K n wv (fun _ => false) x' w' ∧ ∀ j, j < n → x' j = (w'.2.2 23 j).toInt64 ∧ ts_in 1000 (x' j) := by
  intro d
  induction d with
  | zero =>
    intro p x w z10 hp hK hd h0
    have hn := hK.2.1.n32
    obtain rfl : p = n := by omega
    refine ⟨w, x, z10, ?_, hK, hd⟩
    rw [H99_58]
    (conv => lhs; simp (disch := first | assumption | omega | (rw [nI_leI] <;> omega) | (rw [nI_ltI] <;> omega) | (rw [nI_eq] <;> omega) | (apply q_out <;> omega) | (apply q_nb; omega) | (apply q_n0 <;> omega)) only [M99_b, ↓if_pos, ↓if_neg, nI_add, q_sub, q_cl, p_bnd_s, p_bnd_v])
  | succ d ih =>
    intro p x w z10 hp hK hd h0
    have hn := hK.2.1.n32
    have hnn := hK.2.1.1
    obtain ⟨D, hD, eD⟩ := ts_draw (nI (X + 15695 * p)) (nI Y ||| nI 1)
    have main : ∀ v : Int32, -1000 ≤ v.toInt → v.toInt ≤ 1000 → ∃ w' x' z, p_ev none 99 159 [.ref 0, .int (nI X), .int (nI Y), .ref 23, .ref 24, .int (nI n), .int (nI wv), .int x7, .int (nI kd), .int (nI p), .int (nI D), p_U, p_U, p_U, p_U, p_U] [.int v, .int (nI p), .ref 23] w = p_ev none 99 183 [.ref 0, .int (nI X), .int (nI Y), .ref 23, .ref 24, .int (nI n), .int (nI wv), .int x7, .int (nI kd), .int (nI n), z, p_U, p_U, p_U, p_U, p_U] [] w' ∧ q_K n wv (fun _ => false) x' w' ∧ ∀ j, j < n → x' j = (w'.2.2 23 j).toInt64 ∧ ts_in 1000 (x' j) := by
      intro v v1 v2
      obtain ⟨w1, e1, K1, G1⟩ := ts_set1 (X := X) (Y := Y) (x7 := x7) (x8 := nI kd) (x10 := nI D) hK (show p < n by omega) (h0 p (by omega) (by omega)) v1 v2
      obtain ⟨w2, x2, z, e2, K2, H2⟩ := ih (p + 1) _ w1 (.int (nI D)) (by omega) K1 (fun j hj => by
        rw [G1]
        unfold p_u
        by_cases hjp : j = p
        · rw [if_pos hjp, if_pos ⟨rfl, hjp⟩]
          exact ⟨rfl, by unfold ts_in; rw [ts_i64]; exact ⟨v1, v2⟩⟩
        · rw [if_neg hjp, if_neg (fun z => hjp z.2)]
          exact hd j (by omega)) (fun j j1 j2 => by
        rw [if_neg (by omega)]
        exact h0 j (by omega) j2)
      exact ⟨w2, x2, z, e1.trans e2, K2, H2⟩
    have a1 := ts_at (w := w) (m := D) (k := 2001) hD (by omega) (by omega)
    have a2 := ts_at (w := w) (m := D) (k := 7) hD (by omega) (by omega)
    have a3 := pk_rem (a := 30 * p) (d := 1001) (by omega) (by omega) (by omega)
    have a4 : nI n / nI 2 = nI (n / 2) := q_div (by omega) (by omega) (by omega)
    have n10 : ¬ nI 1 = nI 0 := by decide
    have n20 : ¬ nI 2 = nI 0 := by decide
    have n30 : ¬ nI 3 = nI 0 := by decide
    have n21 : ¬ nI 2 = nI 1 := by decide
    have n31 : ¬ nI 3 = nI 1 := by decide
    have n32 : ¬ nI 3 = nI 2 := by decide
    rcases (show kd = 0 ∨ kd = 1 ∨ kd = 2 ∨ kd = 3 by omega) with rfl | rfl | rfl | rfl
    · have t := pk_sub_toInt (a := D / 2 % 2001) (b := 1000) (by omega) (by omega)
      obtain ⟨w2, x2, z, e2, r⟩ := main (nI (D / 2 % 2001) - nI 1000) (by omega) (by omega)
      refine ⟨w2, x2, z, ?_, r⟩
      rw [H99_58]
      (conv => lhs; simp (disch := first | assumption | omega | (rw [nI_leI] <;> omega) | (rw [nI_ltI] <;> omega) | (rw [nI_eq] <;> omega) | (apply q_out <;> omega) | (apply q_nb; omega) | (apply q_n0 <;> omega)) only [M99_b, pk_mul, eD, a1, ↓if_pos, ↓if_neg, nI_add, q_sub, q_cl, p_bnd_s, p_bnd_v])
      exact e2
    · have t := nI_toInt (n := 30 * p % 1001) (by omega)
      obtain ⟨w2, x2, z, e2, r⟩ := main (nI (30 * p % 1001)) (by omega) (by omega)
      refine ⟨w2, x2, z, ?_, r⟩
      rw [H99_58]
      (conv => lhs; simp (disch := first | assumption | omega | (rw [nI_leI] <;> omega) | (rw [nI_ltI] <;> omega) | (rw [nI_eq] <;> omega) | (apply q_out <;> omega) | (apply q_nb; omega) | (apply q_n0 <;> omega)) only [M99_b, pk_mul, eD, a3, ↓if_pos, ↓if_neg, nI_add, q_sub, q_cl, p_bnd_s, p_bnd_v])
      exact e2
    · have t := pk_sub_toInt (a := D / 2 % 7) (b := 3) (by omega) (by omega)
      obtain ⟨w2, x2, z, e2, r⟩ := main (nI (D / 2 % 7) - nI 3) (by omega) (by omega)
      refine ⟨w2, x2, z, ?_, r⟩
      rw [H99_58]
      (conv => lhs; simp (disch := first | assumption | omega | (rw [nI_leI] <;> omega) | (rw [nI_ltI] <;> omega) | (rw [nI_eq] <;> omega) | (apply q_out <;> omega) | (apply q_nb; omega) | (apply q_n0 <;> omega)) only [M99_b, pk_mul, eD, a2, ↓if_pos, ↓if_neg, nI_add, q_sub, q_cl, p_bnd_s, p_bnd_v])
      exact e2
    · by_cases hh : p < n / 2
      · obtain ⟨w2, x2, z, e2, r⟩ := main (-1000) (by decide) (by decide)
        refine ⟨w2, x2, z, ?_, r⟩
        rw [H99_58]
        (conv => lhs; simp (disch := first | assumption | omega | (rw [nI_leI] <;> omega) | (rw [nI_ltI] <;> omega) | (rw [nI_eq] <;> omega) | (apply q_out <;> omega) | (apply q_nb; omega) | (apply q_n0 <;> omega)) only [M99_b, pk_mul, eD, a4, ↓if_pos, ↓if_neg, nI_add, q_sub, q_cl, p_bnd_s, p_bnd_v])
        exact e2
      · obtain ⟨w2, x2, z, e2, r⟩ := main (nI 1000) (by decide) (by decide)
        refine ⟨w2, x2, z, ?_, r⟩
        rw [H99_58]
        (conv => lhs; simp (disch := first | assumption | omega | (rw [nI_leI] <;> omega) | (rw [nI_ltI] <;> omega) | (rw [nI_eq] <;> omega) | (apply q_out <;> omega) | (apply q_nb; omega) | (apply q_n0 <;> omega)) only [M99_b, pk_mul, eD, a4, ↓if_pos, ↓if_neg, nI_add, q_sub, q_cl, p_bnd_s, p_bnd_v])
        exact e2
end Sa
