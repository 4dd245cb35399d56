/-! THE REFERENCE: FILTERED, HARD, SOFT -/
/-- a number of the row is far from the ends of the longs -/
def q_sz (v : Int64) : Prop := -(2 ^ 60) < v.toInt ∧ v.toInt < 2 ^ 60
def q_bd (n : Nat) (x : Nat → Int64) : Prop := ∀ j, j < n → q_sz (x j)
theorem q_addI {a b : Int64} (h1 : -(2 ^ 63) ≤ a.toInt + b.toInt) (h2 : a.toInt + b.toInt < 2 ^ 63) : (a + b).toInt = a.toInt + b.toInt := by
  rw [Int64.toInt_add, q_bm h1 h2]
theorem q_subI {a b : Int64} (h1 : -(2 ^ 63) ≤ a.toInt - b.toInt) (h2 : a.toInt - b.toInt < 2 ^ 63) : (a - b).toInt = a.toInt - b.toInt := by
  rw [Int64.toInt_sub, q_bm h1 h2]
theorem q_mulI {a b : Int64} (h1 : -(2 ^ 63) ≤ a.toInt * b.toInt) (h2 : a.toInt * b.toInt < 2 ^ 63) : (a * b).toInt = a.toInt * b.toInt := by
  rw [Int64.toInt_mul, q_bm h1 h2]
theorem q_negI {a : Int64} (h1 : -(2 ^ 63) < a.toInt) : (-a).toInt = -a.toInt := by
  have h2 := Int64.toInt_lt a
  rw [Int64.toInt_neg, q_bm (by omega) (by omega)]
theorem q_sz_nm {v : Int64} (h : q_sz v) : q_nm v := by
  intro hz
  have h0 : (0 : Int64).toInt = 0 := rfl
  have hlt := Int64.lt_iff_toInt_lt.mp hz
  rw [h0] at hlt
  unfold p_abs at hlt
  by_cases hv : 0 < v
  · rw [if_pos hv] at hlt
    have := Int64.lt_iff_toInt_lt.mp hv
    rw [h0] at this; omega
  · rw [if_neg hv, q_negI (by have := h.1; omega)] at hlt
    have h3 : v.toInt ≤ 0 := by
      have := Int64.le_iff_toInt_le.mp (Int64.not_lt.mp hv)
      rw [h0] at this; exact this
    omega
theorem q_bd.ns {n : Nat} {x : Nat → Int64} (h : q_bd n x) : q_ns n x := fun j hj => q_sz_nm (h j hj)
theorem q_ft_eq {a b c : Int64} (ha : q_sz a) (hb : q_sz b) (hc : q_sz c) : q_sh (lN 2 * b - a - c + lN 1) 1 = -(q_sh (a + c - lN 2 * b) 1) := by
  have h2 : (lN 2).toInt = 2 := rfl
  have h1 : (lN 1).toInt = 1 := rfl
  obtain ⟨a1, a2⟩ := ha; obtain ⟨b1, b2⟩ := hb; obtain ⟨c1, c2⟩ := hc
  have e1 : (lN 2 * b).toInt = 2 * b.toInt := by rw [q_mulI (by rw [h2]; omega) (by rw [h2]; omega), h2]
  have e2 : (lN 2 * b - a).toInt = 2 * b.toInt - a.toInt := by rw [q_subI (by rw [e1]; omega) (by rw [e1]; omega), e1]
  have e3 : (lN 2 * b - a - c).toInt = 2 * b.toInt - a.toInt - c.toInt := by rw [q_subI (by rw [e2]; omega) (by rw [e2]; omega), e2]
  have e4 : (lN 2 * b - a - c + lN 1).toInt = 2 * b.toInt - a.toInt - c.toInt + 1 := by rw [q_addI (by rw [e3, h1]; omega) (by rw [e3, h1]; omega), e3, h1]
  have e5 : (a + c).toInt = a.toInt + c.toInt := q_addI (by omega) (by omega)
  have e6 : (a + c - lN 2 * b).toInt = a.toInt + c.toInt - 2 * b.toInt := by rw [q_subI (by rw [e5, e1]; omega) (by rw [e5, e1]; omega), e5, e1]
  apply Int64.toInt_inj.mp
  have e7 : (q_sh (a + c - lN 2 * b) 1).toInt = (a.toInt + c.toInt - 2 * b.toInt) / 2 := by rw [q_shI (by omega), e6]; rfl
  rw [q_shI (by omega), e4, q_negI (by rw [e7]; omega), e7]
  show (2 * b.toInt - a.toInt - c.toInt + 1) / 2 = _
  omega
theorem q_wd_even : ∀ n, (n = 4 ∨ n = 8 ∨ n = 16 ∨ n = 32) → ∀ k, k < 16 → 1 ≤ q_wd n k / 2 → 2 * (q_wd n k / 2) = q_wd n k := by
  have key : ∀ n : Fin 4, ∀ k : Fin 16, q_wd (4 * 2 ^ n.val) k.val / 2 = 0 ∨ 2 * (q_wd (4 * 2 ^ n.val) k.val / 2) = q_wd (4 * 2 ^ n.val) k.val := by decide +kernel
  intro n hn k hk h1
  obtain ⟨m, rfl⟩ := q_nfin hn
  rcases key m ⟨k, hk⟩ with z | z
  · exact absurd z (by dsimp only; omega)
  · exact z
section Mf
variable {n wv : Nat} {sp : Nat → Bool} {x : Nat → Int64} {w : pW}
theorem q_mFilt_x (h : q_R n wv sp x w) {a b : Int32} (hx : ¬ q_ex sp (q_nt a) = true) : q_ZTl w n wv sp x (p_ev none 133 0 [.ref 24, .int a, .int b, p_U, p_U, p_U] [] w) 1 := by
  have hh := q_mHas (w := q_th (nI 0) w) h.th.2.2.1 h.2.1 a
  rw [Bool.eq_false_iff.mpr hx, Bool.toNat_false] at hh
  refine q_ZTl0 h ?_
  (conv => lhs; simp (disch := first | assumption | omega | (rw [nI_leI] <;> omega) | (rw [nI_ltI] <;> omega) | (rw [nI_eq] <;> omega) | (apply q_out <;> omega) | (apply q_nb; omega) | (apply q_n0 <;> omega)) only [M133, ↓q_th_r, q_th_2, hh, q_mFails, q_th_th, ↓if_pos, ↓if_neg, nI_add, q_sub, q_cl, p_bnd_s, p_bnd_v])
theorem q_mFilt_s (h : q_R n wv sp x w) {k : Nat} {b : Int32} (h2 : k < 16) (hx : q_ex sp k = true) (hs : sp k = true) : q_ZTl w n wv sp x (p_ev none 133 0 [.ref 24, .int (nI k), .int b, p_U, p_U, p_U] [] w) 2 := by
  have hh := q_mHas (w := q_th (nI 0) w) h.th.2.2.1 h.2.1 (nI k)
  rw [q_nt_n h2, hx, Bool.toNat_true] at hh
  have e1 : ¬ nI 1 = nI 0 := by decide
  have hk := h.2.2.1 k h2
  have hz : ¬ nI (q_kd sp k) = nI 1 := fun z => by have := ((q_kd_1 h.2.1).mp z).2; rw [hs] at this; exact Bool.false_ne_true this.symm
  refine q_ZTl0 h ?_
  (conv => lhs; simp (disch := first | assumption | omega | (rw [nI_leI] <;> omega) | (rw [nI_ltI] <;> omega) | (rw [nI_eq] <;> omega) | (apply q_out <;> omega) | (apply q_nb; omega) | (apply q_n0 <;> omega)) only [M133, ↓q_th_r, q_th_2, hh, hk, q_mFails, q_th_th, ↓if_pos, ↓if_neg, nI_add, q_sub, q_cl, p_bnd_s, p_bnd_v])
theorem q_in_pt2 {m : Nat} (hm : m < 2 ^ 31) (v : Int32) : (nI 0 ≤ v ∧ v ≤ nI m - nI 1) ↔ q_pt m v < m := by
  rcases Nat.eq_zero_or_pos m with h0 | h0
  · subst h0
    refine ⟨fun z => ?_, fun z => absurd z (Nat.not_lt_zero _)⟩
    exfalso
    have : nI 0 - nI 1 < nI 0 := by decide
    exact absurd (Int32.lt_of_le_of_lt (Int32.le_trans z.1 z.2) this) (Int32.lt_irrefl)
  · rw [q_sub h0]; exact q_in_pt h0 hm v
theorem q_mFilt_p (h : q_R n wv sp x w) {k : Nat} {b : Int32} (h2 : k < 16) (hx : q_ex sp k = true) (hs : sp k = false) (hb : ¬ q_pt (q_wd n k / 2) b < q_wd n k / 2) : q_ZTl w n wv sp x (p_ev none 133 0 [.ref 24, .int (nI k), .int b, p_U, p_U, p_U] [] w) 1 := by
  have hh := q_mHas (w := q_th (nI 0) w) h.th.2.2.1 h.2.1 (nI k)
  rw [q_nt_n h2, hx, Bool.toNat_true] at hh
  have e1 : ¬ nI 1 = nI 0 := by decide
  have e2 : ¬ ¬ nI 0 = nI 0 := by decide
  have hw := q_wdle n k
  have hn := h.2.1.n32
  have hk := h.2.2.1 k h2
  have hz : nI (q_kd sp k) = nI 1 := (q_kd_1 h.2.1).mpr ⟨hx, hs⟩
  have hz2 : ¬ ¬ nI (q_kd sp k) = nI 1 := fun z => z hz
  have hd := decide_eq_false (fun z => hb ((q_in_pt2 (m := q_wd n k / 2) (by omega) b).mp z))
  refine q_ZTl0 h ?_
  (conv => lhs; simp (disch := first | assumption | omega | (rw [nI_leI] <;> omega) | (rw [nI_ltI] <;> omega) | (rw [nI_eq] <;> omega) | (apply q_out <;> omega) | (apply q_n0 <;> omega)) only [M133, ↓q_th_r, q_th_2, hh, hk, q_sizeAt (h.th (k := nI 0)).1, q_div, q_mIn, hd, Bool.toNat_false, q_mFails, q_th_th, ↓if_pos, ↓if_neg, nI_add, q_cl, p_bnd_s, p_bnd_v])
theorem q_mFilt_w (h : q_R n 2 sp x w) {k : Nat} {b : Int32} (h2 : k < 16) (hx : q_ex sp k = true) (hs : sp k = false) (hb : q_pt (q_wd n k / 2) b < q_wd n k / 2) : q_ZTl w n 2 sp x (p_ev none 133 0 [.ref 24, .int (nI k), .int b, p_U, p_U, p_U] [] w) 2 := by
  have hh := q_mHas (w := q_th (nI 0) w) h.th.2.2.1 h.2.1 (nI k)
  rw [q_nt_n h2, hx, Bool.toNat_true] at hh
  have e1 : ¬ nI 1 = nI 0 := by decide
  have e2 : ¬ ¬ nI 2 = nI 2 := by decide
  have hw := q_wdle n k
  have hn := h.2.1.n32
  have hk := h.2.2.1 k h2
  have hv := (h.th (k := nI 0)).1.2.1
  have hz : nI (q_kd sp k) = nI 1 := (q_kd_1 h.2.1).mpr ⟨hx, hs⟩
  have hz2 : ¬ ¬ nI (q_kd sp k) = nI 1 := fun z => z hz
  have hd := decide_eq_true ((q_in_pt2 (m := q_wd n k / 2) (by omega) b).mpr hb)
  refine q_ZTl0 h ?_
  (conv => lhs; simp (disch := first | assumption | omega | (rw [nI_leI] <;> omega) | (rw [nI_ltI] <;> omega) | (rw [nI_eq] <;> omega) | (apply q_out <;> omega) | (apply q_n0 <;> omega)) only [M133, ↓q_th_r, q_th_2, hh, hk, hv, q_sizeAt (h.th (k := nI 0)).1, q_div, q_mIn, hd, Bool.toNat_true, q_mFails, q_th_th, ↓if_pos, ↓if_neg, nI_add, q_cl, p_bnd_s, p_bnd_v])
theorem q_mFilt (h : q_R n wv sp x w) (hbd : q_bd n x) {k j : Nat} (h1 : 1 ≤ k) (h2 : k < 16) (hx : q_ex sp k = true) (hs : sp k = false) (hj : j < q_wd n k / 2) (hv : wv < 2) : q_ZM w n wv sp x (p_ev none 133 0 [.ref 24, .int (nI k), .int (nI j), p_U, p_U, p_U] [] w) (.long (q_ft wv x (q_so n k + 2 * j) (q_wd n k / 2) j)) 0 := by
  have hh := q_mHas (w := q_th (nI 0) w) h.th.2.2.1 h.2.1 (nI k)
  rw [q_nt_n h2, hx, Bool.toNat_true] at hh
  have e1 : ¬ nI 1 = nI 0 := by decide
  have hw := q_wdle n k
  have hn := h.2.1.n32
  have hk := h.2.2.1 k h2
  have hwv := (h.th (k := nI 0)).1.2.1
  have hz : nI (q_kd sp k) = nI 1 := (q_kd_1 h.2.1).mpr ⟨hx, hs⟩
  have hz2 : ¬ ¬ nI (q_kd sp k) = nI 1 := fun z => z hz
  have hb : q_pt (q_wd n k / 2) (nI j) < q_wd n k / 2 := by rw [q_pt_n hj (by omega)]; exact hj
  have hd := decide_eq_true ((q_in_pt2 (m := q_wd n k / 2) (by omega) (nI j)).mpr hb)
  have hev := q_wd_even n h.2.1.1 k h2 (by omega)
  have hg := q_geo0 k h1 h2 n h.2.1.1
  have r0 := h.2.2.2 k h2 hx hs (2 * j) (by omega)
  have r1 := h.2.2.2 k h2 hx hs (2 * j + 1) (by omega)
  have a0 : w.2.1 26 (32 * k + 2 * j) = x (q_so n k + 2 * j) := r0
  have a1 : w.2.1 26 (32 * k + 2 * j + 1) = x (q_so n k + 2 * j + 1) := r1
  refine q_ZM0 h ?_
  have hv0 : wv = 0 ∨ wv = 1 := by omega
  unfold q_ft
  have hne2 : ¬ nI wv = nI 2 := by rw [nI_eq (by omega) (by omega)]; omega
  have hnx : ∀ y : Int64, y = -(q_fl y (lN 2)) → y = -(q_sh y 1) := fun y hy => by rw [q_fl2] at hy; exact hy
  by_cases hl : j + 1 < q_wd n k / 2
  · have r2 := h.2.2.2 k h2 hx hs (2 * j + 2) (by omega)
    have a2 : w.2.1 26 (32 * k + 2 * j + 2) = x (q_so n k + 2 * j + 2) := r2
    have hc : ¬ nI (q_wd n k) ≤ nI (2 * j + 2) := by rw [nI_leI (by omega) (by omega)]; omega
    rw [if_pos hl]
    rcases hv0 with hv0 | hv0
    · subst hv0
      have e0 : ¬ ¬ nI 0 = nI 0 := by decide
      (conv => lhs; simp (disch := first | assumption | omega | (rw [nI_leI] <;> omega) | (rw [nI_ltI] <;> omega) | (rw [nI_eq] <;> omega) | (apply q_out <;> omega) | (apply q_n0 <;> omega)) only [M133, ↓q_th_r, q_th_2, hh, hk, hwv, q_sizeAt (h.th (k := nI 0)).1, q_div, q_mIn, hd, Bool.toNat_true, pk_mul, a0, a1, a2, ↓if_pos, ↓if_neg, nI_add, q_cl, p_bnd_s, p_bnd_v])
      rw [if_pos rfl]
    · subst hv0
      have e0 : ¬ nI 1 = nI 0 := by decide
      have hfl := fun y => q_floor (w := q_th (nI 0) w) (a := y) q_n2
      (conv => lhs; simp (disch := first | assumption | omega | (rw [nI_leI] <;> omega) | (rw [nI_ltI] <;> omega) | (rw [nI_eq] <;> omega) | (apply q_out <;> omega) | (apply q_n0 <;> omega)) only [M133, ↓q_th_r, q_th_2, hh, hk, hwv, q_sizeAt (h.th (k := nI 0)).1, q_div, q_mIn, hd, Bool.toNat_true, pk_mul, a0, a1, a2, hfl, q_fl2, ↓if_pos, ↓if_neg, nI_add, q_cl, p_bnd_s, p_bnd_v])
      rw [if_neg (by omega), q_ft_eq (hbd _ (by omega)) (hbd _ (by omega)) (hbd _ (by omega))]
  · have hc : nI (q_wd n k) ≤ nI (2 * j + 2) := by rw [nI_leI (by omega) (by omega)]; omega
    rw [if_neg hl]
    rcases hv0 with hv0 | hv0
    · subst hv0
      have e0 : ¬ ¬ nI 0 = nI 0 := by decide
      (conv => lhs; simp (disch := first | assumption | omega | (rw [nI_leI] <;> omega) | (rw [nI_ltI] <;> omega) | (rw [nI_eq] <;> omega) | (apply q_out <;> omega) | (apply q_n0 <;> omega)) only [M133, ↓q_th_r, q_th_2, hh, hk, hwv, q_sizeAt (h.th (k := nI 0)).1, q_div, q_mIn, hd, Bool.toNat_true, pk_mul, a0, a1, ↓if_pos, ↓if_neg, nI_add, q_cl, p_bnd_s, p_bnd_v])
      rw [if_pos rfl]
    · subst hv0
      have e0 : ¬ nI 1 = nI 0 := by decide
      have hfl := fun y => q_floor (w := q_th (nI 0) w) (a := y) q_n2
      (conv => lhs; simp (disch := first | assumption | omega | (rw [nI_leI] <;> omega) | (rw [nI_ltI] <;> omega) | (rw [nI_eq] <;> omega) | (apply q_out <;> omega) | (apply q_n0 <;> omega)) only [M133, ↓q_th_r, q_th_2, hh, hk, hwv, q_sizeAt (h.th (k := nI 0)).1, q_div, q_mIn, hd, Bool.toNat_true, pk_mul, a0, a1, hfl, q_fl2, ↓if_pos, ↓if_neg, nI_add, q_cl, p_bnd_s, p_bnd_v])
      rw [if_neg (by omega), q_ft_eq (hbd _ (by omega)) (hbd _ (by omega)) (hbd _ (by omega))]
end Mf
