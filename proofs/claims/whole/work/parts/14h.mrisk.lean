/-! THE REFERENCE: RISKS, THRESHOLDS, FILTERED -/
section Mr
variable {n wv : Nat} {sp : Nat → Bool} {x : Nat → Int64} {w : pW}
theorem q_ra_step {V T R v : Int64} {b : Int64} (hV : V = b * b) : q_r1 V T R v = if p_abs v ≤ T then R + (p_abs v * p_abs v - lN 2 * b * b) else R + T * T := by
  unfold q_r1 p_min
  by_cases h : p_abs v ≤ T
  · rw [if_pos h, if_pos h, if_neg (Int64.not_lt.mpr h), hV, Int64.mul_assoc]
    rw [Int64.sub_eq_add_neg, Int64.sub_eq_add_neg, Int64.add_assoc]
  · rw [if_neg h, if_neg h, if_pos (Int64.not_le.mp h)]
theorem q_mRisk_l (h : q_R n wv sp x w) {k : Nat} (hx : q_ex sp k = true) (hs : sp k = false) {b T R : Int64} : ∀ (d i : Nat) (z9 : Value), i + d = q_wd n k → p_ev none 137 15 [.ref 24, .int (nI k), .long b, p_U, .long T, p_U, .long (q_ra x (q_so n k) (b * b) T R i), p_U, .int (nI i), z9, p_U] [] w = some (.inl (some (.long (q_ra x (q_so n k) (b * b) T R (q_wd n k)))), w, 0) := by
  have hb := q_ex_b hx
  have hw := q_wdle n k
  have hn := h.2.1.n32
  intro d
  induction d with
  | zero =>
    intro i z9 hi
    have e : i = q_wd n k := by omega
    subst e
    rw [H137_15]
    (conv => lhs; simp (disch := first | assumption | omega | (rw [nI_leI] <;> omega) | (rw [nI_ltI] <;> omega) | (rw [nI_eq] <;> omega) | (apply q_out <;> omega) | (apply q_nb; omega) | (apply q_n0 <;> omega)) only [M137, q_sizeAt h.1, ↓if_pos, ↓if_neg, nI_add, q_sub, q_cl, p_bnd_s, p_bnd_v])
  | succ d ih =>
    intro i z9 hi
    have hr := h.2.2.2 k hb.2 hx hs i (by omega)
    have i1 := ih (i + 1) (.long (p_abs (x (q_so n k + i)))) (by omega)
    rw [q_ra, q_ra_step rfl] at i1
    rw [H137_15]
    by_cases hm : p_abs (x (q_so n k + i)) ≤ T
    · have hm' : ¬ nI 0 < lg_cmp (p_abs (x (q_so n k + i))) T := fun z => absurd (q_cmpT.mp z) (Int64.not_lt.mpr hm)
      rw [if_pos hm] at i1
      (conv => lhs; simp (disch := first | assumption | omega | (rw [nI_leI] <;> omega) | (rw [nI_ltI] <;> omega) | (rw [nI_eq] <;> omega) | (apply q_out <;> omega) | (apply q_nb; omega) | (apply q_n0 <;> omega)) only [M137, q_sizeAt h.1, pk_mul, hr, q_mSize, ↓if_pos, ↓if_neg, nI_add, q_sub, q_cl, p_bnd_s, p_bnd_v])
      exact i1
    · have hm' : nI 0 < lg_cmp (p_abs (x (q_so n k + i))) T := q_cmpT.mpr (Int64.not_le.mp hm)
      rw [if_neg hm] at i1
      (conv => lhs; simp (disch := first | assumption | omega | (rw [nI_leI] <;> omega) | (rw [nI_ltI] <;> omega) | (rw [nI_eq] <;> omega) | (apply q_out <;> omega) | (apply q_nb; omega) | (apply q_n0 <;> omega)) only [M137, q_sizeAt h.1, pk_mul, hr, q_mSize, ↓if_pos, ↓if_neg, nI_add, q_sub, q_cl, p_bnd_s, p_bnd_v])
      exact i1
theorem q_mRiskAt (h : q_R n wv sp x w) {k : Nat} (hx : q_ex sp k = true) (hs : sp k = false) {b : Int32} {T : Int64} : p_ev none 137 0 [.ref 24, .int (nI k), .long b.toInt64, p_U, .long T, p_U, p_U, p_U, p_U, p_U, p_U] [] w = some (.inl (some (.long (q_rk x (q_so n k) (q_wd n k) b T))), w, 0) := by
  have hb := q_ex_b hx
  have hw := q_wdle n k
  have hn := h.2.1.n32
  have hl := q_mRisk_l h hx hs (b := b.toInt64) (T := T) (R := lN (q_wd n k) * (b.toInt64 * b.toInt64)) (q_wd n k) 0 p_U (by omega)
  have e : (nI (q_wd n k)).toInt64 = lN (q_wd n k) := nI_l (by omega)
  (conv => lhs; simp (disch := first | assumption | omega | (rw [nI_leI] <;> omega) | (rw [nI_ltI] <;> omega) | (rw [nI_eq] <;> omega) | (apply q_out <;> omega) | (apply q_nb; omega) | (apply q_n0 <;> omega)) only [M137, q_sizeAt h.1, e, Int64.mul_assoc, ↓if_pos, ↓if_neg, nI_add, q_sub, q_cl, p_bnd_s, p_bnd_v])
  exact hl
theorem q_mIsLeafAt (h : q_R n wv sp x w) {k : Nat} (hx : q_ex sp k = true) : p_ev none 129 0 [.ref 24, .int (nI k)] [] w = some (.inl (some (.int (nI (!(sp k)).toNat))), w, 0) := by
  have hb := q_ex_b hx
  have hh := q_mHas h.2.2.1 h.2.1 (nI k)
  rw [q_nt_n hb.2, hx, Bool.toNat_true] at hh
  have e1 : ¬ nI 1 = nI 0 := by decide
  have hk := h.2.2.1 k hb.2
  cases hs : sp k
  · have hz : nI (q_kd sp k) = nI 1 := (q_kd_1 h.2.1).mpr ⟨hx, hs⟩
    have hz2 : ¬ ¬ nI (q_kd sp k) = nI 1 := fun z => z hz
    (conv => lhs; simp (disch := first | assumption | omega | (rw [nI_leI] <;> omega) | (rw [nI_ltI] <;> omega) | (rw [nI_eq] <;> omega) | (apply q_out <;> omega) | (apply q_nb; omega) | (apply q_n0 <;> omega)) only [M129, hh, hk, ↓if_pos, ↓if_neg, nI_add, q_sub, q_cl, p_bnd_s, p_bnd_v]); rfl
  · have hz : ¬ nI (q_kd sp k) = nI 1 := fun z => by have := ((q_kd_1 h.2.1).mp z).2; rw [hs] at this; exact Bool.false_ne_true this.symm
    (conv => lhs; simp (disch := first | assumption | omega | (rw [nI_leI] <;> omega) | (rw [nI_ltI] <;> omega) | (rw [nI_eq] <;> omega) | (apply q_out <;> omega) | (apply q_nb; omega) | (apply q_n0 <;> omega)) only [M129, hh, hk, ↓if_pos, ↓if_neg, nI_add, q_sub, q_cl, p_bnd_s, p_bnd_v]); rfl
theorem q_mRisk_x (h : q_R n wv sp x w) {a b c : Int32} (hx : ¬ q_ex sp (q_nt a) = true) : q_ZTl w n wv sp x (p_ev none 138 0 [.ref 24, .int a, .int b, .int c] [] w) 1 := by
  have hh := q_mHas (w := q_th (nI 0) w) h.th.2.2.1 h.2.1 a
  rw [Bool.eq_false_iff.mpr hx, Bool.toNat_false] at hh
  refine q_ZTl0 h ?_
  (conv => lhs; simp (disch := first | assumption | omega | (rw [nI_leI] <;> omega) | (rw [nI_ltI] <;> omega) | (rw [nI_eq] <;> omega) | (apply q_out <;> omega) | (apply q_nb; omega) | (apply q_n0 <;> omega)) only [M138, ↓q_th_r, q_th_2, hh, q_mFails, q_th_th, ↓if_pos, ↓if_neg, nI_add, q_sub, q_cl, p_bnd_s, p_bnd_v])
theorem q_mRisk_n (h : q_R n wv sp x w) {a b c : Int32} (hx : q_ex sp (q_nt a) = true) (hb : ¬ (nI 0 ≤ b ∧ b ≤ nI 1000)) : q_ZTl w n wv sp x (p_ev none 138 0 [.ref 24, .int a, .int b, .int c] [] w) 2 := by
  have hh := q_mHas (w := q_th (nI 0) w) h.th.2.2.1 h.2.1 a
  rw [hx, Bool.toNat_true] at hh
  have e1 : ¬ nI 1 = nI 0 := by decide
  have hd := decide_eq_false hb
  refine q_ZTl0 h ?_
  (conv => lhs; simp (disch := first | assumption | omega | (rw [nI_leI] <;> omega) | (rw [nI_ltI] <;> omega) | (rw [nI_eq] <;> omega) | (apply q_out <;> omega) | (apply q_nb; omega) | (apply q_n0 <;> omega)) only [M138, ↓q_th_r, q_th_2, hh, q_mIn, hd, Bool.toNat_false, q_mFails, q_th_th, ↓if_pos, ↓if_neg, nI_add, q_sub, q_cl, p_bnd_s, p_bnd_v])
theorem q_mRisk_t (h : q_R n wv sp x w) {a b c : Int32} (hx : q_ex sp (q_nt a) = true) (hb : nI 0 ≤ b ∧ b ≤ nI 1000) (hc : ¬ (nI 0 ≤ c ∧ c ≤ nI 100000)) : q_ZTl w n wv sp x (p_ev none 138 0 [.ref 24, .int a, .int b, .int c] [] w) 2 := by
  have hh := q_mHas (w := q_th (nI 0) w) h.th.2.2.1 h.2.1 a
  rw [hx, Bool.toNat_true] at hh
  have e1 : ¬ nI 1 = nI 0 := by decide
  have e2 : ¬ ¬ nI 0 = nI 0 := by decide
  have hd := decide_eq_true hb
  have hdc := decide_eq_false hc
  refine q_ZTl0 h ?_
  (conv => lhs; simp (disch := first | assumption | omega | (rw [nI_leI] <;> omega) | (rw [nI_ltI] <;> omega) | (rw [nI_eq] <;> omega) | (apply q_out <;> omega) | (apply q_nb; omega) | (apply q_n0 <;> omega)) only [M138, ↓q_th_r, q_th_2, hh, q_mIn, hd, hdc, Bool.toNat_true, Bool.toNat_false, q_mFails, q_th_th, ↓if_pos, ↓if_neg, nI_add, q_sub, q_cl, p_bnd_s, p_bnd_v])
theorem q_mRisk_s (h : q_R n wv sp x w) {k : Nat} {b c : Int32} (h2 : k < 16) (hx : q_ex sp k = true) (hb : nI 0 ≤ b ∧ b ≤ nI 1000) (hc : nI 0 ≤ c ∧ c ≤ nI 100000) (hs : sp k = true) : q_ZTl w n wv sp x (p_ev none 138 0 [.ref 24, .int (nI k), .int b, .int c] [] w) 3 := by
  have hh := q_mHas (w := q_th (nI 0) w) h.th.2.2.1 h.2.1 (nI k)
  rw [q_nt_n h2, hx, Bool.toNat_true] at hh
  have hL := q_mIsLeafAt (h.th (k := nI 0)) hx
  rw [hs] at hL
  have e1 : ¬ nI 1 = nI 0 := by decide
  have e3 : (!true).toNat = 0 := rfl
  rw [e3] at hL
  have hd := decide_eq_true hb
  have hdc := decide_eq_true hc
  refine q_ZTl0 h ?_
  (conv => lhs; simp (disch := first | assumption | omega | (rw [nI_leI] <;> omega) | (rw [nI_ltI] <;> omega) | (rw [nI_eq] <;> omega) | (apply q_out <;> omega) | (apply q_nb; omega) | (apply q_n0 <;> omega)) only [M138, ↓q_th_r, q_th_2, hh, q_mIn, hd, hdc, Bool.toNat_true, hL, q_mFails, q_th_th, ↓if_pos, ↓if_neg, nI_add, q_sub, q_cl, p_bnd_s, p_bnd_v])
theorem q_mRisk (h : q_R n wv sp x w) {k t : Nat} {b : Int32} (h1 : 1 ≤ k) (h2 : k < 16) (hx : q_ex sp k = true) (hs : sp k = false) (hb : nI 0 ≤ b ∧ b ≤ nI 1000) (ht : t ≤ 100000) : q_ZM w n wv sp x (p_ev none 138 0 [.ref 24, .int (nI k), .int b, .int (nI t)] [] w) (.long (q_rk x (q_so n k) (q_wd n k) b (lN t))) 0 := by
  have hh := q_mHas (w := q_th (nI 0) w) h.th.2.2.1 h.2.1 (nI k)
  rw [q_nt_n h2, hx, Bool.toNat_true] at hh
  have hL := q_mIsLeafAt (h.th (k := nI 0)) hx
  rw [hs] at hL
  have e1 : ¬ nI 1 = nI 0 := by decide
  have e3 : (!false).toNat = 1 := rfl
  rw [e3] at hL
  have hd := decide_eq_true hb
  have hdc : decide (nI 0 ≤ nI t ∧ nI t ≤ nI 100000) = true := decide_eq_true ((q_inN (by omega) (by omega) (by omega)).mpr ⟨by omega, ht⟩)
  have et : (nI t).toInt64 = lN t := nI_l (by omega)
  refine q_ZM0 h ?_
  (conv => lhs; simp (disch := first | assumption | omega | (rw [nI_leI] <;> omega) | (rw [nI_ltI] <;> omega) | (rw [nI_eq] <;> omega) | (apply q_out <;> omega) | (apply q_nb; omega) | (apply q_n0 <;> omega)) only [M138, ↓q_th_r, q_th_2, hh, q_mIn, hd, hdc, Bool.toNat_true, hL, et, q_mRiskAt (h.th (k := nI 0)), ↓if_pos, ↓if_neg, nI_add, q_sub, q_cl, p_bnd_s, p_bnd_v])
theorem q_mBest_l (h : q_R n wv sp x w) {k : Nat} {b : Int32} (hx : q_ex sp k = true) (hs : sp k = false) : ∀ (d i : Nat) (z8 z10 : Value), i + d = q_wd n k → p_ev none 139 70 [.ref 24, .int (nI k), .int b, .long (q_bt x (q_so n k) (q_wd n k) b i).1, p_U, .long (q_bt x (q_so n k) (q_wd n k) b i).2, p_U, .int (nI i), z8, p_U, z10, p_U] [] w = some (.inl (some (.long (q_bt x (q_so n k) (q_wd n k) b (q_wd n k)).1)), w, 0) := by
  have hb := q_ex_b hx
  have hw := q_wdle n k
  have hn := h.2.1.n32
  intro d
  induction d with
  | zero =>
    intro i z8 z10 hi
    have e : i = q_wd n k := by omega
    rw [e, H139_70]
    (conv => lhs; simp (disch := first | assumption | omega | (rw [nI_leI] <;> omega) | (rw [nI_ltI] <;> omega) | (rw [nI_eq] <;> omega) | (apply q_out <;> omega) | (apply q_nb; omega) | (apply q_n0 <;> omega)) only [M139, q_sizeAt h.1, ↓if_pos, ↓if_neg, nI_add, q_sub, q_cl, p_bnd_s, p_bnd_v])
  | succ d ih =>
    intro i z8 z10 hi
    have e11 := h.2.2.2 k hb.2 hx hs i (by omega)
    have hX : q_bt x (q_so n k) (q_wd n k) b (i + 1) = q_bt x (q_so n k) (q_wd n k) b (i + 1) := rfl
    conv at hX => rhs; rw [q_bt]
    rw [H139_70]
    by_cases hm : p_abs (x (q_so n k + i)) ≤ lN 100000
    · have hm' : ¬ nI 0 < lg_cmp (p_abs (x (q_so n k + i))) (lN 100000) := fun z => absurd (q_cmpT.mp z) (Int64.not_lt.mpr hm)
      rw [if_pos hm] at hX
      by_cases ha : q_rk x (q_so n k) (q_wd n k) b (p_abs (x (q_so n k + i))) < (q_bt x (q_so n k) (q_wd n k) b i).2
      · have ha' : lg_cmp (q_rk x (q_so n k) (q_wd n k) b (p_abs (x (q_so n k + i)))) (q_bt x (q_so n k) (q_wd n k) b i).2 < nI 0 := q_cmpL.mpr ha
        rw [if_pos (Or.inl ha)] at hX
        have i1 := ih (i + 1) (.long (p_abs (x (q_so n k + i)))) (.long (q_rk x (q_so n k) (q_wd n k) b (p_abs (x (q_so n k + i))))) (by omega)
        rw [hX] at i1
        (conv => lhs; simp (disch := first | assumption | omega | (rw [nI_leI] <;> omega) | (rw [nI_ltI] <;> omega) | (rw [nI_eq] <;> omega) | (apply q_out <;> omega) | (apply q_nb; omega) | (apply q_n0 <;> omega)) only [M139, q_sizeAt h.1, pk_mul, e11, q_mSize, q_mRiskAt h, ↓if_pos, ↓if_neg, nI_add, q_sub, q_cl, p_bnd_s, p_bnd_v])
        exact i1
      · have ha' : ¬ lg_cmp (q_rk x (q_so n k) (q_wd n k) b (p_abs (x (q_so n k + i)))) (q_bt x (q_so n k) (q_wd n k) b i).2 < nI 0 := fun z => ha (q_cmpL.mp z)
        by_cases hbb : q_rk x (q_so n k) (q_wd n k) b (p_abs (x (q_so n k + i))) = (q_bt x (q_so n k) (q_wd n k) b i).2
        · have hb' : lg_cmp (q_rk x (q_so n k) (q_wd n k) b (p_abs (x (q_so n k + i)))) (q_bt x (q_so n k) (q_wd n k) b i).2 = nI 0 := q_cmp0.mpr hbb
          have hb2 : ¬ ¬ lg_cmp (q_rk x (q_so n k) (q_wd n k) b (p_abs (x (q_so n k + i)))) (q_bt x (q_so n k) (q_wd n k) b i).2 = nI 0 := fun z => z hb'
          by_cases hc : p_abs (x (q_so n k + i)) < (q_bt x (q_so n k) (q_wd n k) b i).1
          · have hc' : ¬ nI 0 ≤ lg_cmp (p_abs (x (q_so n k + i))) (q_bt x (q_so n k) (q_wd n k) b i).1 := fun z => absurd hc (Int64.not_lt.mpr (q_cmpG.mp z))
            rw [if_pos (Or.inr ⟨hbb, hc⟩)] at hX
            have i1 := ih (i + 1) (.long (p_abs (x (q_so n k + i)))) (.long (q_rk x (q_so n k) (q_wd n k) b (p_abs (x (q_so n k + i))))) (by omega)
            rw [hX] at i1
            (conv => lhs; simp (disch := first | assumption | omega | (rw [nI_leI] <;> omega) | (rw [nI_ltI] <;> omega) | (rw [nI_eq] <;> omega) | (apply q_out <;> omega) | (apply q_nb; omega) | (apply q_n0 <;> omega)) only [M139, q_sizeAt h.1, pk_mul, e11, q_mSize, q_mRiskAt h, ↓if_pos, ↓if_neg, nI_add, q_sub, q_cl, p_bnd_s, p_bnd_v])
            exact i1
          · have hc' : nI 0 ≤ lg_cmp (p_abs (x (q_so n k + i))) (q_bt x (q_so n k) (q_wd n k) b i).1 := q_cmpG.mpr (Int64.not_lt.mp hc)
            rw [if_neg (fun z => z.elim ha (fun y => hc y.2))] at hX
            have i1 := ih (i + 1) (.long (p_abs (x (q_so n k + i)))) (.long (q_rk x (q_so n k) (q_wd n k) b (p_abs (x (q_so n k + i))))) (by omega)
            rw [hX] at i1
            (conv => lhs; simp (disch := first | assumption | omega | (rw [nI_leI] <;> omega) | (rw [nI_ltI] <;> omega) | (rw [nI_eq] <;> omega) | (apply q_out <;> omega) | (apply q_nb; omega) | (apply q_n0 <;> omega)) only [M139, q_sizeAt h.1, pk_mul, e11, q_mSize, q_mRiskAt h, ↓if_pos, ↓if_neg, nI_add, q_sub, q_cl, p_bnd_s, p_bnd_v])
            exact i1
        · have hb' : ¬ lg_cmp (q_rk x (q_so n k) (q_wd n k) b (p_abs (x (q_so n k + i)))) (q_bt x (q_so n k) (q_wd n k) b i).2 = nI 0 := fun z => hbb (q_cmp0.mp z)
          rw [if_neg (fun z => z.elim ha (fun y => hbb y.1))] at hX
          have i1 := ih (i + 1) (.long (p_abs (x (q_so n k + i)))) (.long (q_rk x (q_so n k) (q_wd n k) b (p_abs (x (q_so n k + i))))) (by omega)
          rw [hX] at i1
          (conv => lhs; simp (disch := first | assumption | omega | (rw [nI_leI] <;> omega) | (rw [nI_ltI] <;> omega) | (rw [nI_eq] <;> omega) | (apply q_out <;> omega) | (apply q_nb; omega) | (apply q_n0 <;> omega)) only [M139, q_sizeAt h.1, pk_mul, e11, q_mSize, q_mRiskAt h, ↓if_pos, ↓if_neg, nI_add, q_sub, q_cl, p_bnd_s, p_bnd_v])
          exact i1
    · have hm' : nI 0 < lg_cmp (p_abs (x (q_so n k + i))) (lN 100000) := q_cmpT.mpr (Int64.not_le.mp hm)
      rw [if_neg hm] at hX
      have i1 := ih (i + 1) (.long (p_abs (x (q_so n k + i)))) z10 (by omega)
      rw [hX] at i1
      (conv => lhs; simp (disch := first | assumption | omega | (rw [nI_leI] <;> omega) | (rw [nI_ltI] <;> omega) | (rw [nI_eq] <;> omega) | (apply q_out <;> omega) | (apply q_nb; omega) | (apply q_n0 <;> omega)) only [M139, q_sizeAt h.1, pk_mul, e11, q_mSize, ↓if_pos, ↓if_neg, nI_add, q_sub, q_cl, p_bnd_s, p_bnd_v])
      exact i1
theorem q_mBest (h : q_R n wv sp x w) {k : Nat} {b : Int32} (hx : q_ex sp k = true) (hs : sp k = false) (hb : nI 0 ≤ b ∧ b ≤ nI 1000) : q_ZM w n wv sp x (p_ev none 139 0 [.ref 24, .int (nI k), .int b, p_U, p_U, p_U, p_U, p_U, p_U, p_U, p_U, p_U] [] w) (.long (q_bt x (q_so n k) (q_wd n k) b (q_wd n k)).1) 0 := by
  have hbx := q_ex_b hx
  have hh := q_mHas (w := q_th (nI 0) w) h.th.2.2.1 h.2.1 (nI k)
  rw [q_nt_n hbx.2, hx, Bool.toNat_true] at hh
  have e1 : ¬ nI 1 = nI 0 := by decide
  have hd := decide_eq_true hb
  have hk := h.2.2.1 k hbx.2
  have hz : nI (q_kd sp k) = nI 1 := (q_kd_1 h.2.1).mpr ⟨hx, hs⟩
  refine q_ZM0 h ?_
  (conv => lhs; simp (disch := first | assumption | omega | (rw [nI_leI] <;> omega) | (rw [nI_ltI] <;> omega) | (rw [nI_eq] <;> omega) | (apply q_out <;> omega) | (apply q_nb; omega) | (apply q_n0 <;> omega)) only [M139, ↓q_th_r, q_th_2, hh, q_mIn, hd, Bool.toNat_true, hk, q_mRiskAt (h.th (k := nI 0)), ↓if_pos, ↓if_neg, nI_add, q_sub, q_cl, p_bnd_s, p_bnd_v])
  exact q_mBest_l h.th hx hs (q_wd n k) 0 _ _ (by omega)
theorem q_mBest_x (h : q_R n wv sp x w) {a b : Int32} (hx : ¬ q_ex sp (q_nt a) = true) : q_ZTl w n wv sp x (p_ev none 139 0 [.ref 24, .int a, .int b, p_U, p_U, p_U, p_U, p_U, p_U, p_U, p_U, p_U] [] w) 1 := by
  have hh := q_mHas (w := q_th (nI 0) w) h.th.2.2.1 h.2.1 a
  rw [Bool.eq_false_iff.mpr hx, Bool.toNat_false] at hh
  refine q_ZTl0 h ?_
  (conv => lhs; simp (disch := first | assumption | omega | (rw [nI_leI] <;> omega) | (rw [nI_ltI] <;> omega) | (rw [nI_eq] <;> omega) | (apply q_out <;> omega) | (apply q_nb; omega) | (apply q_n0 <;> omega)) only [M139, ↓q_th_r, q_th_2, hh, q_mFails, q_th_th, ↓if_pos, ↓if_neg, nI_add, q_sub, q_cl, p_bnd_s, p_bnd_v])
theorem q_mBest_n (h : q_R n wv sp x w) {a b : Int32} (hx : q_ex sp (q_nt a) = true) (hb : ¬ (nI 0 ≤ b ∧ b ≤ nI 1000)) : q_ZTl w n wv sp x (p_ev none 139 0 [.ref 24, .int a, .int b, p_U, p_U, p_U, p_U, p_U, p_U, p_U, p_U, p_U] [] w) 2 := by
  have hh := q_mHas (w := q_th (nI 0) w) h.th.2.2.1 h.2.1 a
  rw [hx, Bool.toNat_true] at hh
  have e1 : ¬ nI 1 = nI 0 := by decide
  have e2 : ¬ ¬ nI 0 = nI 0 := by decide
  have hd := decide_eq_false hb
  refine q_ZTl0 h ?_
  (conv => lhs; simp (disch := first | assumption | omega | (rw [nI_leI] <;> omega) | (rw [nI_ltI] <;> omega) | (rw [nI_eq] <;> omega) | (apply q_out <;> omega) | (apply q_nb; omega) | (apply q_n0 <;> omega)) only [M139, ↓q_th_r, q_th_2, hh, q_mIn, hd, Bool.toNat_false, q_mFails, q_th_th, ↓if_pos, ↓if_neg, nI_add, q_sub, q_cl, p_bnd_s, p_bnd_v])
theorem q_mBest_s (h : q_R n wv sp x w) {k : Nat} {b : Int32} (h2 : k < 16) (hx : q_ex sp k = true) (hb : nI 0 ≤ b ∧ b ≤ nI 1000) (hs : sp k = true) : q_ZTl w n wv sp x (p_ev none 139 0 [.ref 24, .int (nI k), .int b, p_U, p_U, p_U, p_U, p_U, p_U, p_U, p_U, p_U] [] w) 3 := by
  have hh := q_mHas (w := q_th (nI 0) w) h.th.2.2.1 h.2.1 (nI k)
  rw [q_nt_n h2, hx, Bool.toNat_true] at hh
  have e1 : ¬ nI 1 = nI 0 := by decide
  have hd := decide_eq_true hb
  have hk := h.2.2.1 k h2
  have hz : ¬ nI (q_kd sp k) = nI 1 := fun z => by have := ((q_kd_1 h.2.1).mp z).2; rw [hs] at this; exact Bool.false_ne_true this.symm
  refine q_ZTl0 h ?_
  (conv => lhs; simp (disch := first | assumption | omega | (rw [nI_leI] <;> omega) | (rw [nI_ltI] <;> omega) | (rw [nI_eq] <;> omega) | (apply q_out <;> omega) | (apply q_nb; omega) | (apply q_n0 <;> omega)) only [M139, ↓q_th_r, q_th_2, hh, q_mIn, hd, Bool.toNat_true, hk, q_mFails, q_th_th, ↓if_pos, ↓if_neg, nI_add, q_sub, q_cl, p_bnd_s, p_bnd_v])
end Mr
