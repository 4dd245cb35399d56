/-! THE REFERENCE: HARD AND SOFT -/
theorem q_z_hard {t : Nat} {v : Int64} : q_z t 0 v = if p_abs v ≤ lN t then lN 0 else v := by
  unfold q_z
  by_cases h : p_abs v ≤ lN t
  · rw [if_pos h, if_pos h]
  · rw [if_neg h, if_neg h]
    by_cases h2 : v < lN 0
    · rw [if_pos h2]; exact Int64.add_zero v
    · rw [if_neg h2]; exact Int64.sub_zero v
theorem q_seg_Sx {b m : Nat} {new x : Nat → Int64} {v : Int64} (h : v = new (b + m)) : (fun j => if j = b + m then v else q_seg b m new x j) = q_seg b (m + 1) new x := by
  funext j
  unfold q_seg
  by_cases e : j = b + m
  · rw [if_pos e, if_pos (by omega), h, e]
  · rw [if_neg e]
    by_cases e2 : b ≤ j ∧ j < b + m
    · rw [if_pos e2, if_pos (by omega)]
    · rw [if_neg e2, if_neg (by omega)]
theorem q_seg_rd {b m : Nat} {new x : Nat → Int64} : q_seg b m new x (b + m) = x (b + m) := by
  unfold q_seg; rw [if_neg (by omega)]
section Mu
variable {n wv : Nat} {sp : Nat → Bool} {x : Nat → Int64} {w : pW}
theorem q_RR_seg {k : Nat} {A : Nat → Int64} {f : Int64 → Int64} (hT : q_T n sp) (hx : q_ex sp k = true) (hs : sp k = false) (h : q_RR n sp A x) : q_RR n sp (q_seg (32 * k) (q_wd n k) (fun j => f (A j)) A) (q_seg (q_so n k) (q_wd n k) (fun j => f (x j)) x) := by
  intro i hi ei li j hj
  have hb := q_ex_b ei
  have hb2 := q_ex_b hx
  have hw := q_wdle n k
  have hw2 := q_wdle n i
  have hn := hT.n32
  unfold q_seg
  by_cases hik : i = k
  · subst hik
    rw [if_pos (by omega), if_pos (by omega)]
    exact congrArg f (h i hi ei li j hj)
  · have hd := q_disj hT ei hx li hs hik hb.1 hi hb2.1 hb2.2
    rw [if_neg (by omega), if_neg (by omega)]; exact h i hi ei li j hj
theorem q_mCut_l (h : q_R n wv sp x w) {k t e : Nat} {sf : Bool} (hx : q_ex sp k = true) (hs : sp k = false) (ht : t ≤ 100000) (he : e = if sf = true then t else 0) : ∀ (d i : Nat) (z6 z8 z9 : Value), i + d = q_wd n k → p_ev none 134 57 [.ref 24, .int (nI k), .int (nI t), .int (nI sf.toNat), .int (nI (q_zc t x (q_so n k) i)), .int (nI i), z6, p_U, z8, z9, p_U] [] (w.1, q_r w.2.1 26 (q_seg (32 * k) i (fun j => q_z t e (w.2.1 26 j)) (w.2.1 26)), w.2.2) = some (.inl (some (.int (nI (q_zc t x (q_so n k) (q_wd n k))))), (w.1, q_r w.2.1 26 (q_seg (32 * k) (q_wd n k) (fun j => q_z t e (w.2.1 26 j)) (w.2.1 26)), w.2.2), 0) := by
  have hb := q_ex_b hx
  have hw := q_wdle n k
  have hn := h.2.1.n32
  have hMw : ∀ g, q_Mw n wv (w.1, q_r w.2.1 26 g, w.2.2) := fun g => ⟨h.1.1, h.1.2.1, h.1.2.2.1, h.1.2.2.2⟩
  have et : (nI t).toInt64 = lN t := nI_l (by omega)
  have e1 : ¬ nI 1 = nI 0 := by decide
  intro d
  induction d with
  | zero =>
    intro i z6 z8 z9 hi
    have e : i = q_wd n k := by omega
    subst e
    rw [H134_57]
    (conv => lhs; simp (disch := first | assumption | omega | (rw [nI_leI] <;> omega) | (rw [nI_ltI] <;> omega) | (rw [nI_eq] <;> omega) | (apply q_out <;> omega) | (apply q_nb; omega) | (apply q_n0 <;> omega)) only [M134, q_sizeAt (hMw _), ↓if_pos, ↓if_neg, nI_add, q_sub, q_cl, p_bnd_s, p_bnd_v])
  | succ d ih =>
    intro i z6 z8 z9 hi
    have hr := h.2.2.2 k hb.2 hx hs i (by omega)
    have hrd : q_seg (32 * k) i (fun j => q_z t e (w.2.1 26 j)) (w.2.1 26) (32 * k + i) = x (q_so n k + i) := by rw [q_seg_rd]; exact hr
    have hS : ∀ v, v = q_z t e (x (q_so n k + i)) → q_seg (32 * k) (i + 1) (fun j => q_z t e (w.2.1 26 j)) (w.2.1 26) = fun j => if j = 32 * k + i then v else q_seg (32 * k) i (fun j => q_z t e (w.2.1 26 j)) (w.2.1 26) j := fun v hv => (q_seg_Sx (hv.trans (congrArg (q_z t e) hr.symm))).symm
    rw [H134_57]
    by_cases hv : x (q_so n k + i) < lN 0
    · have hv0 : ¬ nI 0 ≤ lg_cmp (x (q_so n k + i)) (lN 0) := fun z => absurd hv (Int64.not_lt.mpr (q_cmpG.mp z))
      have hv2 : ¬ x (q_so n k + i) = lN 0 := fun z => by rw [z] at hv; exact absurd hv (Int64.lt_irrefl)
      have hv1 : ¬ lg_cmp (x (q_so n k + i)) (lN 0) = nI 0 := fun z => hv2 (q_cmp0.mp z)
      by_cases hf : p_abs (x (q_so n k + i)) ≤ lN t
      · have hf' : ¬ nI 0 < lg_cmp (p_abs (x (q_so n k + i))) (lN t) := fun z => absurd (q_cmpT.mp z) (Int64.not_lt.mpr hf)
        have i1 := ih (i + 1) (.long (x (q_so n k + i))) (.int (nI 1)) (.long (x (q_so n k + i) + lN t)) (by omega)
        rw [hS (lN 0) (by unfold q_z; rw [if_pos hf]), q_zc, if_pos ⟨hf, hv2⟩] at i1
        (conv => lhs; simp (disch := first | assumption | omega | (rw [nI_leI] <;> omega) | (rw [nI_ltI] <;> omega) | (rw [nI_eq] <;> omega) | (apply q_out <;> omega) | (apply q_nb; omega) | (apply q_n0 <;> omega)) only [M134, q_sizeAt (hMw _), pk_mul, q_r_s, hrd, q_mSize, et, q_pu, q_r_r, ↓if_pos, ↓if_neg, nI_add, q_sub, q_cl, p_bnd_s, p_bnd_v])
        exact i1
      · have hf' : nI 0 < lg_cmp (p_abs (x (q_so n k + i))) (lN t) := q_cmpT.mpr (Int64.not_le.mp hf)
        have i1 := ih (i + 1) (.long (x (q_so n k + i))) (.int (nI 0)) (.long (x (q_so n k + i) + lN t)) (by omega)
        cases sf
        · rw [hS (x (q_so n k + i)) (by rw [he, if_neg Bool.false_ne_true, q_z_hard, if_neg hf]), q_zc, if_neg (fun z => hf z.1)] at i1
          have e0 : (false).toNat = 0 := rfl
          rw [e0] at i1
          (conv => lhs; simp (disch := first | assumption | omega | (rw [nI_leI] <;> omega) | (rw [nI_ltI] <;> omega) | (rw [nI_eq] <;> omega) | (apply q_out <;> omega) | (apply q_nb; omega) | (apply q_n0 <;> omega)) only [M134, Bool.toNat_false, q_sizeAt (hMw _), pk_mul, q_r_s, hrd, q_mSize, et, q_pu, q_r_r, ↓if_pos, ↓if_neg, nI_add, q_sub, q_cl, p_bnd_s, p_bnd_v])
          exact i1
        · rw [hS (x (q_so n k + i) + lN t) (by rw [he, if_pos rfl]; unfold q_z; rw [if_neg hf, if_pos hv]), q_zc, if_neg (fun z => hf z.1)] at i1
          have e0 : (true).toNat = 1 := rfl
          rw [e0] at i1
          (conv => lhs; simp (disch := first | assumption | omega | (rw [nI_leI] <;> omega) | (rw [nI_ltI] <;> omega) | (rw [nI_eq] <;> omega) | (apply q_out <;> omega) | (apply q_nb; omega) | (apply q_n0 <;> omega)) only [M134, Bool.toNat_true, q_sizeAt (hMw _), pk_mul, q_r_s, hrd, q_mSize, et, q_pu, q_r_r, ↓if_pos, ↓if_neg, nI_add, q_sub, q_cl, p_bnd_s, p_bnd_v])
          exact i1
    · have hv0 : nI 0 ≤ lg_cmp (x (q_so n k + i)) (lN 0) := q_cmpG.mpr (Int64.not_lt.mp hv)
      by_cases hf : p_abs (x (q_so n k + i)) ≤ lN t
      · have hf' : ¬ nI 0 < lg_cmp (p_abs (x (q_so n k + i))) (lN t) := fun z => absurd (q_cmpT.mp z) (Int64.not_lt.mpr hf)
        have i1 := ih (i + 1) (.long (x (q_so n k + i))) (.int (nI 1)) (.long (x (q_so n k + i) - lN t)) (by omega)
        rw [hS (lN 0) (by unfold q_z; rw [if_pos hf]), q_zc] at i1
        by_cases hz : x (q_so n k + i) = lN 0
        · have hz1 : lg_cmp (x (q_so n k + i)) (lN 0) = nI 0 := q_cmp0.mpr hz
          rw [if_neg (fun y => y.2 hz)] at i1
          (conv => lhs; simp (disch := first | assumption | omega | (rw [nI_leI] <;> omega) | (rw [nI_ltI] <;> omega) | (rw [nI_eq] <;> omega) | (apply q_out <;> omega) | (apply q_nb; omega) | (apply q_n0 <;> omega)) only [M134, q_sizeAt (hMw _), pk_mul, q_r_s, hrd, q_mSize, et, q_pu, q_r_r, ↓if_pos, ↓if_neg, nI_add, q_sub, q_cl, p_bnd_s, p_bnd_v])
          exact i1
        · have hz1 : ¬ lg_cmp (x (q_so n k + i)) (lN 0) = nI 0 := fun z => hz (q_cmp0.mp z)
          rw [if_pos ⟨hf, hz⟩] at i1
          (conv => lhs; simp (disch := first | assumption | omega | (rw [nI_leI] <;> omega) | (rw [nI_ltI] <;> omega) | (rw [nI_eq] <;> omega) | (apply q_out <;> omega) | (apply q_nb; omega) | (apply q_n0 <;> omega)) only [M134, q_sizeAt (hMw _), pk_mul, q_r_s, hrd, q_mSize, et, q_pu, q_r_r, ↓if_pos, ↓if_neg, nI_add, q_sub, q_cl, p_bnd_s, p_bnd_v])
          exact i1
      · have hf' : nI 0 < lg_cmp (p_abs (x (q_so n k + i))) (lN t) := q_cmpT.mpr (Int64.not_le.mp hf)
        have i1 := ih (i + 1) (.long (x (q_so n k + i))) (.int (nI 0)) (.long (x (q_so n k + i) - lN t)) (by omega)
        cases sf
        · rw [hS (x (q_so n k + i)) (by rw [he, if_neg Bool.false_ne_true, q_z_hard, if_neg hf]), q_zc, if_neg (fun z => hf z.1)] at i1
          have e0 : (false).toNat = 0 := rfl
          rw [e0] at i1
          (conv => lhs; simp (disch := first | assumption | omega | (rw [nI_leI] <;> omega) | (rw [nI_ltI] <;> omega) | (rw [nI_eq] <;> omega) | (apply q_out <;> omega) | (apply q_nb; omega) | (apply q_n0 <;> omega)) only [M134, Bool.toNat_false, q_sizeAt (hMw _), pk_mul, q_r_s, hrd, q_mSize, et, q_pu, q_r_r, ↓if_pos, ↓if_neg, nI_add, q_sub, q_cl, p_bnd_s, p_bnd_v])
          exact i1
        · rw [hS (x (q_so n k + i) - lN t) (by rw [he, if_pos rfl]; unfold q_z; rw [if_neg hf, if_neg hv]), q_zc, if_neg (fun z => hf z.1)] at i1
          have e0 : (true).toNat = 1 := rfl
          rw [e0] at i1
          (conv => lhs; simp (disch := first | assumption | omega | (rw [nI_leI] <;> omega) | (rw [nI_ltI] <;> omega) | (rw [nI_eq] <;> omega) | (apply q_out <;> omega) | (apply q_nb; omega) | (apply q_n0 <;> omega)) only [M134, Bool.toNat_true, q_sizeAt (hMw _), pk_mul, q_r_s, hrd, q_mSize, et, q_pu, q_r_r, ↓if_pos, ↓if_neg, nI_add, q_sub, q_cl, p_bnd_s, p_bnd_v])
          exact i1
theorem q_mCut (h : q_R n wv sp x w) {k t : Nat} {sf : Bool} (hx : q_ex sp k = true) (hs : sp k = false) (ht : t ≤ 100000) : p_ev none 134 0 [.ref 24, .int (nI k), .int (nI t), .int (nI sf.toNat), p_U, p_U, p_U, p_U, p_U, p_U, p_U] [] w = some (.inl (some (.int (nI (q_zc t x (q_so n k) (q_wd n k))))), ((q_th (nI 0) w).1, q_r w.2.1 26 (q_seg (32 * k) (q_wd n k) (fun j => q_z t (if sf = true then t else 0) (w.2.1 26 j)) (w.2.1 26)), w.2.2), 0) := by
  have hbx := q_ex_b hx
  have hh := q_mHas (w := q_th (nI 0) w) h.th.2.2.1 h.2.1 (nI k)
  rw [q_nt_n hbx.2, hx, Bool.toNat_true] at hh
  have e1 : ¬ nI 1 = nI 0 := by decide
  have hd : decide (nI 0 ≤ nI t ∧ nI t ≤ nI 100000) = true := decide_eq_true ((q_inN (by omega) (by omega) (by omega)).mpr ⟨by omega, ht⟩)
  have hk := h.2.2.1 k hbx.2
  have hz : nI (q_kd sp k) = nI 1 := (q_kd_1 h.2.1).mpr ⟨hx, hs⟩
  have hl := q_mCut_l (h.th (k := nI 0)) (sf := sf) hx hs ht rfl (q_wd n k) 0 p_U p_U p_U (by omega)
  have e0 : q_seg (32 * k) 0 (fun j => q_z t (if sf = true then t else 0) ((q_th (nI 0) w).2.1 26 j)) ((q_th (nI 0) w).2.1 26) = (q_th (nI 0) w).2.1 26 := by
    funext j; unfold q_seg; rw [if_neg (by omega)]
  rw [e0, q_r_id] at hl
  (conv => lhs; simp (disch := first | assumption | omega | (rw [nI_leI] <;> omega) | (rw [nI_ltI] <;> omega) | (rw [nI_eq] <;> omega) | (apply q_out <;> omega) | (apply q_nb; omega) | (apply q_n0 <;> omega)) only [M134, ↓q_th_r, q_th_2, hh, q_mIn, hd, Bool.toNat_true, hk, ↓if_pos, ↓if_neg, nI_add, q_sub, q_cl, p_bnd_s, p_bnd_v])
  exact hl
theorem q_mHard (h : q_R n wv sp x w) {k t : Nat} (h1 : 1 ≤ k) (h2 : k < 16) (hx : q_ex sp k = true) (hs : sp k = false) (ht : t ≤ 100000) : q_ZM w n wv sp (q_seg (q_so n k) (q_wd n k) (fun j => q_z t 0 (x j)) x) (p_ev none 135 0 [.ref 24, .int (nI k), .int (nI t)] [] w) (.int (nI (q_zc t x (q_so n k) (q_wd n k)))) 0 := by
  refine q_ZM26 h ?_ (q_RR_seg (f := q_z t 0) h.2.1 hx hs h.2.2.2)
  have hc := q_mCut h (sf := false) hx hs ht
  have e0 : (false).toNat = 0 := rfl
  rw [e0] at hc
  (conv => lhs; simp (disch := first | assumption | omega | (rw [nI_leI] <;> omega) | (rw [nI_ltI] <;> omega) | (rw [nI_eq] <;> omega) | (apply q_out <;> omega) | (apply q_nb; omega) | (apply q_n0 <;> omega)) only [M135, hc, ↓if_pos, ↓if_neg, nI_add, q_sub, q_cl, p_bnd_s, p_bnd_v])
  rfl
theorem q_mSoft (h : q_R n wv sp x w) {k t : Nat} (h1 : 1 ≤ k) (h2 : k < 16) (hx : q_ex sp k = true) (hs : sp k = false) (ht : t ≤ 100000) : q_ZM w n wv sp (q_seg (q_so n k) (q_wd n k) (fun j => q_z t t (x j)) x) (p_ev none 136 0 [.ref 24, .int (nI k), .int (nI t)] [] w) (.int (nI (q_zc t x (q_so n k) (q_wd n k)))) 0 := by
  refine q_ZM26 h ?_ (q_RR_seg (f := q_z t t) h.2.1 hx hs h.2.2.2)
  have hc := q_mCut h (sf := true) hx hs ht
  have e0 : (true).toNat = 1 := rfl
  rw [e0] at hc
  (conv => lhs; simp (disch := first | assumption | omega | (rw [nI_leI] <;> omega) | (rw [nI_ltI] <;> omega) | (rw [nI_eq] <;> omega) | (apply q_out <;> omega) | (apply q_nb; omega) | (apply q_n0 <;> omega)) only [M136, hc, ↓if_pos, ↓if_neg, nI_add, q_sub, q_cl, p_bnd_s, p_bnd_v])
  rfl
theorem q_mCut_x (h : q_R n wv sp x w) {a b s : Int32} (hx : ¬ q_ex sp (q_nt a) = true) : p_ev none 134 0 [.ref 24, .int a, .int b, .int s, p_U, p_U, p_U, p_U, p_U, p_U, p_U] [] w = some (.inl (some (.int (nI 0))), q_th (nI 1) w, 0) := by
  have hh := q_mHas (w := q_th (nI 0) w) h.th.2.2.1 h.2.1 a
  rw [Bool.eq_false_iff.mpr hx, Bool.toNat_false] at hh
  (conv => lhs; simp (disch := first | assumption | omega | (rw [nI_leI] <;> omega) | (rw [nI_ltI] <;> omega) | (rw [nI_eq] <;> omega) | (apply q_out <;> omega) | (apply q_nb; omega) | (apply q_n0 <;> omega)) only [M134, ↓q_th_r, q_th_2, hh, q_mFails, q_th_th, ↓if_pos, ↓if_neg, nI_add, q_sub, q_cl, p_bnd_s, p_bnd_v])
theorem q_mCut_t (h : q_R n wv sp x w) {a b s : Int32} (hx : q_ex sp (q_nt a) = true) (hb : ¬ (nI 0 ≤ b ∧ b ≤ nI 100000)) : p_ev none 134 0 [.ref 24, .int a, .int b, .int s, p_U, p_U, p_U, p_U, p_U, p_U, p_U] [] w = some (.inl (some (.int (nI 0))), q_th (nI 2) w, 0) := by
  have hh := q_mHas (w := q_th (nI 0) w) h.th.2.2.1 h.2.1 a
  rw [hx, Bool.toNat_true] at hh
  have e1 : ¬ nI 1 = nI 0 := by decide
  have e2 : ¬ ¬ nI 0 = nI 0 := by decide
  have hd := decide_eq_false hb
  (conv => lhs; simp (disch := first | assumption | omega | (rw [nI_leI] <;> omega) | (rw [nI_ltI] <;> omega) | (rw [nI_eq] <;> omega) | (apply q_out <;> omega) | (apply q_nb; omega) | (apply q_n0 <;> omega)) only [M134, ↓q_th_r, q_th_2, hh, q_mIn, hd, Bool.toNat_false, q_mFails, q_th_th, ↓if_pos, ↓if_neg, nI_add, q_sub, q_cl, p_bnd_s, p_bnd_v])
theorem q_mCut_s (h : q_R n wv sp x w) {k : Nat} {b s : Int32} (h2 : k < 16) (hx : q_ex sp k = true) (hb : nI 0 ≤ b ∧ b ≤ nI 100000) (hs : sp k = true) : p_ev none 134 0 [.ref 24, .int (nI k), .int b, .int s, p_U, p_U, p_U, p_U, p_U, p_U, p_U] [] w = some (.inl (some (.int (nI 0))), q_th (nI 3) w, 0) := by
  have hh := q_mHas (w := q_th (nI 0) w) h.th.2.2.1 h.2.1 (nI k)
  rw [q_nt_n h2, hx, Bool.toNat_true] at hh
  have e1 : ¬ nI 1 = nI 0 := by decide
  have hd := decide_eq_true hb
  have hk := h.2.2.1 k h2
  have hz : ¬ nI (q_kd sp k) = nI 1 := fun z => by have := ((q_kd_1 h.2.1).mp z).2; rw [hs] at this; exact Bool.false_ne_true this.symm
  (conv => lhs; simp (disch := first | assumption | omega | (rw [nI_leI] <;> omega) | (rw [nI_ltI] <;> omega) | (rw [nI_eq] <;> omega) | (apply q_out <;> omega) | (apply q_nb; omega) | (apply q_n0 <;> omega)) only [M134, ↓q_th_r, q_th_2, hh, q_mIn, hd, Bool.toNat_true, hk, q_mFails, q_th_th, ↓if_pos, ↓if_neg, nI_add, q_sub, q_cl, p_bnd_s, p_bnd_v])
theorem q_mHard_x (h : q_R n wv sp x w) {a b : Int32} (hx : ¬ q_ex sp (q_nt a) = true) : q_ZTi w n wv sp x (p_ev none 135 0 [.ref 24, .int a, .int b] [] w) 1 := by
  refine q_ZTi0 h ?_
  (conv => lhs; simp (disch := first | assumption | omega | (rw [nI_leI] <;> omega) | (rw [nI_ltI] <;> omega) | (rw [nI_eq] <;> omega) | (apply q_out <;> omega) | (apply q_nb; omega) | (apply q_n0 <;> omega)) only [M135, q_mCut_x h hx, ↓if_pos, ↓if_neg, nI_add, q_sub, q_cl, p_bnd_s, p_bnd_v])
theorem q_mHard_t (h : q_R n wv sp x w) {a b : Int32} (hx : q_ex sp (q_nt a) = true) (ht : ¬ (nI 0 ≤ b ∧ b ≤ nI 100000)) : q_ZTi w n wv sp x (p_ev none 135 0 [.ref 24, .int a, .int b] [] w) 2 := by
  refine q_ZTi0 h ?_
  (conv => lhs; simp (disch := first | assumption | omega | (rw [nI_leI] <;> omega) | (rw [nI_ltI] <;> omega) | (rw [nI_eq] <;> omega) | (apply q_out <;> omega) | (apply q_nb; omega) | (apply q_n0 <;> omega)) only [M135, q_mCut_t h hx ht, ↓if_pos, ↓if_neg, nI_add, q_sub, q_cl, p_bnd_s, p_bnd_v])
theorem q_mHard_s (h : q_R n wv sp x w) {k : Nat} {b : Int32} (h2 : k < 16) (hx : q_ex sp k = true) (ht : nI 0 ≤ b ∧ b ≤ nI 100000) (hs : sp k = true) : q_ZTi w n wv sp x (p_ev none 135 0 [.ref 24, .int (nI k), .int b] [] w) 3 := by
  refine q_ZTi0 h ?_
  (conv => lhs; simp (disch := first | assumption | omega | (rw [nI_leI] <;> omega) | (rw [nI_ltI] <;> omega) | (rw [nI_eq] <;> omega) | (apply q_out <;> omega) | (apply q_nb; omega) | (apply q_n0 <;> omega)) only [M135, q_mCut_s h h2 hx ht hs, ↓if_pos, ↓if_neg, nI_add, q_sub, q_cl, p_bnd_s, p_bnd_v])
theorem q_mSoft_x (h : q_R n wv sp x w) {a b : Int32} (hx : ¬ q_ex sp (q_nt a) = true) : q_ZTi w n wv sp x (p_ev none 136 0 [.ref 24, .int a, .int b] [] w) 1 := by
  refine q_ZTi0 h ?_
  (conv => lhs; simp (disch := first | assumption | omega | (rw [nI_leI] <;> omega) | (rw [nI_ltI] <;> omega) | (rw [nI_eq] <;> omega) | (apply q_out <;> omega) | (apply q_nb; omega) | (apply q_n0 <;> omega)) only [M136, q_mCut_x h hx, ↓if_pos, ↓if_neg, nI_add, q_sub, q_cl, p_bnd_s, p_bnd_v])
theorem q_mSoft_t (h : q_R n wv sp x w) {a b : Int32} (hx : q_ex sp (q_nt a) = true) (ht : ¬ (nI 0 ≤ b ∧ b ≤ nI 100000)) : q_ZTi w n wv sp x (p_ev none 136 0 [.ref 24, .int a, .int b] [] w) 2 := by
  refine q_ZTi0 h ?_
  (conv => lhs; simp (disch := first | assumption | omega | (rw [nI_leI] <;> omega) | (rw [nI_ltI] <;> omega) | (rw [nI_eq] <;> omega) | (apply q_out <;> omega) | (apply q_nb; omega) | (apply q_n0 <;> omega)) only [M136, q_mCut_t h hx ht, ↓if_pos, ↓if_neg, nI_add, q_sub, q_cl, p_bnd_s, p_bnd_v])
theorem q_mSoft_s (h : q_R n wv sp x w) {k : Nat} {b : Int32} (h2 : k < 16) (hx : q_ex sp k = true) (ht : nI 0 ≤ b ∧ b ≤ nI 100000) (hs : sp k = true) : q_ZTi w n wv sp x (p_ev none 136 0 [.ref 24, .int (nI k), .int b] [] w) 3 := by
  refine q_ZTi0 h ?_
  (conv => lhs; simp (disch := first | assumption | omega | (rw [nI_leI] <;> omega) | (rw [nI_ltI] <;> omega) | (rw [nI_eq] <;> omega) | (apply q_out <;> omega) | (apply q_nb; omega) | (apply q_n0 <;> omega)) only [M136, q_mCut_s h h2 hx ht hs, ↓if_pos, ↓if_neg, nI_add, q_sub, q_cl, p_bnd_s, p_bnd_v])
end Mu
