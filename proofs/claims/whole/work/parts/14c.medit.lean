/-! THE REFERENCE: CALLS THAT CHANGE A NUMBER, THE WAVELET, THE LENGTH -/
section Me
variable {n wv : Nat} {sp : Nat → Bool} {x : Nat → Int64} {w : pW}
theorem q_ZM26 (h : q_R n wv sp x w) {e : Option pR} {v : Value} {g x' : Nat → Int64} (he : e = some (.inl (some v), ((q_th (nI 0) w).1, q_r w.2.1 26 g, w.2.2), 0)) (hg : q_RR n sp g x') : q_ZM w n wv sp x' e v 0 := by
  have h0 := h.th (k := nI 0)
  refine ⟨_, he, ⟨h0.1, h.2.1, h.2.2.1, ?_⟩, rfl, fun o ho => q_th_FM.1 o ho, fun o ho => q_r_n (by omega), fun o ho => rfl⟩
  dsimp only
  rw [q_r_s]
  exact hg
theorem q_mSetNumber (h : q_R n wv sp x w) (a b c : Int32) : if q_ex sp (q_nt a) = true then if sp (q_nt a) = true then q_ZTl w n wv sp x (p_ev none 132 0 [.ref 24, .int a, .int b, .int c, p_U, p_U] [] w) 2 else if q_pt (q_wd n (q_nt a)) b < q_wd n (q_nt a) then if (-100000 : Int32) ≤ c ∧ c ≤ nI 100000 then q_ZM w n wv sp (fun i => if i = q_so n (q_nt a) + q_pt (q_wd n (q_nt a)) b then c.toInt64 else x i) (p_ev none 132 0 [.ref 24, .int a, .int b, .int c, p_U, p_U] [] w) (.long (x (q_so n (q_nt a) + q_pt (q_wd n (q_nt a)) b))) 0 else q_ZTl w n wv sp x (p_ev none 132 0 [.ref 24, .int a, .int b, .int c, p_U, p_U] [] w) 3 else q_ZTl w n wv sp x (p_ev none 132 0 [.ref 24, .int a, .int b, .int c, p_U, p_U] [] w) 1 else q_ZTl w n wv sp x (p_ev none 132 0 [.ref 24, .int a, .int b, .int c, p_U, p_U] [] w) 1 := by
  have hh := q_mHas (w := q_th (nI 0) w) h.th.2.2.1 h.2.1 a
  have e1 : ¬ nI 1 = nI 0 := by decide
  have e2 : ¬ ¬ nI 0 = nI 0 := by decide
  have hn := h.2.1.n32
  by_cases hx : q_ex sp (q_nt a) = true
  · obtain ⟨k, h1, h2, rfl, h3⟩ := q_ntx hx
    rw [if_pos hx]
    rw [h3] at hx hh ⊢
    rw [hx, Bool.toNat_true] at hh
    have hk := h.2.2.1 k h2
    have hw := q_wdle n k
    have hwp := q_wd_pos h.2.1 hx
    by_cases hs : sp k = true
    · rw [if_pos hs]
      have hz : ¬ nI (q_kd sp k) = nI 1 := fun z => by have := ((q_kd_1 h.2.1).mp z).2; rw [hs] at this; exact Bool.false_ne_true this.symm
      refine q_ZTl0 h ?_
      (conv => lhs; simp (disch := first | assumption | omega | (rw [nI_leI] <;> omega) | (rw [nI_ltI] <;> omega) | (rw [nI_eq] <;> omega) | (apply q_out <;> omega) | (apply q_nb; omega) | (apply q_n0 <;> omega)) only [M132, ↓q_th_r, hh, q_th_2, hk, q_mFails, q_th_th, ↓if_pos, ↓if_neg, nI_add, q_sub, q_cl, p_bnd_s, p_bnd_v])
    · rw [if_neg hs]
      have hs' := Bool.eq_false_iff.mpr hs
      have hz : nI (q_kd sp k) = nI 1 := (q_kd_1 h.2.1).mpr ⟨hx, hs'⟩
      have hz2 : ¬ ¬ nI (q_kd sp k) = nI 1 := fun z => z hz
      have hp := q_in_pt hwp (show q_wd n k < 2 ^ 31 by omega) b
      by_cases hb : q_pt (q_wd n k) b < q_wd n k
      · rw [if_pos hb]
        have hd := decide_eq_true (hp.mpr hb)
        by_cases hc : (-100000 : Int32) ≤ c ∧ c ≤ nI 100000
        · rw [if_pos hc]
          have hdc := decide_eq_true hc
          rcases q_pt_c (m := q_wd n k) (by omega) b with ⟨h5, h6⟩ | ⟨j, h5, rfl, h6⟩
          · omega
          · rw [h6]
            have hr := h.2.2.2 k h2 hx hs' j h5
            refine q_ZM26 h (g := fun i => if i = 32 * k + j then c.toInt64 else w.2.1 26 i) ?_ (q_RR_set h.2.1 hx hs' h5 hn h.2.2.2)
            (conv => lhs; simp (disch := first | assumption | omega | (rw [nI_leI] <;> omega) | (rw [nI_ltI] <;> omega) | (rw [nI_eq] <;> omega) | (apply q_out <;> omega) | (apply q_nb; omega) | (apply q_n0 <;> omega)) only [M132, ↓q_th_r, hh, q_th_2, hk, q_sizeAt h.th.1, q_mIn, hd, hdc, Bool.toNat_true, pk_mul, hr, q_pu, ↓if_pos, ↓if_neg, nI_add, q_sub, q_cl, p_bnd_s, p_bnd_v])
        · rw [if_neg hc]
          have hdc := decide_eq_false hc
          refine q_ZTl0 h ?_
          (conv => lhs; simp (disch := first | assumption | omega | (rw [nI_leI] <;> omega) | (rw [nI_ltI] <;> omega) | (rw [nI_eq] <;> omega) | (apply q_out <;> omega) | (apply q_nb; omega) | (apply q_n0 <;> omega)) only [M132, ↓q_th_r, hh, q_th_2, hk, q_sizeAt h.th.1, q_mIn, hd, hdc, Bool.toNat_true, Bool.toNat_false, q_mFails, q_th_th, ↓if_pos, ↓if_neg, nI_add, q_sub, q_cl, p_bnd_s, p_bnd_v])
      · rw [if_neg hb]
        have hd := decide_eq_false (fun z => hb (hp.mp z))
        refine q_ZTl0 h ?_
        (conv => lhs; simp (disch := first | assumption | omega | (rw [nI_leI] <;> omega) | (rw [nI_ltI] <;> omega) | (rw [nI_eq] <;> omega) | (apply q_out <;> omega) | (apply q_nb; omega) | (apply q_n0 <;> omega)) only [M132, ↓q_th_r, hh, q_th_2, hk, q_sizeAt h.th.1, q_mIn, hd, Bool.toNat_false, q_mFails, q_th_th, ↓if_pos, ↓if_neg, nI_add, q_sub, q_cl, p_bnd_s, p_bnd_v])
  · rw [if_neg hx]
    rw [Bool.eq_false_iff.mpr hx, Bool.toNat_false] at hh
    refine q_ZTl0 h ?_
    (conv => lhs; simp (disch := first | assumption | omega | (rw [nI_leI] <;> omega) | (rw [nI_ltI] <;> omega) | (rw [nI_eq] <;> omega) | (apply q_out <;> omega) | (apply q_nb; omega) | (apply q_n0 <;> omega)) only [M132, ↓q_th_r, hh, q_mFails, q_th_th, ↓if_pos, ↓if_neg, nI_add, q_sub, q_cl, p_bnd_s, p_bnd_v])
theorem q_kd1 (hT : q_T n sp) (hs : ¬ sp 1 = true) : q_kd sp 1 = 1 := by
  unfold q_kd; rw [if_neg hs]; rfl
theorem q_kd1s (hs : sp 1 = true) : q_kd sp 1 = 2 := by
  unfold q_kd; rw [if_pos hs]
theorem q_mSetSample (h : q_R n wv sp x w) (a b : Int32) : if q_pt n a < n then if (-1000 : Int32) ≤ b ∧ b ≤ nI 1000 then if sp 1 = true then q_ZTl w n wv sp x (p_ev none 104 0 [.ref 24, .int a, .int b, p_U, p_U] [] w) 3 else q_ZM w n wv sp (fun j => if j = q_pt n a then b.toInt64 else x j) (p_ev none 104 0 [.ref 24, .int a, .int b, p_U, p_U] [] w) (.long (x (q_pt n a))) 0 else q_ZTl w n wv sp x (p_ev none 104 0 [.ref 24, .int a, .int b, p_U, p_U] [] w) 2 else q_ZTl w n wv sp x (p_ev none 104 0 [.ref 24, .int a, .int b, p_U, p_U] [] w) 1 := by
  have e1 : ¬ nI 1 = nI 0 := by decide
  have e2 : ¬ ¬ nI 0 = nI 0 := by decide
  have e3 : ¬ nI 2 = nI 1 := by decide
  have hn := h.2.1.n32
  have hn1 : 1 ≤ n := by rcases h.2.1.1 with z | z | z | z <;> omega
  have hl := (h.th (k := nI 0)).1.1
  have hp := q_in_pt hn1 (show n < 2 ^ 31 by omega) a
  have hk := h.2.2.1 1 (by omega)
  by_cases ha : q_pt n a < n
  · rw [if_pos ha]
    have hd := decide_eq_true (hp.mpr ha)
    by_cases hb : (-1000 : Int32) ≤ b ∧ b ≤ nI 1000
    · rw [if_pos hb]
      have hdb := decide_eq_true hb
      by_cases hs : sp 1 = true
      · rw [if_pos hs]
        rw [q_kd1s hs] at hk
        refine q_ZTl0 h ?_
        (conv => lhs; simp (disch := first | assumption | omega | (rw [nI_leI] <;> omega) | (rw [nI_ltI] <;> omega) | (rw [nI_eq] <;> omega) | (apply q_out <;> omega) | (apply q_nb; omega) | (apply q_n0 <;> omega)) only [M104, ↓q_th_r, q_th_2, hl, q_mIn, hd, hdb, Bool.toNat_true, hk, q_mFails, q_th_th, ↓if_pos, ↓if_neg, nI_add, q_sub, q_cl, p_bnd_s, p_bnd_v])
      · rw [if_neg hs]
        rw [q_kd1 h.2.1 hs] at hk
        have hs' := Bool.eq_false_iff.mpr hs
        rcases q_pt_c (m := n) (by omega) a with ⟨h5, h6⟩ | ⟨j, h5, rfl, h6⟩
        · omega
        · rw [h6]
          have hx1 : q_ex sp 1 = true := rfl
          have hw1 : q_wd n 1 = n := Nat.div_one n
          have hs1 : q_so n 1 = 0 := by unfold q_so; rw [show 1 - 2 ^ q_lv 1 = 0 from rfl, Nat.zero_mul]
          have hr := h.2.2.2 1 (by omega) hx1 hs' j (by rw [hw1]; exact h5)
          rw [hs1, Nat.zero_add, Nat.mul_one] at hr
          have g := q_RR_set (v := b.toInt64) h.2.1 hx1 hs' (show j < q_wd n 1 by rw [hw1]; exact h5) hn h.2.2.2
          rw [hs1, Nat.zero_add, Nat.mul_one] at g
          refine q_ZM26 h ?_ g
          (conv => lhs; simp (disch := first | assumption | omega | (rw [nI_leI] <;> omega) | (rw [nI_ltI] <;> omega) | (rw [nI_eq] <;> omega) | (apply q_out <;> omega) | (apply q_nb; omega) | (apply q_n0 <;> omega)) only [M104, ↓q_th_r, q_th_2, hl, q_mIn, hd, hdb, Bool.toNat_true, hk, hr, q_pu, ↓if_pos, ↓if_neg, nI_add, q_sub, q_cl, p_bnd_s, p_bnd_v])
    · rw [if_neg hb]
      have hdb := decide_eq_false hb
      refine q_ZTl0 h ?_
      (conv => lhs; simp (disch := first | assumption | omega | (rw [nI_leI] <;> omega) | (rw [nI_ltI] <;> omega) | (rw [nI_eq] <;> omega) | (apply q_out <;> omega) | (apply q_nb; omega) | (apply q_n0 <;> omega)) only [M104, ↓q_th_r, q_th_2, hl, q_mIn, hd, hdb, Bool.toNat_true, Bool.toNat_false, q_mFails, q_th_th, ↓if_pos, ↓if_neg, nI_add, q_sub, q_cl, p_bnd_s, p_bnd_v])
  · rw [if_neg ha]
    have hd := decide_eq_false (fun z => ha (hp.mp z))
    refine q_ZTl0 h ?_
    (conv => lhs; simp (disch := first | assumption | omega | (rw [nI_leI] <;> omega) | (rw [nI_ltI] <;> omega) | (rw [nI_eq] <;> omega) | (apply q_out <;> omega) | (apply q_nb; omega) | (apply q_n0 <;> omega)) only [M104, ↓q_th_r, q_th_2, hl, q_mIn, hd, Bool.toNat_false, q_mFails, q_th_th, ↓if_pos, ↓if_neg, nI_add, q_sub, q_cl, p_bnd_s, p_bnd_v])
theorem q_mSetWavelet (h : q_R n wv sp x w) {m : Nat} (hm : m < 3) : if sp 1 = true then q_ZTi w n wv sp x (p_ev none 116 0 [.ref 24, .int (nI m), p_U] [] w) 2 else q_ZM w n m sp x (p_ev none 116 0 [.ref 24, .int (nI m), p_U] [] w) (.int (nI wv)) 0 := by
  have e1 : ¬ nI 1 = nI 0 := by decide
  have e3 : ¬ nI 2 = nI 1 := by decide
  have hd : decide (nI 0 ≤ nI m ∧ nI m ≤ nI 2) = true := decide_eq_true ((q_inN (by omega) (by omega) (by omega)).mpr ⟨by omega, by omega⟩)
  have hk := h.2.2.1 1 (by omega)
  have hl := (h.th (k := nI 0)).1.2.1
  by_cases hs : sp 1 = true
  · rw [if_pos hs]
    rw [q_kd1s hs] at hk
    refine q_ZTi0 h ?_
    (conv => lhs; simp (disch := first | assumption | omega | (rw [nI_leI] <;> omega) | (rw [nI_ltI] <;> omega) | (rw [nI_eq] <;> omega) | (apply q_out <;> omega) | (apply q_nb; omega) | (apply q_n0 <;> omega)) only [M116, ↓q_th_r, q_th_2, q_mIn, hd, Bool.toNat_true, hk, q_mFails, q_th_th, ↓if_pos, ↓if_neg, nI_add, q_sub, q_cl, p_bnd_s, p_bnd_v])
  · rw [if_neg hs]
    rw [q_kd1 h.2.1 hs] at hk
    refine ⟨(p_u (q_th (nI 0) w).1 24 3 (nI m), w.2), ?_, ⟨⟨(h.th (k := nI 0)).1.1, rfl, h.1.2.2.1, by omega⟩, h.2.1, h.2.2.1, h.2.2.2⟩, rfl, fun o ho => ?_, fun o ho => rfl, fun o ho => rfl⟩
    · (conv => lhs; simp (disch := first | assumption | omega | (rw [nI_leI] <;> omega) | (rw [nI_ltI] <;> omega) | (rw [nI_eq] <;> omega) | (apply q_out <;> omega) | (apply q_nb; omega) | (apply q_n0 <;> omega)) only [M116, ↓q_th_r, q_th_2, q_mIn, hd, Bool.toNat_true, hk, hl, ↓if_pos, ↓if_neg, nI_add, q_sub, q_cl, p_bnd_s, p_bnd_v])
    · refine Eq.trans (funext fun j => if_neg (by omega)) (q_th_FM.1 o ho)
theorem q_mSetWavelet_x (h : q_R n wv sp x w) {a : Int32} (ha : a < nI 0 ∨ (¬ a < nI 0 ∧ ¬ a ≤ nI 2)) : q_ZTi w n wv sp x (p_ev none 116 0 [.ref 24, .int a, p_U] [] w) 1 := by
  have e2 : ¬ ¬ nI 0 = nI 0 := by decide
  have hd : decide (nI 0 ≤ a ∧ a ≤ nI 2) = false := decide_eq_false (fun z => by
    rcases ha with ha | ha
    · exact absurd ha (Int32.not_lt.mpr z.1)
    · exact ha.2 z.2)
  refine q_ZTi0 h ?_
  (conv => lhs; simp (disch := first | assumption | omega | (rw [nI_leI] <;> omega) | (rw [nI_ltI] <;> omega) | (rw [nI_eq] <;> omega) | (apply q_out <;> omega) | (apply q_nb; omega) | (apply q_n0 <;> omega)) only [M116, ↓q_th_r, q_th_2, q_mIn, hd, Bool.toNat_false, q_mFails, q_th_th, ↓if_pos, ↓if_neg, nI_add, q_sub, q_cl, p_bnd_s, p_bnd_v])
theorem q_mBegin1 {z1 z2 : Int32} : ∀ (d k : Nat) (w : pW), k + d = 16 → p_ev none 103 46 [.ref 24, .int z1, .int z2, .int (nI k)] [] w = p_ev none 103 74 [.ref 24, .int z1, .int z2, .int (nI 0)] [] (w.1, w.2.1, q_r w.2.2 25 (fun j => if j = 1 then nI 1 else if k ≤ j ∧ j < 16 then nI 0 else w.2.2 25 j)) := by
  intro d
  induction d with
  | zero =>
    intro k w hk
    have e : k = 16 := by omega
    subst e
    have e2 : (fun j => if j = 1 then nI 1 else if 16 ≤ j ∧ j < 16 then nI 0 else w.2.2 25 j) = fun j => if j = 1 then nI 1 else w.2.2 25 j := by
      funext j; rw [if_neg (show ¬ (16 ≤ j ∧ j < 16) by omega)]
    rw [e2, H103_46]
    (conv => lhs; simp (disch := first | assumption | omega | (rw [nI_leI] <;> omega) | (rw [nI_ltI] <;> omega) | (rw [nI_eq] <;> omega) | (apply q_out <;> omega) | (apply q_nb; omega) | (apply q_n0 <;> omega)) only [M103, q_pu, ↓if_pos, ↓if_neg, nI_add, q_sub, q_cl, p_bnd_s, p_bnd_v])
  | succ d ih =>
    intro k w hk
    have i1 := ih (k + 1) (w.1, w.2.1, q_r w.2.2 25 (fun j => if j = k then nI 0 else w.2.2 25 j)) (by omega)
    simp only [q_r_s, q_r_r] at i1
    rw [H103_46]
    (conv => lhs; simp (disch := first | assumption | omega | (rw [nI_leI] <;> omega) | (rw [nI_ltI] <;> omega) | (rw [nI_eq] <;> omega) | (apply q_out <;> omega) | (apply q_nb; omega) | (apply q_n0 <;> omega)) only [M103, q_pu, ↓if_pos, ↓if_neg, nI_add, q_sub, q_cl, p_bnd_s, p_bnd_v])
    rw [i1]
    refine congrArg (p_ev none 103 74 _ []) (congrArg (fun z => (w.1, w.2.1, z)) (congrArg (q_r w.2.2 25) ?_))
    funext j
    by_cases h3 : j = 1
    · rw [if_pos h3, if_pos h3]
    rw [if_neg h3, if_neg h3]
    by_cases h1 : j = k
    · rw [if_neg (by omega), if_pos h1, if_pos (by omega)]
    · by_cases h2 : k + 1 ≤ j ∧ j < 16
      · rw [if_pos h2, if_pos (by omega)]
      · rw [if_neg h2, if_neg h1, if_neg (by omega)]
theorem q_mBegin2 {z1 z2 : Int32} : ∀ (d k : Nat) (w : pW), k + d = 512 → p_ev none 103 74 [.ref 24, .int z1, .int z2, .int (nI k)] [] w = some (.inl (some (.int z2)), (w.1, q_r w.2.1 26 (fun j => if k ≤ j ∧ j < 512 then lN 0 else w.2.1 26 j), w.2.2), 0) := by
  intro d
  induction d with
  | zero =>
    intro k w hk
    have e : k = 512 := by omega
    subst e
    have e2 : (fun j => if 512 ≤ j ∧ j < 512 then lN 0 else w.2.1 26 j) = w.2.1 26 := by
      funext j; rw [if_neg (by omega)]
    rw [e2, q_r_id, H103_74]
    (conv => lhs; simp (disch := first | assumption | omega | (rw [nI_leI] <;> omega) | (rw [nI_ltI] <;> omega) | (rw [nI_eq] <;> omega) | (apply q_out <;> omega) | (apply q_nb; omega) | (apply q_n0 <;> omega)) only [M103, ↓if_pos, ↓if_neg, nI_add, q_sub, q_cl, p_bnd_s, p_bnd_v])
  | succ d ih =>
    intro k w hk
    have i1 := ih (k + 1) (w.1, q_r w.2.1 26 (fun j => if j = k then lN 0 else w.2.1 26 j), w.2.2) (by omega)
    simp only [q_r_s, q_r_r] at i1
    rw [H103_74]
    (conv => lhs; simp (disch := first | assumption | omega | (rw [nI_leI] <;> omega) | (rw [nI_ltI] <;> omega) | (rw [nI_eq] <;> omega) | (apply q_out <;> omega) | (apply q_nb; omega) | (apply q_n0 <;> omega)) only [M103, q_pu, ↓if_pos, ↓if_neg, nI_add, q_sub, q_cl, p_bnd_s, p_bnd_v])
    rw [i1]
    refine congrArg some (congrArg (Prod.mk _) (congrArg (fun z => (z, 0)) (congrArg (fun z => (w.1, z, w.2.2)) (congrArg (q_r w.2.1 26) ?_))))
    funext j
    by_cases h1 : j = k
    · subst h1; rw [if_neg (by omega), if_pos rfl, if_pos (by omega)]
    · by_cases h2 : k + 1 ≤ j ∧ j < 512
      · rw [if_pos h2, if_pos (by omega)]
      · rw [if_neg h2, if_neg h1, if_neg (by omega)]
theorem q_T_flat {m : Nat} (hm : m = 4 ∨ m = 8 ∨ m = 16 ∨ m = 32) : q_T m (fun _ => false) := ⟨hm, rfl, fun _ _ => rfl, fun _ _ _ h => absurd h Bool.false_ne_true, fun _ _ _ h => absurd h Bool.false_ne_true⟩
theorem q_mBegin (h : q_R n wv sp x w) {m : Nat} (hm : m = 4 ∨ m = 8 ∨ m = 16 ∨ m = 32) : q_ZM w m wv (fun _ => false) (fun j => if j < 32 then lN 0 else x j) (p_ev none 103 0 [.ref 24, .int (nI m), p_U, p_U] [] w) (.int (nI n)) 0 := by
  have hl := (h.th (k := nI 0)).1.1
  have h1 := q_mBegin1 (z1 := nI m) (z2 := nI n) 16 0 (p_u (q_th (nI 0) w).1 24 2 (nI m), w.2) rfl
  have h2 := q_mBegin2 (z1 := nI m) (z2 := nI n) 512 0 (p_u (q_th (nI 0) w).1 24 2 (nI m), w.2.1, q_r (q_r w.2.2 25 (fun j => if 0 ≤ j ∧ j < 16 then nI 0 else w.2.2 25 j)) 25 (fun j => if j = 1 then nI 1 else if 0 ≤ j ∧ j < 16 then nI 0 else w.2.2 25 j)) rfl
  simp only [q_r_r] at h2
  refine ⟨(p_u (q_th (nI 0) w).1 24 2 (nI m), q_r w.2.1 26 (fun j => if 0 ≤ j ∧ j < 512 then lN 0 else w.2.1 26 j), q_r w.2.2 25 (fun j => if j = 1 then nI 1 else if 0 ≤ j ∧ j < 16 then nI 0 else w.2.2 25 j)), ?_, ⟨⟨rfl, (h.th (k := nI 0)).1.2.1, by omega, h.1.2.2.2⟩, q_T_flat hm, fun i hi => ?_, ?_⟩, rfl, fun o ho => ?_, fun o ho => ?_, fun o ho => ?_⟩
  · rcases hm with rfl | rfl | rfl | rfl
    · (conv => lhs; simp (disch := first | assumption | omega | (rw [nI_leI] <;> omega) | (rw [nI_ltI] <;> omega) | (rw [nI_eq] <;> omega) | (apply q_out <;> omega) | (apply q_nb; omega) | (apply q_n0 <;> omega)) only [M103, ↓q_th_r, q_th_2, hl, ↓if_pos, ↓if_neg, nI_add, q_sub, q_cl, p_bnd_s, p_bnd_v])
      rw [h1]
      exact h2
    · have a1 : ¬ nI 8 = nI 4 := by decide
      (conv => lhs; simp (disch := first | assumption | omega | (rw [nI_leI] <;> omega) | (rw [nI_ltI] <;> omega) | (rw [nI_eq] <;> omega) | (apply q_out <;> omega) | (apply q_nb; omega) | (apply q_n0 <;> omega)) only [M103, ↓q_th_r, q_th_2, hl, ↓if_pos, ↓if_neg, nI_add, q_sub, q_cl, p_bnd_s, p_bnd_v])
      rw [h1]
      exact h2
    · have a1 : ¬ nI 16 = nI 4 := by decide
      have a2 : ¬ nI 16 = nI 8 := by decide
      (conv => lhs; simp (disch := first | assumption | omega | (rw [nI_leI] <;> omega) | (rw [nI_ltI] <;> omega) | (rw [nI_eq] <;> omega) | (apply q_out <;> omega) | (apply q_nb; omega) | (apply q_n0 <;> omega)) only [M103, ↓q_th_r, q_th_2, hl, ↓if_pos, ↓if_neg, nI_add, q_sub, q_cl, p_bnd_s, p_bnd_v])
      rw [h1]
      exact h2
    · have a1 : ¬ nI 32 = nI 4 := by decide
      have a2 : ¬ nI 32 = nI 8 := by decide
      have a3 : ¬ nI 32 = nI 16 := by decide
      (conv => lhs; simp (disch := first | assumption | omega | (rw [nI_leI] <;> omega) | (rw [nI_ltI] <;> omega) | (rw [nI_eq] <;> omega) | (apply q_out <;> omega) | (apply q_nb; omega) | (apply q_n0 <;> omega)) only [M103, ↓q_th_r, q_th_2, hl, ↓if_pos, ↓if_neg, nI_add, q_sub, q_cl, p_bnd_s, p_bnd_v])
      rw [h1]
      exact h2
  · dsimp only
    rw [q_r_s]
    by_cases h1 : i = 1
    · subst h1; rfl
    · rw [if_neg h1, if_pos ⟨Nat.zero_le i, hi⟩]
      unfold q_kd q_ex
      simp [h1]
  · dsimp only
    rw [q_r_s]
    intro i hi ei li k hk
    have e1 : i = 1 := by
      unfold q_ex at ei
      simpa using ei
    subst e1
    have hw1 : q_wd m 1 = m := Nat.div_one m
    have hs1 : q_so m 1 = 0 := by unfold q_so; rw [show 1 - 2 ^ q_lv 1 = 0 from rfl, Nat.zero_mul]
    rw [hw1] at hk
    dsimp only
    rw [hs1, if_pos (by omega), if_pos (by omega)]
  · exact Eq.trans (funext fun j => if_neg (by omega)) (q_th_FM.1 o ho)
  · exact q_r_n (by omega)
  · exact q_r_n (by omega)
theorem q_mBegin_x (h : q_R n wv sp x w) {a : Int32} (h4 : ¬ a = nI 4) (h8 : ¬ a = nI 8) (h16 : ¬ a = nI 16) (h32 : ¬ a = nI 32) : q_ZTi w n wv sp x (p_ev none 103 0 [.ref 24, .int a, p_U, p_U] [] w) 1 := by
  refine q_ZTi0 h ?_
  (conv => lhs; simp (disch := first | assumption | omega | (rw [nI_leI] <;> omega) | (rw [nI_ltI] <;> omega) | (rw [nI_eq] <;> omega) | (apply q_out <;> omega) | (apply q_nb; omega) | (apply q_n0 <;> omega)) only [M103, ↓q_th_r, q_th_2, q_mFails, q_th_th, ↓if_pos, ↓if_neg, nI_add, q_sub, q_cl, p_bnd_s, p_bnd_v])
end Me
