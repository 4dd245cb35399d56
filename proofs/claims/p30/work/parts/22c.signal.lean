/-! P30: THE LAW'S SIGNAL, ITS CHECKS -/
theorem ts_none {n : Nat} {sp : Nat → Bool} (hT : q_T n sp) (h1 : sp 1 = false) : sp = fun _ => false := by
  funext j
  cases z : sp j
  · rfl
  · exfalso
    have hj := hT.sp1 z
    have up : ∀ i, 2 ≤ i → sp i = true → sp (i / 2) = true := fun i hi hs => hT.2.2.2.1 i hi (hT.sp1 hs).2 hs
    by_cases e1 : j = 1
    · rw [e1, h1] at z; exact Bool.false_ne_true z
    · have u1 := up j (by omega) z
      by_cases e2 : j / 2 = 1
      · rw [e2, h1] at u1; exact Bool.false_ne_true u1
      · have u2 := up (j / 2) (by omega) u1
        rw [show j / 2 / 2 = 1 by omega, h1] at u2; exact Bool.false_ne_true u2
section Sh
variable {n wv X Y : Nat} {A : Nat → Int64} {H : Nat → Int32}
theorem ts_bk {sp : Nat → Bool} {x : Nat → Int64} {w : pW} (hC : q_DC n wv A) (hS : ∀ p, p < n → A (32 + p) = (H p).toInt64) (hK : q_K n wv sp x w) (hR : q_RR n sp A x) (hH : w.2.2 23 = H) :
    ∃ w', p_ev none 96 0 [.ref 0, .ref 23, .int (nI n), p_U] [] w = some (.inl (some (.int (nI 1))), w', 0) ∧ q_K n wv sp x w' ∧ w'.2.2 23 = H := by
  obtain ⟨w1, e1, K1, F1⟩ := ts_back hK (fun p hp => by rw [q_RR_un hK.2.1 hC hR p hp, hH]; exact hS p hp)
  exact ⟨w1, e1, K1, (F1.2.2 23 (Nat.le_refl 23)).trans hH⟩
theorem ts_co {sp : Nat → Bool} {x : Nat → Int64} {w : pW} (hK : q_K n wv sp x w) : p_ev none 55 0 [.ref 0, .int (nI 1)] [] w = some (.inl (some (.int (nI (q_cs x (q_so n 1) (q_wd n 1))))), w, 0) := by
  have g := q_cCostOf hK (nI 1)
  rw [q_nt_n (show 1 < 16 by decide), if_pos (show q_ex sp 1 = true from rfl)] at g
  exact g
theorem ts_jo {sp : Nat → Bool} {x : Nat → Int64} {w : pW} (hC : q_DC n wv A) (hK : q_K n wv sp x w) (hR : q_RR n sp A x) (hH : w.2.2 23 = H) (h1 : sp 1 = true) :
    ∃ w' x', p_ev none 50 0 [.ref 0, .int (nI 1)] [] w = some (.inl (some (.int (nI (q_cn sp 1 7)))), w', 0) ∧ q_K n wv (fun _ => false) x' w' ∧ q_RR n (fun _ => false) A x' ∧ w'.2.2 23 = H := by
  obtain ⟨w1, e1, K1, F1⟩ := q_cJoin hK (k := 1) (by decide) rfl h1
  have R1 := q_RR_jn (wv := wv) hC hK.2.1 (k := 1) (by decide) hR
  rw [ts_jn hK.2.1] at K1 R1
  exact ⟨w1, _, e1, K1, R1, (F1.2.2 23 (Nat.le_refl 23)).trans hH⟩
theorem ts_ch {sp : Nat → Bool} {x : Nat → Int64} {w : pW} (hC : q_DC n wv A) (hK : q_K n wv sp x w) (hR : q_RR n sp A x) (hH : w.2.2 23 = H) {l : Nat} (h1 : 1 ≤ l) (h3 : l ≤ 3) :
    ∃ w' sp' x', p_ev none 56 0 [.ref 0, .int (nI l)] [] w = some (.inl (some (.int (nI (ts_v n A (2 ^ l) 1)))), w', 0) ∧ q_K n wv sp' x' w' ∧ q_RR n sp' A x' ∧ w'.2.2 23 = H ∧ q_cs x' (q_so n 1) (q_wd n 1) = ts_v n A (2 ^ l) 1 := by
  obtain ⟨w1, e1, K1, F1⟩ := q_cChoose hK h1 h3
  obtain ⟨-, R1, C1⟩ := ts_best (wv := wv) hK.2.1 hC hR h1 h3 (w.2.2 19)
  rw [C1] at e1
  exact ⟨w1, _, _, e1, K1, R1, (F1.2.2 23 (Nat.le_refl 23)).trans hH, C1⟩
theorem ts_f {sp : Nat → Bool} {x : Nat → Int64} {w : pW} {s : Nat} {x7 x8 : Int32} {z11 : Value} (hC : q_DC n wv A) (hS : ∀ p, p < n → A (32 + p) = (H p).toInt64) (hK : q_K n wv sp x w) (hR : q_RR n sp A x) (hs : q_lc sp = s + 1) (hH : w.2.2 23 = H) :
    ∃ w' x' T, p_ev none 99 264 [.ref 0, .int (nI X), .int (nI Y), .ref 23, .ref 24, .int (nI n), .int (nI wv), .int x7, .int x8, .int (nI s), .int (nI 9), z11, p_U, p_U, p_U, p_U] [] w = p_ev none 99 337 [.ref 0, .int (nI X), .int (nI Y), .ref 23, .ref 24, .int (nI n), .int (nI wv), .int x7, .int x8, .int (nI s), .int (nI T), .int (nI (q_wt n A 1)), p_U, p_U, p_U, p_U] [] w' ∧ q_K n wv (fun _ => false) x' w' ∧ q_RR n (fun _ => false) A x' ∧ w'.2.2 23 = H ∧ ts_v n A 8 1 ≤ T ∧ T ≤ 2016 := by
  have hn := hK.2.1.n32
  have hT := hK.2.1
  have h8 := q_lc_le (sp := sp)
  have n10 : ¬ nI 1 = nI 0 := by decide
  have c1 := ts_covers hK
  obtain ⟨w1, e1, K1, H1⟩ := ts_bk hC hS hK hR hH
  have c2 : p_ev none 53 0 [.ref 0] [] w1 = some (.inl (some (.int (nI (q_lc sp)))), w1, 0) := q_cLeaves K1
  rw [hs] at c2
  have c3 := ts_co K1
  have hl := ts_cost hT hR
  have hb := q_cs_le (x := x) (s := q_so n 1) (q_wd n 1)
  rw [ts_wd1] at hb
  by_cases h0 : s = 0
  · subst h0
    have hz : sp = fun _ => false := ts_none hT (by rw [ts_rt hT, hs]; rfl)
    subst hz
    obtain ⟨w2, e2, K2, H2⟩ := ts_bk hC hS K1 hR H1
    have c4 := ts_co K2
    rw [ts_cost0 hR] at c4
    refine ⟨w2, x, _, ?_, K2, hR, H2, hl, by rw [ts_wd1]; omega⟩
    (conv => lhs; simp (disch := first | assumption | omega | (rw [nI_leI] <;> omega) | (rw [nI_ltI] <;> omega) | (rw [nI_eq] <;> omega) | (apply q_out <;> omega) | (apply q_nb; omega) | (apply q_n0 <;> omega)) only [M99_f, c1, e1, c2, c3, e2, c4, ↓if_pos, ↓if_neg, nI_add, q_sub, q_cl, p_bnd_s, p_bnd_v])
  · have h1 : sp 1 = true := by rw [ts_rt hT, hs]; exact decide_eq_true (by omega)
    obtain ⟨w2, x2, e2, K2, R2, H2⟩ := ts_jo hC K1 hR H1 h1
    have hcn := ts_cn hT
    rw [show q_cn sp 1 7 = s by omega] at e2
    obtain ⟨w3, e3, K3, H3⟩ := ts_bk hC hS K2 R2 H2
    have c4 := ts_co K3
    rw [ts_cost0 R2] at c4
    refine ⟨w3, x2, _, ?_, K3, R2, H3, hl, by rw [ts_wd1]; omega⟩
    (conv => lhs; simp (disch := first | assumption | omega | (rw [nI_leI] <;> omega) | (rw [nI_ltI] <;> omega) | (rw [nI_eq] <;> omega) | (apply q_out <;> omega) | (apply q_nb; omega) | (apply q_n0 <;> omega)) only [M99_f, c1, e1, c2, c3, e2, e3, c4, ↓if_pos, ↓if_neg, nI_add, q_sub, q_cl, p_bnd_s, p_bnd_v])
theorem ts_g {x : Nat → Int64} {w : pW} {s T : Nat} {x7 x8 : Int32} (hC : q_DC n wv A) (hS : ∀ p, p < n → A (32 + p) = (H p).toInt64) (hK : q_K n wv (fun _ => false) x w) (hR : q_RR n (fun _ => false) A x) (hH : w.2.2 23 = H) (hT : ts_v n A 8 1 ≤ T) (hT2 : T ≤ 2016) :
    ∃ w' sp' x', p_ev none 99 337 [.ref 0, .int (nI X), .int (nI Y), .ref 23, .ref 24, .int (nI n), .int (nI wv), .int x7, .int x8, .int (nI s), .int (nI T), .int (nI (q_wt n A 1)), p_U, p_U, p_U, p_U] [] w = p_ev none 99 389 [.ref 0, .int (nI X), .int (nI Y), .ref 23, .ref 24, .int (nI n), .int (nI wv), .int x7, .int x8, .int (nI s), .int (nI T), .int (nI (q_wt n A 1)), .int (nI (ts_v n A 8 1)), p_U, p_U, p_U] [] w' ∧ q_K n wv sp' x' w' ∧ q_RR n sp' A x' ∧ w'.2.2 23 = H := by
  have hn := hK.2.1.n32
  have n10 : ¬ nI 1 = nI 0 := by decide
  obtain ⟨w1, sp1, x1, e1, K1, R1, H1, C1⟩ := ts_ch hC hK hR hH (l := 3) (by decide) (by decide)
  have c1 := ts_co K1
  rw [C1] at c1
  rw [show 2 ^ 3 = 8 from rfl] at e1 c1
  have c2 := ts_covers K1
  obtain ⟨w2, e2, K2, H2⟩ := ts_bk hC hS K1 R1 H1
  have v1 := ts_v_2016 (n := n) (A := A) (E := 8) (j := 1) hn
  have v2 := ts_v_le (n := n) (A := A) (E := 8) (j := 1) (by decide) (by decide)
  have v3 := q_wt_le (A := A) (j := 1) hn
  generalize ts_v n A 8 1 = V at *
  generalize q_wt n A 1 = W at *
  refine ⟨w2, sp1, x1, ?_, K2, R1, H2⟩
  (conv => lhs; simp (disch := first | assumption | omega | (rw [nI_leI] <;> omega) | (rw [nI_ltI] <;> omega) | (rw [nI_eq] <;> omega) | (apply q_out <;> omega) | (apply q_nb; omega) | (apply q_n0 <;> omega)) only [M99_g, e1, c1, c2, e2, ↓if_pos, ↓if_neg, nI_add, q_sub, q_cl, p_bnd_s, p_bnd_v])
theorem ts_h {sp : Nat → Bool} {x : Nat → Int64} {w : pW} {s T : Nat} {x7 x8 : Int32} (hC : q_DC n wv A) (hS : ∀ p, p < n → A (32 + p) = (H p).toInt64) (hK : q_K n wv sp x w) (hR : q_RR n sp A x) (hH : w.2.2 23 = H) :
    ∃ w' x' V1 V2, p_ev none 99 389 [.ref 0, .int (nI X), .int (nI Y), .ref 23, .ref 24, .int (nI n), .int (nI wv), .int x7, .int x8, .int (nI s), .int (nI T), .int (nI (q_wt n A 1)), .int (nI (ts_v n A 8 1)), p_U, p_U, p_U] [] w = p_ev none 99 458 [.ref 0, .int (nI X), .int (nI Y), .ref 23, .ref 24, .int (nI n), .int (nI wv), .int x7, .int x8, .int (nI s), .int (nI T), .int (nI (q_wt n A 1)), .int (nI (ts_v n A 8 1)), .int V1, .int V2, .int (nI 0)] [] w' ∧ q_K n wv (fun _ => false) x' w' ∧ q_RR n (fun _ => false) A x' ∧ w'.2.2 23 = H := by
  have hn := hK.2.1.n32
  have n10 : ¬ nI 1 = nI 0 := by decide
  obtain ⟨w1, sp1, x1, e1, K1, R1, H1, -⟩ := ts_ch hC hK hR hH (l := 1) (by decide) (by decide)
  obtain ⟨w2, sp2, x2, e2, K2, R2, H2, -⟩ := ts_ch hC K1 R1 H1 (l := 2) (by decide) (by decide)
  obtain ⟨w3, e3, K3, H3⟩ := ts_bk hC hS K2 R2 H2
  rw [show 2 ^ 1 = 2 from rfl] at e1
  rw [show 2 ^ 2 = 4 from rfl] at e2
  have v0 := ts_v_2016 (n := n) (A := A) (E := 8) (j := 1) hn
  have v1 := ts_v_2016 (n := n) (A := A) (E := 2) (j := 1) hn
  have v2 := ts_v_2016 (n := n) (A := A) (E := 4) (j := 1) hn
  have v3 := q_wt_le (A := A) (j := 1) hn
  have m1 := ts_v_le (n := n) (A := A) (E := 2) (j := 1) (by decide) (by decide)
  have m2 := ts_v_mono (n := n) (A := A) (E := 2) (E' := 4) (by decide) (by decide) 14 1 rfl (by decide)
  have m3 := ts_v_mono (n := n) (A := A) (E := 4) (E' := 8) (by decide) (by decide) 14 1 rfl (by decide)
  generalize ts_v n A 8 1 = V at *
  generalize ts_v n A 4 1 = V2 at *
  generalize ts_v n A 2 1 = V1 at *
  generalize q_wt n A 1 = W at *
  have cL := q_cIsLeaf K3 (nI 1)
  rw [q_nt_n (show 1 < 16 by decide), if_pos (show q_ex sp2 1 = true from rfl)] at cL
  cases hs : sp2 1
  · have hz := ts_none K3.2.1 hs
    subst hz
    rw [hs, show nI (!false).toNat = nI 1 from rfl] at cL
    refine ⟨w3, x2, nI V1, nI V2, ?_, K3, R2, H3⟩
    (conv => lhs; simp (disch := first | assumption | omega | (rw [nI_leI] <;> omega) | (rw [nI_ltI] <;> omega) | (rw [nI_eq] <;> omega) | (apply q_out <;> omega) | (apply q_nb; omega) | (apply q_n0 <;> omega)) only [M99_h, e1, e2, e3, cL, ↓if_pos, ↓if_neg, nI_add, q_sub, q_cl, p_bnd_s, p_bnd_v])
  · rw [hs, show nI (!true).toNat = nI 0 from rfl] at cL
    obtain ⟨w4, x4, e4, K4, R4, H4⟩ := ts_jo hC K3 R2 H3 hs
    have hcn := ts_cn K3.2.1
    have hrt := ts_rt K3.2.1
    rw [hs] at hrt
    have hrt2 := of_decide_eq_true hrt.symm
    have h8 := q_lc_le (sp := sp2)
    refine ⟨w4, x4, nI V1, nI V2, ?_, K4, R4, H4⟩
    (conv => lhs; simp (disch := first | assumption | omega | (rw [nI_leI] <;> omega) | (rw [nI_ltI] <;> omega) | (rw [nI_eq] <;> omega) | (apply q_out <;> omega) | (apply q_nb; omega) | (apply q_n0 <;> omega)) only [M99_h, e1, e2, e3, cL, e4, ↓if_pos, ↓if_neg, nI_add, q_sub, q_cl, p_bnd_s, p_bnd_v])
theorem ts_i {x : Nat → Int64} {w : pW} {x7 x8 x9 x10 x11 x12 x13 x14 : Int32} (hS : ∀ p, p < n → A (32 + p) = (H p).toInt64) (hK : q_K n wv (fun _ => false) x w) (hR : q_RR n (fun _ => false) A x) (hH : w.2.2 23 = H) : ∀ (d p : Nat), p + d = n →
    p_ev none 99 458 [.ref 0, .int (nI X), .int (nI Y), .ref 23, .ref 24, .int (nI n), .int (nI wv), .int x7, .int x8, .int x9, .int x10, .int x11, .int x12, .int x13, .int x14, .int (nI p)] [] w = p_ev none 99 489 [.ref 0, .int (nI X), .int (nI Y), .ref 23, .ref 24, .int (nI n), .int (nI wv), .int x7, .int x8, .int x9, .int x10, .int x11, .int x12, .int x13, .int x14, .int (nI n)] [] w := by
  have hn := hK.2.1.n32
  intro d
  induction d with
  | zero =>
    intro p hp
    obtain rfl : p = n := by omega
    rw [H99_458]
    (conv => lhs; simp (disch := first | assumption | omega | (rw [nI_leI] <;> omega) | (rw [nI_ltI] <;> omega) | (rw [nI_eq] <;> omega) | (apply q_out <;> omega) | (apply q_nb; omega) | (apply q_n0 <;> omega)) only [M99_i, ↓if_pos, ↓if_neg, nI_add, q_sub, q_cl, p_bnd_s, p_bnd_v])
  | succ d ih =>
    intro p hp
    have g := q_cNumber hK (nI 1) (nI p)
    rw [q_nt_n (show 1 < 16 by decide), if_pos (show q_ex (fun _ => false) 1 = true from rfl), if_neg Bool.false_ne_true, ts_wd1, q_pt_n (show p < n by omega) (by omega), if_pos (show p < n by omega)] at g
    have hv := hR 1 (by decide) rfl rfl p (by rw [ts_wd1]; omega)
    have ec : lg_cmp (x (q_so n 1 + p)) (w.2.2 23 p).toInt64 = nI 0 := q_cmp0.mpr (by rw [← hv, hH]; exact hS p (by omega))
    rw [H99_458]
    (conv => lhs; simp (disch := first | assumption | omega | (rw [nI_leI] <;> omega) | (rw [nI_ltI] <;> omega) | (rw [nI_eq] <;> omega) | (apply q_out <;> omega) | (apply q_nb; omega) | (apply q_n0 <;> omega)) only [M99_i, g, ec, ↓if_pos, ↓if_neg, nI_add, q_sub, q_cl, p_bnd_s, p_bnd_v])
    exact ih (p + 1) (by omega)
theorem ts_j {x : Nat → Int64} {w : pW} {x7 x8 x9 x10 x12 x13 x14 x15 : Int32} (hK : q_K n wv (fun _ => false) x w) (hR : q_RR n (fun _ => false) A x) :
    p_ev none 99 489 [.ref 0, .int (nI X), .int (nI Y), .ref 23, .ref 24, .int (nI n), .int (nI wv), .int x7, .int x8, .int x9, .int x10, .int (nI (q_wt n A 1)), .int x12, .int x13, .int x14, .int x15] [] w = some (.inl (some (.int (nI 1))), w, 0) := by
  have hn := hK.2.1.n32
  have c := ts_co hK
  rw [ts_cost0 hR] at c
  have v3 := q_wt_le (A := A) (j := 1) hn
  generalize q_wt n A 1 = W at *
  (conv => lhs; simp (disch := first | assumption | omega | (rw [nI_leI] <;> omega) | (rw [nI_ltI] <;> omega) | (rw [nI_eq] <;> omega) | (apply q_out <;> omega) | (apply q_nb; omega) | (apply q_n0 <;> omega)) only [M99_j, c, ↓if_pos, ↓if_neg, nI_add, q_sub, q_cl, p_bnd_s, p_bnd_v])
end Sh
/-- the whole signal -/
theorem ts_signal {n0 wv0 X Y : Nat} {sp0 : Nat → Bool} {x0 : Nat → Int64} {w : pW} (hX : X < 2 ^ 31) (hY : Y < 2 ^ 31) (hK : q_K n0 wv0 sp0 x0 w) :
    ∃ w' n wv x, p_ev none 99 0 [.ref 0, .int (nI X), .int (nI Y), .ref 23, .ref 24, p_U, p_U, p_U, p_U, p_U, p_U, p_U, p_U, p_U, p_U, p_U] [] w = some (.inl (some (.int (nI 1))), w', 0) ∧ q_K n wv (fun _ => false) x w' := by
  obtain ⟨w1, x7, e1, K1⟩ := ts_front (Y := Y) hX hK
  have hv3 : X / 2 ^ 3 / 2 % 3 < 3 := Nat.mod_lt _ (by omega)
  have hk4 : X / 2 ^ 5 / 2 % 4 < 4 := Nat.mod_lt _ (by omega)
  generalize 4 * 2 ^ (X / 2 % 4) = n at e1 K1
  generalize X / 2 ^ 3 / 2 % 3 = wv at e1 K1 hv3
  generalize X / 2 ^ 5 / 2 % 4 = kd at e1 hk4
  obtain ⟨w2, x2, z2, e2, K2, H2⟩ := ts_set_l (x7 := x7) hk4 hX hY n 0 _ w1 p_U (by omega) K1 (fun j hj => absurd hj (Nat.not_lt_zero j)) (fun j _ hj => if_pos (by have := K1.2.1.n32; omega))
  have hn := K2.2.1.n32
  have hC := q_DA_C (n := n) (wv := wv) (y := x2) hn
  have hA : ∀ j, j < n → q_DA n wv x2 (32 + j) = x2 j := fun j hj => q_DA_1 (by omega)
  have hR2 : q_RR n (fun _ => false) (q_DA n wv x2) x2 := by
    intro i hi ei li k hk
    have i1 : i = 1 := by
      unfold q_ex at ei
      simpa using ei
    subst i1
    rw [ts_wd1] at hk
    rw [ts_so1, Nat.zero_add]
    exact hA k hk
  have hS : ∀ p, p < n → q_DA n wv x2 (32 + p) = (w2.2.2 23 p).toInt64 := fun p hp => by rw [hA p hp]; exact (H2 p hp).1
  have h0 : ∀ j, j < n → ts_in 1000 (q_DA n wv x2 (32 + j)) := fun p hp => by rw [hA p hp]; exact (H2 p hp).2
  generalize q_DA n wv x2 = A at hC hR2 hS h0
  clear hA H2
  have e3 : p_ev none 99 183 [.ref 0, .int (nI X), .int (nI Y), .ref 23, .ref 24, .int (nI n), .int (nI wv), .int x7, .int (nI kd), .int (nI n), z2, p_U, p_U, p_U, p_U, p_U] [] w2 = p_ev none 99 189 [.ref 0, .int (nI X), .int (nI Y), .ref 23, .ref 24, .int (nI n), .int (nI wv), .int x7, .int (nI kd), .int (nI 0), .int (nI 0), p_U, p_U, p_U, p_U, p_U] [] w2 := by
    (conv => lhs; simp (disch := first | assumption | omega | (rw [nI_leI] <;> omega) | (rw [nI_ltI] <;> omega) | (rw [nI_eq] <;> omega) | (apply q_out <;> omega) | (apply q_nb; omega) | (apply q_n0 <;> omega)) only [M99_d, ↓if_pos, ↓if_neg, nI_add, q_sub, q_cl, p_bnd_s, p_bnd_v])
  obtain ⟨w4, sp4, x4, s4, z4, e4, K4, R4, L4, G4⟩ := ts_split_l (Y := Y) (X := X) (x7 := x7) (x8 := nI kd) (H := w2.2.2 23) hY hC h0 hv3 9 0 0 _ x2 w2 p_U rfl K2 hR2 ts_lc0 rfl
  obtain ⟨w5, x5, T, e5, K5, R5, H5, T1, T2⟩ := ts_f (X := X) (Y := Y) (x7 := x7) (x8 := nI kd) (z11 := z4) hC hS K4 R4 L4 G4
  obtain ⟨w6, sp6, x6, e6, K6, R6, H6⟩ := ts_g (X := X) (Y := Y) (s := s4) (x7 := x7) (x8 := nI kd) hC hS K5 R5 H5 T1 T2
  obtain ⟨w8, x8, V1, V2, e8, K8, R8, H8⟩ := ts_h (X := X) (Y := Y) (s := s4) (T := T) (x7 := x7) (x8 := nI kd) hC hS K6 R6 H6
  have e9 := ts_i (X := X) (Y := Y) (x7 := x7) (x8 := nI kd) (x9 := nI s4) (x10 := nI T) (x11 := nI (q_wt n A 1)) (x12 := nI (ts_v n A 8 1)) (x13 := V1) (x14 := V2) hS K8 R8 H8 n 0 (by omega)
  have e10 := ts_j (X := X) (Y := Y) (x7 := x7) (x8 := nI kd) (x9 := nI s4) (x10 := nI T) (x12 := nI (ts_v n A 8 1)) (x13 := V1) (x14 := V2) (x15 := nI n) K8 R8
  exact ⟨w8, n, wv, x8, by rw [e1, e2, e3, e4, e5, e6, e8, e9, e10], K8⟩
