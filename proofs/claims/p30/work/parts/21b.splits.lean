/-! P30: A SPLIT THAT THE LAW CHECKS -/
section Sp
variable {n wv k : Nat} {sp : Nat → Bool} {x A : Nat → Int64}
theorem ts_sp1 (h1 : 1 ≤ k) (h16 : k < 16) (hx : q_ex sp k = true) (hs : sp k = false) (hv : wv < 3) : ∀ (d j : Nat) (w : pW), j + d = q_wd n k / 2 → q_K n wv sp x w → (∀ i, i < j → w.2.1 24 i = q_ft wv x (q_so n k + 2 * i) (q_wd n k / 2) i) →
    ∃ w' x5, p_ev none 98 12 [.ref 0, .int (nI k), .int (nI wv), .ref 24, .int (nI (q_wd n k / 2)), .int (nI j)] [] w = p_ev none 98 41 [.ref 0, .int (nI k), .int (nI wv), .ref 24, .int (nI (q_wd n k / 2)), .int x5] [] w' ∧ q_K n wv sp x w' ∧ (wv < 2 → ∀ i, i < q_wd n k / 2 → w'.2.1 24 i = q_ft wv x (q_so n k + 2 * i) (q_wd n k / 2) i) ∧ w'.2.2 = w.2.2 := by
  intro d
  induction d with
  | zero =>
    intro j w hj hK hF
    have hn := hK.2.1.n32
    have hw := q_wdle n k
    refine ⟨w, nI j, ?_, hK, fun _ i hi => hF i (by omega), rfl⟩
    rw [H98_12]
    (conv => lhs; simp (disch := first | assumption | omega | (rw [nI_leI] <;> omega) | (rw [nI_ltI] <;> omega) | (rw [nI_eq] <;> omega) | (apply q_out <;> omega) | (apply q_nb; omega) | (apply q_n0 <;> omega)) only [M98_a, ↓if_pos, ↓if_neg, nI_add, q_sub, q_cl, p_bnd_s, p_bnd_v])
  | succ d ih =>
    intro j w hj hK hF
    have hn := hK.2.1.n32
    have hw := q_wdle n k
    by_cases hv2 : wv < 2
    · have hf := q_cFilt hK h1 h16 hx hs (show j < q_wd n k / 2 by omega) hv2
      obtain ⟨w2, x5, e2, K2, F2, G2⟩ := ih (j + 1) (w.1, p_u w.2.1 24 j (q_ft wv x (q_so n k + 2 * j) (q_wd n k / 2) j), w.2.2) (by omega) (q_K_row hK (hK.2.2)) (fun i hi => by
        dsimp only [p_u]
        by_cases hij : i = j
        · rw [if_pos ⟨rfl, hij⟩, hij]
        · rw [if_neg (fun z => hij z.2)]
          exact hF i (by omega))
      refine ⟨w2, x5, ?_, K2, F2, G2⟩
      rw [H98_12]
      (conv => lhs; simp (disch := first | assumption | omega | (rw [nI_leI] <;> omega) | (rw [nI_ltI] <;> omega) | (rw [nI_eq] <;> omega) | (apply q_out <;> omega) | (apply q_nb; omega) | (apply q_n0 <;> omega)) only [M98_a, hf, ↓if_pos, ↓if_neg, nI_add, q_sub, q_cl, p_bnd_s, p_bnd_v])
      exact e2
    · refine ⟨w, nI j, ?_, hK, fun z => absurd z hv2, rfl⟩
      rw [H98_12]
      (conv => lhs; simp (disch := first | assumption | omega | (rw [nI_leI] <;> omega) | (rw [nI_ltI] <;> omega) | (rw [nI_eq] <;> omega) | (apply q_out <;> omega) | (apply q_nb; omega) | (apply q_n0 <;> omega)) only [M98_a, ↓if_pos, ↓if_neg, nI_add, q_sub, q_cl, p_bnd_s, p_bnd_v])
theorem ts_sp2 {sp' : Nat → Bool} {x' : Nat → Int64} {w : pW} (h1 : 1 ≤ k) (h8 : k < 8) (hv : wv < 3) (hK : q_K n wv sp' x' w) (hx : q_ex sp' (2 * k + 1) = true) (hs : sp' (2 * k + 1) = false) (hwd : q_wd n (2 * k + 1) = q_wd n k / 2)
    (hF : wv < 2 → ∀ i, i < q_wd n k / 2 → x' (q_so n (2 * k + 1) + i) = w.2.1 24 i) : ∀ (d j : Nat), j + d = q_wd n k / 2 →
    p_ev none 98 86 [.ref 0, .int (nI k), .int (nI wv), .ref 24, .int (nI (q_wd n k / 2)), .int (nI j)] [] w = some (.inl (some (.int (nI 1))), w, 0) := by
  intro d
  have hn := hK.2.1.n32
  have hw := q_wdle n k
  induction d with
  | zero =>
    intro j hj
    rw [H98_86]
    (conv => lhs; simp (disch := first | assumption | omega | (rw [nI_leI] <;> omega) | (rw [nI_ltI] <;> omega) | (rw [nI_eq] <;> omega) | (apply q_out <;> omega) | (apply q_nb; omega) | (apply q_n0 <;> omega)) only [M98_c, ↓if_pos, ↓if_neg, nI_add, q_sub, q_cl, p_bnd_s, p_bnd_v])
  | succ d ih =>
    intro j hj
    by_cases hv2 : wv < 2
    · have hnum := q_cNumber hK (nI (2 * k + 1)) (nI j)
      rw [q_nt_n (show 2 * k + 1 < 16 by omega), if_pos hx, if_neg (by rw [hs]; exact Bool.false_ne_true), hwd, q_pt_n (show j < q_wd n k / 2 by omega) (by omega), if_pos (show j < q_wd n k / 2 by omega)] at hnum
      have ec : lg_cmp (x' (q_so n (2 * k + 1) + j)) (w.2.1 24 j) = nI 0 := q_cmp0.mpr (hF hv2 j (by omega))
      rw [H98_86]
      (conv => lhs; simp (disch := first | assumption | omega | (rw [nI_leI] <;> omega) | (rw [nI_ltI] <;> omega) | (rw [nI_eq] <;> omega) | (apply q_out <;> omega) | (apply q_nb; omega) | (apply q_n0 <;> omega)) only [M98_c, pk_mul, hnum, ec, ↓if_pos, ↓if_neg, nI_add, q_sub, q_cl, p_bnd_s, p_bnd_v])
      exact ih (j + 1) (by omega)
    · rw [H98_86]
      (conv => lhs; simp (disch := first | assumption | omega | (rw [nI_leI] <;> omega) | (rw [nI_ltI] <;> omega) | (rw [nI_eq] <;> omega) | (apply q_out <;> omega) | (apply q_nb; omega) | (apply q_n0 <;> omega)) only [M98_c, ↓if_pos, ↓if_neg, nI_add, q_sub, q_cl, p_bnd_s, p_bnd_v])
theorem ts_splits {w : pW} (hK : q_K n wv sp x w) (hC : q_DC n wv A) (hR : q_RR n sp A x) (h0 : ∀ j, j < n → ts_in 1000 (A (32 + j))) (h1 : 1 ≤ k) (h8 : k < 8) (hx : q_ex sp k = true) (hs : sp k = false) (h2 : 2 ≤ q_wd n k) (hv : wv < 3) :
    ∃ w' x', p_ev none 98 0 [.ref 0, .int (nI k), .int (nI wv), .ref 24, p_U, p_U] [] w = some (.inl (some (.int (nI 1))), w', 0) ∧ q_K n wv (q_st sp k true) x' w' ∧ q_RR n (q_st sp k true) A x' ∧ w'.2.2 23 = w.2.2 23 := by
  have hn := hK.2.1.n32
  have hw := q_wdle n k
  have hT := hK.2.1
  have hg := q_geo1 n hT.1 k h8 h1 h2
  obtain ⟨w1, x5, e1, K1, F1, G1⟩ := ts_sp1 (n := n) (k := k) h1 (by omega) hx hs hv (q_wd n k / 2) 0 w (by omega) hK (fun i hi => absurd hi (Nat.not_lt_zero i))
  obtain ⟨w2, e2, K2, F2⟩ := q_cSplit K1 h1 hx hs h8 h2
  have hR2 := q_RR_S (wv := wv) hC hT h1 h8 hx hs h2 hR
  change q_K n wv (q_st sp k true) (q_spl n wv k x) w2 at K2
  generalize q_spl n wv k x = x' at K2 hR2
  have hsz := q_cSizeOf hK (nI k)
  rw [q_nt_n (show k < 16 by omega), if_pos hx, if_neg (by rw [hs]; exact Bool.false_ne_true)] at hsz
  have k1 : q_st sp k true (2 * k) = false ∧ q_st sp k true (2 * k + 1) = false := by
    have key : ∀ i, 2 ≤ i → i / 2 = k → sp i = false := by
      intro i i2 ik
      cases z : sp i
      · rfl
      · have hi := hT.sp1 z
        have := hT.2.2.2.1 i i2 hi.2 z
        rw [ik, hs] at this
        exact absurd this Bool.false_ne_true
    exact ⟨by rw [q_st_n (by omega)]; exact key _ (by omega) (by omega), by rw [q_st_n (by omega)]; exact key _ (by omega) (by omega)⟩
  have x1 : q_ex (q_st sp k true) (2 * k) = true := by rw [q_ex_kid (k := k) (by omega) (by omega) (by omega), q_st_s]
  have x2 : q_ex (q_st sp k true) (2 * k + 1) = true := by rw [q_ex_kid (k := k) (by omega) (by omega) (by omega), q_st_s]
  have x0 : q_ex (q_st sp k true) k = true := by rw [q_ex_st (by omega)]; exact hx
  have l0 := q_cIsLeaf K2 (nI k)
  rw [q_nt_n (show k < 16 by omega), if_pos x0, q_st_s, show nI (!true).toNat = nI 0 from rfl] at l0
  have l1 := q_cIsLeaf K2 (nI (2 * k))
  rw [q_nt_n (show 2 * k < 16 by omega), if_pos x1, k1.1, show nI (!false).toNat = nI 1 from rfl] at l1
  have l2 := q_cIsLeaf K2 (nI (2 * k + 1))
  rw [q_nt_n (show 2 * k + 1 < 16 by omega), if_pos x2, k1.2, show nI (!false).toNat = nI 1 from rfl] at l2
  have hend := ts_sp2 (k := k) h1 h8 hv K2 x2 k1.2 hg.2.2.2.1 (fun hv2 i hi => by
    rw [F2.2.1 24 (by omega), F1 hv2 i hi, ts_high hT.1 hv2 hC h0 hR h1 h8 hx hs h2 hi]
    exact (hR2 (2 * k + 1) (by omega) x2 k1.2 i (by rw [hg.2.2.2.1]; exact hi)).symm) (q_wd n k / 2) 0 (by omega)
  have d1 : nI (q_wd n k) / nI 2 = nI (q_wd n k / 2) := q_div (by omega) (by omega) (by omega)
  refine ⟨w2, x', ?_, K2, hR2, by rw [F2.2.2 23 (by omega), G1]⟩
  have n1 : ¬ nI 1 = nI 0 := by decide
  (conv => lhs; simp (disch := first | assumption | omega | (rw [nI_leI] <;> omega) | (rw [nI_ltI] <;> omega) | (rw [nI_eq] <;> omega) | (apply q_out <;> omega) | (apply q_nb; omega) | (apply q_n0 <;> omega)) only [M98_a, hsz, d1, ↓if_pos, ↓if_neg, nI_add, q_sub, q_cl, p_bnd_s, p_bnd_v])
  rw [e1]
  (conv => lhs; simp (disch := first | assumption | omega | (rw [nI_leI] <;> omega) | (rw [nI_ltI] <;> omega) | (rw [nI_eq] <;> omega) | (apply q_out <;> omega) | (apply q_nb; omega) | (apply q_n0 <;> omega)) only [M98_b, e2, l0, l1, l2, pk_mul, ↓if_pos, ↓if_neg, nI_add, q_sub, q_cl, p_bnd_s, p_bnd_v])
  exact hend
end Sp
