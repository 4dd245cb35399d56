/-! THE REFERENCE LAYS WHAT IT HAS LEARNT BACK -/
def q_pchk (n : Nat) (sp : Nat → Bool) : Bool := !(q_py sp) || ((List.range 16).all fun i => !(q_ex sp i) || sp i || decide (i = q_lw sp) || (decide (i = 3) && sp 1) || (decide (i = 5) && sp 2) || (decide (i = 9) && sp 4))
section Mbk
variable {n wv : Nat} {sp : Nat → Bool} {x : Nat → Int64} {w : pW}
theorem q_py_leaf (hT : q_T n sp) (hpy : q_py sp = true) : ∀ i, i < 16 → q_ex sp i = true → sp i = false → i = q_lw sp ∨ (i = 3 ∧ sp 1 = true) ∨ (i = 5 ∧ sp 2 = true) ∨ (i = 9 ∧ sp 4 = true) := by
  obtain ⟨b, h1, h2, h3⟩ := q_T_bits hT
  have key : ∀ k : Fin 4, ((List.range 256).all fun b => !(q_Tb (4 * 2 ^ k.val) (q_bs b)) || q_pchk (4 * 2 ^ k.val) (q_bs b)) = true := by decide +kernel
  obtain ⟨k, hk⟩ := q_nfin hT.1
  have h4 := List.all_eq_true.mp (key k) b (List.mem_range.mpr h1)
  rw [← hk, h3, ← h2] at h4
  have h5 : q_pchk n sp = true := by simpa using h4
  unfold q_pchk at h5
  rw [hpy] at h5
  intro i hi ei li
  have h6 : ((List.range 16).all fun i => !(q_ex sp i) || sp i || decide (i = q_lw sp) || (decide (i = 3) && sp 1) || (decide (i = 5) && sp 2) || (decide (i = 9) && sp 4)) = true := by simpa using h5
  have h7 := List.all_eq_true.mp h6 i (List.mem_range.mpr hi)
  rw [ei, li] at h7
  simp only [Bool.not_true, Bool.false_or, Bool.or_eq_true, Bool.and_eq_true, decide_eq_true_eq] at h7
  rcases h7 with ((z | z) | z) | z
  · exact Or.inl z
  · exact Or.inr (Or.inl z)
  · exact Or.inr (Or.inr (Or.inl z))
  · exact Or.inr (Or.inr (Or.inr z))
/-- the leaves from depth d on are poured -/
def q_bP (n : Nat) (sp : Nat → Bool) (D d : Nat) (A T : Nat → Int64) : Prop := (∀ k, k < q_wd n (2 ^ D) → A (32 * 2 ^ D + k) = T k) ∧ ∀ e, d < e → e ≤ D → ∀ k, k < q_wd n (2 ^ e + 1) → A (32 * (2 ^ e + 1) + k) = T (q_wd n (2 ^ e) + k)
theorem q_mBack_l {D : Nat} (hD : D < 4) (hsp : ∀ e, e < D → sp (2 ^ e) = true) {st : Nat → q_ls} (hd : ∀ j, j < n → (st j).2.1 ≤ 65) : ∀ (d : Nat) (w : pW), d ≤ D → q_R n wv sp x w → q_St n st w → q_bP n sp D d (w.2.1 29) (fun j => q_bk (st j)) → ∃ g, p_ev none 154 15 [.ref 24, .int (nI (q_wd n (2 ^ d))), .int (nI (2 ^ d))] [] w = p_ev none 154 36 [.ref 24, .int (nI n), .int (nI 1)] [] (w.1, q_r w.2.1 29 g, w.2.2) ∧ q_bP n sp D 0 g (fun j => q_bk (st j)) := by
  intro d
  induction d with
  | zero =>
    intro w hdD hR hst hP
    refine ⟨w.2.1 29, ?_, hP⟩
    rw [Nat.pow_zero, show q_wd n 1 = n from Nat.div_one n, q_r_id, H154_15]
    (conv => lhs; simp (disch := first | assumption | omega | (rw [nI_leI] <;> omega) | (rw [nI_ltI] <;> omega) | (rw [nI_eq] <;> omega) | (apply q_out <;> omega) | (apply q_nb; omega) | (apply q_n0 <;> omega)) only [M154, ↓if_pos, ↓if_neg, nI_add, q_sub, q_cl, p_bnd_s, p_bnd_v])
    (conv => rhs; simp (disch := first | assumption | omega | (rw [nI_leI] <;> omega) | (rw [nI_ltI] <;> omega) | (rw [nI_eq] <;> omega) | (apply q_out <;> omega) | (apply q_nb; omega) | (apply q_n0 <;> omega)) only [M154, ↓if_pos, ↓if_neg, nI_add, q_sub, q_cl, p_bnd_s, p_bnd_v])
  | succ d ih =>
    intro w hdD hR hst hP
    have hT := hR.2.1
    have hn := hT.n32
    have h16 : 2 ^ (d + 1) < 9 ∧ 2 ≤ 2 ^ (d + 1) ∧ 2 ^ (d + 1) / 2 = 2 ^ d ∧ (2 ^ (d + 1) + 1) / 2 = 2 ^ d ∧ 1 ≤ 2 ^ d ∧ 2 ^ d < 8 ∧ 2 * 2 ^ d = 2 ^ (d + 1) := by
      have : d = 0 ∨ d = 1 ∨ d = 2 := by omega
      rcases this with rfl | rfl | rfl <;> decide
    have hspd := hsp d (by omega)
    have h2 := hT.2.2.2.2 (2 ^ d) h16.2.2.2.2.1 h16.2.2.2.2.2.1 hspd
    have hg := q_geo1 n hT.1 (2 ^ d) h16.2.2.2.2.2.1 h16.2.2.2.2.1 h2
    rw [h16.2.2.2.2.2.2] at hg
    have hwn := q_wdle n (2 ^ d)
    have hsum : q_wd n (2 ^ (d + 1)) + q_wd n (2 ^ (d + 1) + 1) = q_wd n (2 ^ d) := by rw [hg.2.2.1, hg.2.2.2.1]; omega
    have hF := q_mPour (w := w) (fr := q_wd n (2 ^ (d + 1))) (nd := 2 ^ (d + 1) + 1) hR.1 hn (by omega) (by omega) hst hd
    rw [hsum] at hF
    have hpow : ∀ e, d + 1 < e → e < 4 → 2 ^ (d + 1) + 1 < 2 ^ e + 1 := fun e h1 _ => by
      have := Nat.pow_lt_pow_right (show 1 < 2 by decide) h1; omega
    have hwle : ∀ i, q_wd n i ≤ n := fun i => q_wdle n i
    have hPn : ∀ A', (∀ j, A' j = if 32 * (2 ^ (d + 1) + 1) ≤ j ∧ j < 32 * (2 ^ (d + 1) + 1) + q_wd n (2 ^ (d + 1) + 1) then q_bk (st (q_wd n (2 ^ (d + 1)) + (j - 32 * (2 ^ (d + 1) + 1)))) else w.2.1 29 j) → q_bP n sp D d A' (fun j => q_bk (st j)) := by
      intro A' hA
      refine ⟨fun k hk => ?_, fun e e1 e2 k hk => ?_⟩
      · have hne : 2 ^ D ≠ 2 ^ (d + 1) + 1 := by
          have : D = 0 ∨ D = 1 ∨ D = 2 ∨ D = 3 := by omega
          have : d = 0 ∨ d = 1 ∨ d = 2 := by omega
          rcases ‹D = 0 ∨ D = 1 ∨ D = 2 ∨ D = 3› with rfl | rfl | rfl | rfl <;> rcases ‹d = 0 ∨ d = 1 ∨ d = 2› with rfl | rfl | rfl <;> decide
        have := hwle (2 ^ D)
        have := hwle (2 ^ (d + 1) + 1)
        rw [hA, if_neg (by omega)]
        exact hP.1 k hk
      · by_cases he : e = d + 1
        · subst he
          rw [hA, if_pos (by omega), show 32 * (2 ^ (d + 1) + 1) + k - 32 * (2 ^ (d + 1) + 1) = k by omega]
        · have := hpow e (by omega) (by omega)
          have := hwle (2 ^ e + 1)
          have := hwle (2 ^ (d + 1) + 1)
          rw [hA, if_neg (by omega)]
          exact hP.2 e (by omega) e2 k hk
    have hkJ : ∀ g, q_kJ w (w.1, q_r w.2.1 29 g, w.2.2) [27, 28, 29] := fun g => ⟨rfl, rfl, fun b hb => q_r_n (by simp at hb; omega)⟩
    obtain ⟨g, c1, c2⟩ := ih (w.1, q_r w.2.1 29 (fun j => if 32 * (2 ^ (d + 1) + 1) ≤ j ∧ j < 32 * (2 ^ (d + 1) + 1) + q_wd n (2 ^ (d + 1) + 1) then q_bk (st (q_wd n (2 ^ (d + 1)) + (j - 32 * (2 ^ (d + 1) + 1)))) else w.2.1 29 j), w.2.2) (by omega) (hR.kj (hkJ _) (by simp)) (fun j hj => by dsimp only; rw [q_r_n (by decide)]; exact hst j hj) (hPn _ (fun j => by dsimp only; rw [q_r_s]))
    simp only [q_r_r] at c1
    refine ⟨g, ?_, c2⟩
    have hdv : nI (2 ^ (d + 1)) / nI 2 = nI (2 ^ d) := by rw [q_div (by omega) (by omega) (by omega), h16.2.2.1]
    have h20 : ¬ nI 2 = 0 := by decide
    rw [H154_15]
    (conv => lhs; simp (disch := first | assumption | omega | (rw [nI_leI] <;> omega) | (rw [nI_ltI] <;> omega) | (rw [nI_eq] <;> omega) | (apply q_out <;> omega) | (apply q_nb; omega) | (apply q_n0 <;> omega)) only [M154, hF, hdv, ↓if_pos, ↓if_neg, nI_add, q_sub, q_cl, p_bnd_s, p_bnd_v])
    exact c1
theorem q_mLayBack (h : q_R n wv sp x w) (hpy : q_py sp = true) (h19 : w.1 24 19 = nI (q_lw sp)) {st : Nat → q_ls} (hst : q_St n st w) (hd : ∀ j, j < n → (st j).2.1 ≤ 65) : ∃ w', p_ev none 154 0 [.ref 24, p_U, p_U] [] w = some (.inl none, w', 0) ∧ q_kJ w w' [27, 28, 29] ∧ ∀ j, j < n → w'.2.1 29 (32 + j) = q_un n wv sp 1 7 (fun j => q_bk (st j)) j := by
  have hT := h.2.1
  have hn := hT.n32
  obtain ⟨D, hD, hL, hsp, hsl⟩ := q_lw_d hT
  have hlw := q_lw_wd hT
  have hlb := q_lw_b (sp := sp)
  have h29 : p_lg 29 := rfl
  have hF := q_mPour (w := w) (fr := 0) (nd := q_lw sp) h.1 hn hlb.2 (by omega) hst hd
  rw [Nat.zero_add] at hF
  rw [hL] at hF hlw hlb h19
  have hkJ : ∀ g, q_kJ w (w.1, q_r w.2.1 29 g, w.2.2) [27, 28, 29] := fun g => ⟨rfl, rfl, fun b hb => q_r_n (by simp at hb; omega)⟩
  obtain ⟨g, c1, c2⟩ := q_mBack_l (wv := wv) (x := x) hD hsp hd D (w.1, q_r w.2.1 29 (fun j => if 32 * 2 ^ D ≤ j ∧ j < 32 * 2 ^ D + q_wd n (2 ^ D) then q_bk (st (0 + (j - 32 * 2 ^ D))) else w.2.1 29 j), w.2.2) (Nat.le_refl _) (h.kj (hkJ _) (by simp)) (fun j hj => by dsimp only; rw [q_r_n (by decide)]; exact hst j hj) ⟨fun k hk => by
    dsimp only
    rw [q_r_s, if_pos (by omega), show 0 + (32 * 2 ^ D + k - 32 * 2 ^ D) = k by omega], fun e e1 e2 => by omega⟩
  simp only [q_r_r] at c1
  have hRR : q_RR n sp g (fun j => q_bk (st j)) := by
    intro i hi ei li k hk
    rcases q_py_leaf hT hpy i hi ei li with z | ⟨z, y⟩ | ⟨z, y⟩ | ⟨z, y⟩
    · rw [hL] at z
      subst z
      rw [q_so_pow hD, Nat.zero_add]
      exact c2.1 k hk
    · subst z
      have hd1 : 1 ≤ D := by
        rcases Nat.eq_zero_or_pos D with v | v
        · rw [v] at hsl; rw [show 2 ^ 0 = 1 from rfl, y] at hsl; exact absurd hsl.symm Bool.false_ne_true
        · exact v
      have := c2.2 1 (by omega) hd1 k hk
      rcases q_geo2 n hT.1 1 (by omega) (by omega) with v | v
      · rw [show (3 : Nat) = 2 ^ 1 + 1 from rfl, v]; exact this
      · exfalso
        have h2 := hT.2.2.2.2 1 (by omega) (by omega) y
        have hg := q_geo1 n hT.1 1 (by omega) (by omega) h2
        rw [show 2 * 1 = 2 ^ 1 from rfl, v] at hg; omega
    · subst z
      have s1 := hT.2.2.2.1 2 (by omega) (by omega) y
      have hd1 : 2 ≤ D := by
        have hne : D ≠ 0 ∧ D ≠ 1 := ⟨fun v => by rw [v, show 2 ^ 0 = 1 from rfl, s1] at hsl; exact Bool.false_ne_true hsl.symm, fun v => by rw [v, show 2 ^ 1 = 2 from rfl, y] at hsl; exact Bool.false_ne_true hsl.symm⟩
        omega
      have := c2.2 2 (by omega) hd1 k hk
      rcases q_geo2 n hT.1 2 (by omega) (by omega) with v | v
      · rw [show (5 : Nat) = 2 ^ 2 + 1 from rfl, v]; exact this
      · exfalso
        have h2 := hT.2.2.2.2 2 (by omega) (by omega) y
        have hg := q_geo1 n hT.1 2 (by omega) (by omega) h2
        rw [show 2 * 2 = 2 ^ 2 from rfl, v] at hg; omega
    · subst z
      have s2 := hT.2.2.2.1 4 (by omega) (by omega) y
      have s1 := hT.2.2.2.1 2 (by omega) (by omega) s2
      have hd1 : 3 ≤ D := by
        have hne : D ≠ 0 ∧ D ≠ 1 ∧ D ≠ 2 := ⟨fun v => by rw [v, show 2 ^ 0 = 1 from rfl, s1] at hsl; exact Bool.false_ne_true hsl.symm, fun v => by rw [v, show 2 ^ 1 = 2 from rfl, s2] at hsl; exact Bool.false_ne_true hsl.symm, fun v => by rw [v, show 2 ^ 2 = 4 from rfl, y] at hsl; exact Bool.false_ne_true hsl.symm⟩
        omega
      have := c2.2 3 (by omega) hd1 k hk
      rcases q_geo2 n hT.1 3 (by omega) (by omega) with v | v
      · rw [show (9 : Nat) = 2 ^ 3 + 1 from rfl, v]; exact this
      · exfalso
        have h2 := hT.2.2.2.2 4 (by omega) (by omega) y
        have hg := q_geo1 n hT.1 4 (by omega) (by omega) h2
        rw [show 2 * 4 = 2 ^ 3 from rfl, v] at hg; omega
  have hRw : q_R n wv sp x (w.1, q_r w.2.1 29 g, w.2.2) := h.kj (hkJ g) (by simp)
  obtain ⟨w', d1, d2, d3⟩ := q_mJoinAll (a := 29) h29 (by decide) (by decide) hT hRw.1 hRw.2.2.1 (y := fun j => q_bk (st j)) (by dsimp only; rw [q_r_s]; exact hRR)
  refine ⟨w', ?_, ((hkJ g).tr d2).mono (fun b hb => by simp at hb ⊢; omega), d3⟩
  (conv => lhs; simp (disch := first | assumption | omega | (rw [nI_leI] <;> omega) | (rw [nI_ltI] <;> omega) | (rw [nI_eq] <;> omega) | (apply q_out <;> omega) | (apply q_nb; omega) | (apply q_n0 <;> omega)) only [M154, h19, hF, ↓if_pos, ↓if_neg, nI_add, q_sub, q_cl, p_bnd_s, p_bnd_v])
  rw [c1]
  (conv => lhs; simp (disch := first | assumption | omega | (rw [nI_leI] <;> omega) | (rw [nI_ltI] <;> omega) | (rw [nI_eq] <;> omega) | (apply q_out <;> omega) | (apply q_nb; omega) | (apply q_n0 <;> omega)) only [M154, d1, ↓if_pos, ↓if_neg, nI_add, q_sub, q_cl, p_bnd_s, p_bnd_v])
end Mbk
