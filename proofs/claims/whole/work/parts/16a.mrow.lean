/-! THE REFERENCE'S CODE: THE ROW IS LAID -/
section Mrw
variable {n wv : Nat} {sp : Nat → Bool} {x : Nat → Int64} {w : pW}
theorem q_mFill_l {fr nd : Nat} (hM : q_Mw n wv w) (hn : n ≤ 32) (hnd : nd < 16) (hf : fr + q_wd n nd ≤ 32) : ∀ (d k : Nat), k + d = q_wd n nd → p_ev none 142 2 [.ref 24, .int (nI fr), .int (nI nd), .int (nI k)] [] (w.1, q_r w.2.1 32 (fun j => if fr ≤ j ∧ j < fr + k then w.2.1 26 (32 * nd + (j - fr)) else w.2.1 32 j), w.2.2) = some (.inl (some (.int (nI (fr + q_wd n nd)))), (w.1, q_r w.2.1 32 (fun j => if fr ≤ j ∧ j < fr + q_wd n nd then w.2.1 26 (32 * nd + (j - fr)) else w.2.1 32 j), w.2.2), 0) := by
  have hMw : ∀ g, q_Mw n wv (w.1, q_r w.2.1 32 g, w.2.2) := fun g => ⟨hM.1, hM.2.1, hM.2.2.1, hM.2.2.2⟩
  have hw := q_wdle n nd
  intro d
  induction d with
  | zero =>
    intro k hk
    have e : k = q_wd n nd := by omega
    subst e
    rw [H142_2]
    (conv => lhs; simp (disch := first | assumption | omega | (rw [nI_leI] <;> omega) | (rw [nI_ltI] <;> omega) | (rw [nI_eq] <;> omega) | (apply q_out <;> omega) | (apply q_nb; omega) | (apply q_n0 <;> omega)) only [M142, q_sizeAt (hMw _), ↓if_pos, ↓if_neg, nI_add, q_sub, q_cl, p_bnd_s, p_bnd_v])
  | succ d ih =>
    intro k hk
    have i1 := ih (k + 1) (by omega)
    have e26 : ∀ g, q_r w.2.1 32 g 26 = w.2.1 26 := fun g => q_r_n (by decide)
    have e : (fun j => if fr ≤ j ∧ j < fr + (k + 1) then w.2.1 26 (32 * nd + (j - fr)) else w.2.1 32 j) = fun j => if j = fr + k then w.2.1 26 (32 * nd + k) else if fr ≤ j ∧ j < fr + k then w.2.1 26 (32 * nd + (j - fr)) else w.2.1 32 j := by
      funext j
      by_cases h1 : j = fr + k
      · rw [if_pos h1, if_pos (by omega), h1, show fr + k - fr = k by omega]
      · rw [if_neg h1]
        by_cases h2 : fr ≤ j ∧ j < fr + k
        · rw [if_pos h2, if_pos (by omega)]
        · rw [if_neg h2, if_neg (by omega)]
    rw [e] at i1
    rw [H142_2]
    (conv => lhs; simp (disch := first | assumption | omega | (rw [nI_leI] <;> omega) | (rw [nI_ltI] <;> omega) | (rw [nI_eq] <;> omega) | (apply q_out <;> omega) | (apply q_nb; omega) | (apply q_n0 <;> omega)) only [M142, q_sizeAt (hMw _), pk_mul, e26, q_pu, q_r_s, q_r_r, ↓if_pos, ↓if_neg, nI_add, q_sub, q_cl, p_bnd_s, p_bnd_v])
    exact i1
theorem q_mFill {fr nd : Nat} (hM : q_Mw n wv w) (hn : n ≤ 32) (hnd : nd < 16) (hf : fr + q_wd n nd ≤ 32) : p_ev none 142 0 [.ref 24, .int (nI fr), .int (nI nd), p_U] [] w = some (.inl (some (.int (nI (fr + q_wd n nd)))), (w.1, q_r w.2.1 32 (fun j => if fr ≤ j ∧ j < fr + q_wd n nd then w.2.1 26 (32 * nd + (j - fr)) else w.2.1 32 j), w.2.2), 0) := by
  have h := q_mFill_l hM hn hnd hf (q_wd n nd) 0 (by omega)
  have e : (fun j => if fr ≤ j ∧ j < fr + 0 then w.2.1 26 (32 * nd + (j - fr)) else w.2.1 32 j) = w.2.1 32 := by
    funext j; rw [if_neg (by omega)]
  rw [e, q_r_id] at h
  (conv => lhs; simp (disch := first | assumption | omega | (rw [nI_leI] <;> omega) | (rw [nI_ltI] <;> omega) | (rw [nI_eq] <;> omega) | (apply q_out <;> omega) | (apply q_nb; omega) | (apply q_n0 <;> omega)) only [M142, ↓if_pos, ↓if_neg, nI_add, q_sub, q_cl, p_bnd_s, p_bnd_v])
  exact h
/-- the row is laid: what else of the world is as it was -/
def q_kR (w w' : pW) : Prop := (∀ o j, ¬ (o = 24 ∧ (j = 18 ∨ j = 19)) → w'.1 o j = w.1 o j) ∧ (∀ b, b ≠ 32 → w'.2.1 b = w.2.1 b) ∧ ∀ b, b < 33 ∨ 36 < b → w'.2.2 b = w.2.2 b
theorem q_kR.rf : q_kR w w := ⟨fun _ _ _ => rfl, fun _ _ => rfl, fun _ _ => rfl⟩
theorem q_kR.tr {a b c : pW} (h : q_kR a b) (g : q_kR b c) : q_kR a c := ⟨fun o j ho => (g.1 o j ho).trans (h.1 o j ho), fun o h1 => (g.2.1 o h1).trans (h.2.1 o h1), fun o ho => (g.2.2 o ho).trans (h.2.2 o ho)⟩
theorem q_kR.M {a b : pW} (h : q_kR a b) (g : q_Mw n wv a) : q_Mw n wv b := ⟨by rw [h.1 24 2 (by omega)]; exact g.1, by rw [h.1 24 3 (by omega)]; exact g.2.1, g.2.2.1, g.2.2.2⟩
theorem q_kR.R {a b : pW} (h : q_kR a b) (g : q_R n wv sp x a) : q_R n wv sp x b := ⟨h.M g.1, g.2.1, fun i hi => by rw [h.2.2 25 (by omega)]; exact g.2.2.1 i hi, by rw [h.2.1 26 (by decide)]; exact g.2.2.2⟩
theorem q_kR.fm {a b : pW} (h : q_kR a b) : q_FM a b := ⟨fun o ho => funext fun j => h.1 o j (by omega), fun o ho => h.2.1 o (by omega), fun o ho => h.2.2 o (by omega)⟩
theorem q_kR.t4 {a b : pW} (h : q_kR a b) : b.1 24 4 = a.1 24 4 := h.1 24 4 (by omega)
theorem q_geo2 : ∀ n, (n = 4 ∨ n = 8 ∨ n = 16 ∨ n = 32) → ∀ d, d < 4 → 1 ≤ d → q_so n (2 ^ d + 1) = q_wd n (2 ^ d) ∨ q_wd n (2 ^ d) = 0 := by
  have key : ∀ n : Fin 4, ∀ d : Fin 4, d.val = 0 ∨ (q_so (4 * 2 ^ n.val) (2 ^ d.val + 1) = q_wd (4 * 2 ^ n.val) (2 ^ d.val) ∨ q_wd (4 * 2 ^ n.val) (2 ^ d.val) = 0) := by decide +kernel
  intro n hn d hd h1
  obtain ⟨m, rfl⟩ := q_nfin hn
  rcases key m ⟨d, hd⟩ with z | z
  · exact absurd z (by dsimp only; omega)
  · exact z
theorem q_mRow_l (hn : n ≤ 32) {x1 : Int32} (hpy : q_py sp = true) : ∀ (d : Nat) (w : pW), d < 4 → q_R n wv sp x w → (∀ e, e < d → sp (2 ^ e) = true) → (∀ j, j < q_wd n (2 ^ d) → w.2.1 32 j = x j) → ∃ g, p_ev none 143 33 [.ref 24, .int x1, .int (nI (q_wd n (2 ^ d))), .int (nI (2 ^ d))] [] w = some (.inl none, (w.1, q_r w.2.1 32 g, w.2.2), 0) ∧ ∀ j, j < n → g j = x j := by
  intro d
  induction d with
  | zero =>
    intro w hd hR hsp hrow
    refine ⟨w.2.1 32, ?_, fun j hj => hrow j (by rw [show q_wd n (2 ^ 0) = n from Nat.div_one n]; exact hj)⟩
    rw [Nat.pow_zero, H143_33]
    (conv => lhs; simp (disch := first | assumption | omega | (rw [nI_leI] <;> omega) | (rw [nI_ltI] <;> omega) | (rw [nI_eq] <;> omega) | (apply q_out <;> omega) | (apply q_nb; omega) | (apply q_n0 <;> omega)) only [M143, ↓if_pos, ↓if_neg, nI_add, q_sub, q_cl, p_bnd_s, p_bnd_v])
    rw [q_r_id]
  | succ d ih =>
    intro w hd hR hsp hrow
    have hT := hR.2.1
    have h16 : 2 ^ (d + 1) < 9 ∧ 2 ≤ 2 ^ (d + 1) ∧ 2 ^ (d + 1) / 2 = 2 ^ d ∧ (2 ^ (d + 1) + 1) / 2 = 2 ^ d ∧ 1 ≤ 2 ^ d ∧ 2 ^ d < 8 ∧ 2 * 2 ^ d = 2 ^ (d + 1) := by
      have : d = 0 ∨ d = 1 ∨ d = 2 := by omega
      rcases this with rfl | rfl | rfl <;> decide
    have hspd := hsp d (by omega)
    have h2 := hT.2.2.2.2 (2 ^ d) h16.2.2.2.2.1 h16.2.2.2.2.2.1 hspd
    have hg := q_geo1 n hT.1 (2 ^ d) h16.2.2.2.2.2.1 h16.2.2.2.2.1 h2
    rw [h16.2.2.2.2.2.2] at hg
    have hx : q_ex sp (2 ^ (d + 1) + 1) = true := by rw [q_ex_kid (k := 2 ^ d) (by omega) (by omega) h16.2.2.2.1]; exact hspd
    have hl : sp (2 ^ (d + 1) + 1) = false := by
      unfold q_py at hpy
      rw [Bool.and_eq_true, Bool.and_eq_true] at hpy
      have : d = 0 ∨ d = 1 ∨ d = 2 := by omega
      rcases this with rfl | rfl | rfl
      · have := hpy.1.1; cases z : sp 3; rfl; rw [z] at this; exact absurd this (by decide)
      · have := hpy.1.2; cases z : sp 5; rfl; rw [z] at this; exact absurd this (by decide)
      · exact hT.2.2.1 9 (by omega)
    have hs0 : q_so n (2 ^ d) = 0 := by
      unfold q_so
      have : d = 0 ∨ d = 1 ∨ d = 2 := by omega
      rcases this with rfl | rfl | rfl
      · rw [show 2 ^ 0 - 2 ^ q_lv (2 ^ 0) = 0 from rfl, Nat.zero_mul]
      · rw [show 2 ^ 1 - 2 ^ q_lv (2 ^ 1) = 0 from rfl, Nat.zero_mul]
      · rw [show 2 ^ 2 - 2 ^ q_lv (2 ^ 2) = 0 from rfl, Nat.zero_mul]
    have hso : q_so n (2 ^ (d + 1) + 1) = q_wd n (2 ^ (d + 1)) := by rw [hg.2.1, hg.2.2.1, hs0, Nat.zero_add]
    have hwn := q_wdle n (2 ^ d)
    have hsum : q_wd n (2 ^ (d + 1)) + q_wd n (2 ^ (d + 1) + 1) = q_wd n (2 ^ d) := by rw [hg.2.2.1, hg.2.2.2.1]; omega
    have hF := q_mFill (w := w) (fr := q_wd n (2 ^ (d + 1))) (nd := 2 ^ (d + 1) + 1) hR.1 hn (by omega) (by omega)
    rw [hsum] at hF
    have hkR : ∀ g, q_kR w (w.1, q_r w.2.1 32 g, w.2.2) := fun g => ⟨fun _ _ _ => rfl, fun b hb => q_r_n hb, fun _ _ => rfl⟩
    obtain ⟨g, c1, c2⟩ := ih (w.1, q_r w.2.1 32 (fun j => if q_wd n (2 ^ (d + 1)) ≤ j ∧ j < q_wd n (2 ^ d) then w.2.1 26 (32 * (2 ^ (d + 1) + 1) + (j - q_wd n (2 ^ (d + 1)))) else w.2.1 32 j), w.2.2) (by omega) ((hkR _).R hR) (fun e he => hsp e (by omega)) (fun j hj => by
      dsimp only
      rw [q_r_s]
      by_cases hj2 : q_wd n (2 ^ (d + 1)) ≤ j ∧ j < q_wd n (2 ^ d)
      · rw [if_pos hj2, hR.2.2.2 (2 ^ (d + 1) + 1) (by omega) hx hl (j - q_wd n (2 ^ (d + 1))) (by omega), hso]
        exact congrArg x (by omega)
      · rw [if_neg hj2]; exact hrow j (by omega))
    simp only [q_r_r] at c1
    refine ⟨g, ?_, c2⟩
    have hdv : nI (2 ^ (d + 1)) / nI 2 = nI (2 ^ d) := by rw [q_div (by omega) (by omega) (by omega), h16.2.2.1]
    have h20 : ¬ nI 2 = 0 := by decide
    rw [H143_33]
    (conv => lhs; simp (disch := first | assumption | omega | (rw [nI_leI] <;> omega) | (rw [nI_ltI] <;> omega) | (rw [nI_eq] <;> omega) | (apply q_out <;> omega) | (apply q_nb; omega) | (apply q_n0 <;> omega)) only [M143, hF, hdv, ↓if_pos, ↓if_neg, nI_add, q_sub, q_cl, p_bnd_s, p_bnd_v])
    exact c1
theorem q_mRow_w (hM : q_Mk sp w) (hT : q_T n sp) : p_ev none 143 2 [.ref 24, .int (nI 1), p_U, p_U] [] w = p_ev none 143 19 [.ref 24, .int (nI (q_lw sp)), p_U, p_U] [] w := by
  have h1 := hM 1 (by omega); have h2 := hM 2 (by omega); have h4 := hM 4 (by omega); have h8 := hM 8 (by omega)
  have z : ∀ i, sp i = false → ¬ nI (q_kd sp i) = nI 2 := fun i hi y => by have := q_kd_2.mp y; rw [hi] at this; exact Bool.false_ne_true this
  have p : ∀ i, sp i = true → ¬ ¬ nI (q_kd sp i) = nI 2 := fun i hi y => y (q_kd_2.mpr hi)
  have z8 := z 8 (hT.2.2.1 8 (by omega))
  unfold q_lw
  cases s1 : sp 1
  · have z1 := z 1 s1
    rw [if_neg Bool.false_ne_true, H143_2]
    (conv => lhs; simp (disch := first | assumption | omega | (rw [nI_leI] <;> omega) | (rw [nI_ltI] <;> omega) | (rw [nI_eq] <;> omega) | (apply q_out <;> omega) | (apply q_nb; omega) | (apply q_n0 <;> omega)) only [M143, h1, ↓if_pos, ↓if_neg, nI_add, q_sub, q_cl, p_bnd_s, p_bnd_v])
    (conv => rhs; simp (disch := first | assumption | omega | (rw [nI_leI] <;> omega) | (rw [nI_ltI] <;> omega) | (rw [nI_eq] <;> omega) | (apply q_out <;> omega) | (apply q_nb; omega) | (apply q_n0 <;> omega)) only [M143, ↓if_pos, ↓if_neg, nI_add, q_sub, q_cl, p_bnd_s, p_bnd_v])
  · have p1 := p 1 s1
    rw [if_pos rfl, H143_2]
    cases s2 : sp 2
    · have z2 := z 2 s2
      rw [if_neg Bool.false_ne_true]
      (conv => lhs; simp (disch := first | assumption | omega | (rw [nI_leI] <;> omega) | (rw [nI_ltI] <;> omega) | (rw [nI_eq] <;> omega) | (apply q_out <;> omega) | (apply q_nb; omega) | (apply q_n0 <;> omega)) only [M143, h1, pk_mul, ↓if_pos, ↓if_neg, nI_add, q_sub, q_cl, p_bnd_s, p_bnd_v])
      rw [H143_2]
      (conv => lhs; simp (disch := first | assumption | omega | (rw [nI_leI] <;> omega) | (rw [nI_ltI] <;> omega) | (rw [nI_eq] <;> omega) | (apply q_out <;> omega) | (apply q_nb; omega) | (apply q_n0 <;> omega)) only [M143, h2, ↓if_pos, ↓if_neg, nI_add, q_sub, q_cl, p_bnd_s, p_bnd_v])
      (conv => rhs; simp (disch := first | assumption | omega | (rw [nI_leI] <;> omega) | (rw [nI_ltI] <;> omega) | (rw [nI_eq] <;> omega) | (apply q_out <;> omega) | (apply q_nb; omega) | (apply q_n0 <;> omega)) only [M143, ↓if_pos, ↓if_neg, nI_add, q_sub, q_cl, p_bnd_s, p_bnd_v])
    · have p2 := p 2 s2
      rw [if_pos rfl]
      (conv => lhs; simp (disch := first | assumption | omega | (rw [nI_leI] <;> omega) | (rw [nI_ltI] <;> omega) | (rw [nI_eq] <;> omega) | (apply q_out <;> omega) | (apply q_nb; omega) | (apply q_n0 <;> omega)) only [M143, h1, pk_mul, ↓if_pos, ↓if_neg, nI_add, q_sub, q_cl, p_bnd_s, p_bnd_v])
      rw [H143_2]
      cases s4 : sp 4
      · have z4 := z 4 s4
        rw [if_neg Bool.false_ne_true]
        (conv => lhs; simp (disch := first | assumption | omega | (rw [nI_leI] <;> omega) | (rw [nI_ltI] <;> omega) | (rw [nI_eq] <;> omega) | (apply q_out <;> omega) | (apply q_nb; omega) | (apply q_n0 <;> omega)) only [M143, h2, pk_mul, ↓if_pos, ↓if_neg, nI_add, q_sub, q_cl, p_bnd_s, p_bnd_v])
        rw [H143_2]
        (conv => lhs; simp (disch := first | assumption | omega | (rw [nI_leI] <;> omega) | (rw [nI_ltI] <;> omega) | (rw [nI_eq] <;> omega) | (apply q_out <;> omega) | (apply q_nb; omega) | (apply q_n0 <;> omega)) only [M143, h4, ↓if_pos, ↓if_neg, nI_add, q_sub, q_cl, p_bnd_s, p_bnd_v])
        (conv => rhs; simp (disch := first | assumption | omega | (rw [nI_leI] <;> omega) | (rw [nI_ltI] <;> omega) | (rw [nI_eq] <;> omega) | (apply q_out <;> omega) | (apply q_nb; omega) | (apply q_n0 <;> omega)) only [M143, ↓if_pos, ↓if_neg, nI_add, q_sub, q_cl, p_bnd_s, p_bnd_v])
      · have p4 := p 4 s4
        rw [if_pos rfl]
        (conv => lhs; simp (disch := first | assumption | omega | (rw [nI_leI] <;> omega) | (rw [nI_ltI] <;> omega) | (rw [nI_eq] <;> omega) | (apply q_out <;> omega) | (apply q_nb; omega) | (apply q_n0 <;> omega)) only [M143, h2, pk_mul, ↓if_pos, ↓if_neg, nI_add, q_sub, q_cl, p_bnd_s, p_bnd_v])
        rw [H143_2]
        (conv => lhs; simp (disch := first | assumption | omega | (rw [nI_leI] <;> omega) | (rw [nI_ltI] <;> omega) | (rw [nI_eq] <;> omega) | (apply q_out <;> omega) | (apply q_nb; omega) | (apply q_n0 <;> omega)) only [M143, h4, pk_mul, ↓if_pos, ↓if_neg, nI_add, q_sub, q_cl, p_bnd_s, p_bnd_v])
        rw [H143_2]
        (conv => lhs; simp (disch := first | assumption | omega | (rw [nI_leI] <;> omega) | (rw [nI_ltI] <;> omega) | (rw [nI_eq] <;> omega) | (apply q_out <;> omega) | (apply q_nb; omega) | (apply q_n0 <;> omega)) only [M143, h8, ↓if_pos, ↓if_neg, nI_add, q_sub, q_cl, p_bnd_s, p_bnd_v])
        (conv => rhs; simp (disch := first | assumption | omega | (rw [nI_leI] <;> omega) | (rw [nI_ltI] <;> omega) | (rw [nI_eq] <;> omega) | (apply q_out <;> omega) | (apply q_nb; omega) | (apply q_n0 <;> omega)) only [M143, ↓if_pos, ↓if_neg, nI_add, q_sub, q_cl, p_bnd_s, p_bnd_v])
end Mrw
