/-! THE REFERENCE'S CODE IS LAID -/
theorem q_dgl_mono {a b : Nat} (hb : b < 2 ^ 63) (hab : a ≤ b) : ∀ (r d : Nat), d + r = 63 → q_dgl (lN a) r d ≤ q_dgl (lN b) r d ∧ d ≤ q_dgl (lN b) r d
  | 0, d, _ => ⟨Nat.le_refl _, Nat.le_refl _⟩
  | r + 1, d, h => by
    have ih := q_dgl_mono hb hab r (d + 1) (by omega)
    rw [q_dgl, q_dgl, q_shN (show a < 2 ^ 63 by omega) (by omega), q_shN hb (by omega)]
    have hm : a / 2 ^ d ≤ b / 2 ^ d := Nat.div_le_div_right hab
    have ha1 : a / 2 ^ d ≤ a := Nat.div_le_self _ _
    have hb1 : b / 2 ^ d ≤ b := Nat.div_le_self _ _
    by_cases hz : lN (b / 2 ^ d) = lN 0
    · have hz2 := (pk_lEQ (show b / 2 ^ d < 2 ^ 63 by exact Nat.lt_of_le_of_lt hb1 hb) (by omega)).mp hz
      have hz3 : a / 2 ^ d = 0 := Nat.le_zero.mp (by rw [← hz2]; exact hm)
      rw [if_pos hz, if_pos (by rw [hz3])]
      exact ⟨Nat.le_refl _, Nat.le_refl _⟩
    · rw [if_neg hz]
      refine ⟨?_, by omega⟩
      by_cases hy : lN (a / 2 ^ d) = lN 0
      · rw [if_pos hy]; omega
      · rw [if_neg hy]; exact ih.1
theorem q_dg_mono {a b : Nat} (hb : b < 2 ^ 63) (hab : a ≤ b) : q_dg (lN a) ≤ q_dg (lN b) := (q_dgl_mono hb hab 63 0 rfl).1
theorem q_mx_N {n : Nat} {x : Nat → Int64} (h : q_ns n x) : ∀ k, k ≤ n → ∃ c, c < 2 ^ 63 ∧ q_mx x k = lN c
  | 0, _ => ⟨0, by decide, rfl⟩
  | k + 1, hk => by
    obtain ⟨c, h1, h2⟩ := q_mx_N h k (by omega)
    obtain ⟨a, h3, h4⟩ := q_nm_of (h k (by omega))
    exact ⟨max c a, by omega, by rw [q_mx, h2, h4, q_maxN h1 h3]⟩
theorem q_dg_mx {n : Nat} {x : Nat → Int64} (h : q_ns n x) {k : Nat} (hk : k < n) : q_dg (q_mx x (k + 1)) = if q_dg (q_mx x k) < q_dg (p_abs (x k)) then q_dg (p_abs (x k)) else q_dg (q_mx x k) := by
  obtain ⟨c, h1, h2⟩ := q_mx_N h k (by omega)
  obtain ⟨a, h3, h4⟩ := q_nm_of (h k hk)
  rw [q_mx, h2, h4, q_maxN h1 h3]
  rcases Nat.le_total a c with z | z
  · have := q_dg_mono h1 z
    rw [Nat.max_eq_left z, if_neg (by omega)]
  · have := q_dg_mono h3 z
    rw [Nat.max_eq_right z]
    split
    · rfl
    · omega
section Mco
variable {n wv : Nat} {sp : Nat → Bool} {x R0 : Nat → Int64} {w : pW}
theorem q_mPass1 {lo pl : Nat} {E : List q_ev} (hn : n ≤ 32) (hlo : 1 ≤ lo) (hl2 : lo < 2 ^ 20) (hpl : pl < 63) (hns : q_ns n x) (hM : q_Mw n wv w) (hx : w.2.1 32 = x) (hE : q_mE E w) (hl : (E ++ q_f2 n lo x (q_rd lo n (q_ab x R0 n)) pl 0 n).length ≤ 4038) : ∃ w', p_ev none 148 0 [.ref 24, .int (nI pl), .int (nI lo), p_U, p_U, p_U, p_U, p_U] [] w = some (.inl none, w', 0) ∧ q_mE (E ++ q_f2 n lo x (q_rd lo n (q_ab x R0 n)) pl 0 n) w' ∧ q_kP w w' := by
  have h0 := q_mOut0 (x1 := nI pl) (x2 := nI lo) hM hn n 0 w (by omega) hM
  obtain ⟨w', c1, c2, c3⟩ := q_mPass1_l (R0 := R0) hn hlo hl2 hpl hns n 0 (w.1, w.2.1, q_r w.2.2 33 (fun j => if 0 ≤ j ∧ j < n then nI 0 else w.2.2 33 j)) E p_U p_U p_U (by omega) (q_out_kP.M hM) hx (q_mE_out hE) hl (fun j j1 j2 => by
    dsimp only
    rw [q_r_s, if_pos ⟨j1, j2⟩]; rfl)
  refine ⟨w', ?_, c2, q_out_kP.tr c3⟩
  (conv => lhs; simp (disch := first | assumption | omega | (rw [nI_leI] <;> omega) | (rw [nI_ltI] <;> omega) | (rw [nI_eq] <;> omega) | (apply q_out <;> omega) | (apply q_nb; omega) | (apply q_n0 <;> omega)) only [M148, ↓if_pos, ↓if_neg, nI_add, q_sub, q_cl, p_bnd_s, p_bnd_v])
  rw [h0]
  exact c1
theorem q_mPl_l (hn : n ≤ 32) (hns : q_ns n (w.2.1 32)) (hM : q_Mw n wv w) {x1 : Int32} : ∀ (d k : Nat), k + d = n → p_ev none 149 17 [.ref 24, .int x1, .int (nI (q_dg (q_mx (w.2.1 32) k))), .int (nI k), p_U, p_U, p_U] [] w = p_ev none 149 65 [.ref 24, .int x1, .int (nI (q_dg (q_mx (w.2.1 32) n))), .int (nI 5), p_U, p_U, p_U] [] (p_u w.1 24 18 (nI 0), w.2) := by
  intro d
  induction d with
  | zero =>
    intro k hk
    have e : k = n := by omega
    subst e
    rw [H149_17]
    (conv => lhs; simp (disch := first | assumption | omega | (rw [nI_leI] <;> omega) | (rw [nI_ltI] <;> omega) | (rw [nI_eq] <;> omega) | (apply q_out <;> omega) | (apply q_nb; omega) | (apply q_n0 <;> omega)) only [M149, hM.1, ↓if_pos, ↓if_neg, nI_add, q_sub, q_cl, p_bnd_s, p_bnd_v])
  | succ d ih =>
    intro k hk
    have i1 := ih (k + 1) (by omega)
    have hD := q_mDigits (w := w) (hns k (by omega))
    have l1 := q_dg_le (x := p_abs (w.2.1 32 k))
    have l2 := q_dg_le (x := q_mx (w.2.1 32) k)
    rw [q_dg_mx hns (by omega)] at i1
    rw [H149_17]
    by_cases hlt : q_dg (q_mx (w.2.1 32) k) < q_dg (p_abs (w.2.1 32 k))
    · rw [if_pos hlt] at i1
      (conv => lhs; simp (disch := first | assumption | omega | (rw [nI_leI] <;> omega) | (rw [nI_ltI] <;> omega) | (rw [nI_eq] <;> omega) | (apply q_out <;> omega) | (apply q_nb; omega) | (apply q_n0 <;> omega)) only [M149, hM.1, hD, ↓if_pos, ↓if_neg, nI_add, q_sub, q_cl, p_bnd_s, p_bnd_v])
      exact i1
    · rw [if_neg hlt] at i1
      (conv => lhs; simp (disch := first | assumption | omega | (rw [nI_leI] <;> omega) | (rw [nI_ltI] <;> omega) | (rw [nI_eq] <;> omega) | (apply q_out <;> omega) | (apply q_nb; omega) | (apply q_n0 <;> omega)) only [M149, hM.1, hD, ↓if_pos, ↓if_neg, nI_add, q_sub, q_cl, p_bnd_s, p_bnd_v])
      exact i1
theorem q_mHead {x1 : Int32} {P : Nat} (hP : P < 64) : ∀ (d : Nat) (w : pW) (E : List q_ev), d < 7 → E.length + d < 50 → q_mE E w → ∃ w', p_ev none 149 65 [.ref 24, .int x1, .int (nI P), .int (nI d + (-1)), p_U, p_U, p_U] [] w = p_ev none 149 90 [.ref 24, .int x1, .int (nI P), .int (nI P + (-1)), p_U, p_U, p_U] [] w' ∧ q_mE (E ++ q_hd P d) w' ∧ q_kP w w' := by
  intro d
  induction d with
  | zero =>
    intro w E hd hlE hE
    refine ⟨w, ?_, by rw [q_hd, List.append_nil]; exact hE, q_kP.rf⟩
    rw [show nI 0 + (-1) = (-1 : Int32) from rfl, H149_65]
    have e : (-1 : Int32) < nI 0 := by decide
    (conv => lhs; simp (disch := first | assumption | omega | (rw [nI_leI] <;> omega) | (rw [nI_ltI] <;> omega) | (rw [nI_eq] <;> omega) | (apply q_out <;> omega) | (apply q_nb; omega) | (apply q_n0 <;> omega)) only [M149, ↓if_pos, ↓if_neg, nI_add, q_sub, q_cl, p_bnd_s, p_bnd_v])
    rw [Int32.sub_eq_add_neg]
    rfl
  | succ d ih =>
    intro w E hd hlE hE
    have hE2 := q_mE_w (e := (0, P / 2 ^ d % 2, 0, 0)) hE
    obtain ⟨w', h1, h2, h3⟩ := ih _ _ (by omega) (by simp only [List.length_append, List.length_singleton]; omega) hE2
    refine ⟨w', ?_, ?_, q_mw_kP.tr h3⟩
    · rw [q_m1 (show 1 ≤ d + 1 by omega), Nat.add_sub_cancel, H149_65]
      have e : ¬ nI d < nI 0 := by rw [nI_ltI (by omega) (by omega)]; omega
      have hb := q_hbit d (by omega) P hP
      have hp := q_mWrite (a := nI (P / 2 ^ d % 2)) (b := nI 0) (d := nI 0) hE.1 (by omega)
      (conv => lhs; simp (disch := first | assumption | omega | (rw [nI_leI] <;> omega) | (rw [nI_ltI] <;> omega) | (rw [nI_eq] <;> omega) | (apply q_out <;> omega) | (apply q_nb; omega) | (apply q_n0 <;> omega)) only [M149, hb, hp, ↓if_pos, ↓if_neg, nI_add, q_sub, q_cl, p_bnd_s, p_bnd_v])
      exact h1
    · rw [q_hd, List.append_cons]; exact h2
theorem q_mPass2_l {pl : Nat} (hn : n ≤ 32) (hpl : pl < 64) {x1 x2 : Int32} : ∀ (d k : Nat) (w : pW) (E : List q_ev) (z5 : Value), k + d = n → q_Mw n wv w → w.2.1 32 = x → q_mE E w → (E ++ q_s2 x pl k d).length ≤ 4038 → ∃ w' z5', p_ev none 149 103 [.ref 24, .int x1, .int x2, .int (nI pl), .int (nI k), z5, p_U] [] w = p_ev none 149 90 [.ref 24, .int x1, .int x2, .int (nI pl + (-1)), .int (nI n), z5', p_U] [] w' ∧ q_mE (E ++ q_s2 x pl k d) w' ∧ q_kP w w' := by
  intro d
  induction d with
  | zero =>
    intro k w E z5 hk hM hx hE hl
    have e : k = n := by omega
    subst e
    refine ⟨w, z5, ?_, by rw [q_s2, List.append_nil]; exact hE, q_kP.rf⟩
    rw [H149_103]
    (conv => lhs; simp (disch := first | assumption | omega | (rw [nI_leI] <;> omega) | (rw [nI_ltI] <;> omega) | (rw [nI_eq] <;> omega) | (apply q_out <;> omega) | (apply q_nb; omega) | (apply q_n0 <;> omega)) only [M149, hM.1, ↓if_pos, ↓if_neg, nI_add, q_sub, q_cl, p_bnd_s, p_bnd_v])
  | succ d ih =>
    intro k w E z5 hk hM hx hE hl
    have e16 : w.2.1 32 k = x k := by rw [hx]
    rw [q_s2] at hl ⊢
    rw [H149_103]
    by_cases hm : lN 1 < q_sh (p_abs (x k)) pl
    · have hm1 : ¬ lg_cmp (p_abs (x k) >>> ((nI pl).toInt64 &&& 63)) (lN 1) ≤ nI 0 := fun z => absurd hm (Int64.not_lt.mpr (q_cmpE.mp z))
      have hs : q_s1 x pl k = [(3, q_b1 (q_sh (p_abs (x k)) pl), k, pl)] := if_pos hm
      rw [hs] at hl ⊢
      have hl2 : E.length < 4038 := by simp only [List.length_append, List.length_singleton] at hl; omega
      have hE2 := q_mE_w (e := (3, q_b1 (q_sh (p_abs (x k)) pl), k, pl)) hE
      rw [← List.append_assoc] at hl ⊢
      obtain ⟨w', z5', c1, c2, c3⟩ := ih (k + 1) _ _ (.long (p_abs (x k))) (by omega) (q_mw_kP.M hM) hx hE2 hl
      have hq := q_mWrite (a := nI (q_b1 (q_sh (p_abs (x k)) pl))) (b := nI k) (d := nI (192 + pl)) hE.1 (by omega)
      have hbit : ((p_abs (x k) >>> ((nI pl).toInt64 &&& 63)) &&& lN 1).toInt32 = nI (q_b1 (q_sh (p_abs (x k)) pl)) := q_bit1
      refine ⟨w', z5', ?_, c2, q_mw_kP.tr c3⟩
      (conv => lhs; simp (disch := first | assumption | omega | (rw [nI_leI] <;> omega) | (rw [nI_ltI] <;> omega) | (rw [nI_eq] <;> omega) | (apply q_out <;> omega) | (apply q_nb; omega) | (apply q_n0 <;> omega)) only [M149, hM.1, e16, q_mSize, hbit, hq, ↓if_pos, ↓if_neg, nI_add, q_sub, q_cl, p_bnd_s, p_bnd_v])
      exact c1
    · have hm1 : lg_cmp (p_abs (x k) >>> ((nI pl).toInt64 &&& 63)) (lN 1) ≤ nI 0 := q_cmpE.mpr (Int64.not_lt.mp hm)
      have hs : q_s1 x pl k = [] := if_neg hm
      rw [hs, List.nil_append] at hl ⊢
      obtain ⟨w', z5', c1, c2, c3⟩ := ih (k + 1) w E (.long (p_abs (x k))) (by omega) hM hx hE hl
      refine ⟨w', z5', ?_, c2, c3⟩
      (conv => lhs; simp (disch := first | assumption | omega | (rw [nI_leI] <;> omega) | (rw [nI_ltI] <;> omega) | (rw [nI_eq] <;> omega) | (apply q_out <;> omega) | (apply q_nb; omega) | (apply q_n0 <;> omega)) only [M149, hM.1, e16, q_mSize, ↓if_pos, ↓if_neg, nI_add, q_sub, q_cl, p_bnd_s, p_bnd_v])
      exact c1
theorem q_mPlanes {lo : Nat} (hn : n ≤ 32) (hlo : 1 ≤ lo) (hl2 : lo < 2 ^ 20) (hns : q_ns n x) {x2 : Int32} : ∀ (k : Nat) (w : pW) (E : List q_ev) (z4 z5 : Value), k < 64 → q_Mw n wv w → w.2.1 32 = x → q_mE E w → (E ++ q_pl n lo x (q_rd lo n (q_ab x R0 n)) k).length ≤ 4038 → ∃ w', p_ev none 149 90 [.ref 24, .int (nI lo), .int x2, .int (nI k + (-1)), z4, z5, p_U] [] w = some (.inl none, w', 0) ∧ q_mE (E ++ q_pl n lo x (q_rd lo n (q_ab x R0 n)) k) w' ∧ q_kP w w' := by
  intro k
  induction k with
  | zero =>
    intro w E z4 z5 hk hM hx hE hl
    refine ⟨w, ?_, by rw [q_pl, List.append_nil]; exact hE, q_kP.rf⟩
    rw [show nI 0 + (-1) = (-1 : Int32) from rfl, H149_90]
    have e : (-1 : Int32) < nI 0 := by decide
    (conv => lhs; simp (disch := first | assumption | omega | (rw [nI_leI] <;> omega) | (rw [nI_ltI] <;> omega) | (rw [nI_eq] <;> omega) | (apply q_out <;> omega) | (apply q_nb; omega) | (apply q_n0 <;> omega)) only [M149, ↓if_pos, ↓if_neg, nI_add, q_sub, q_cl, p_bnd_s, p_bnd_v])
  | succ k ih =>
    intro w E z4 z5 hk hM hx hE hl
    rw [q_pl, ← List.append_assoc, ← List.append_assoc] at hl
    obtain ⟨w1, a1, a2, a3⟩ := q_mPass1 (R0 := R0) (pl := k) hn hlo hl2 (by omega) hns hM hx hE (by simp only [List.length_append] at hl ⊢; omega)
    obtain ⟨w2, y5, b1, b2, b3⟩ := q_mPass2_l (x := x) (pl := k) (x1 := nI lo) (x2 := x2) hn (by omega) n 0 w1 _ z5 (by omega) (a3.M hM) (by rw [a3.1]; exact hx) a2 (by simp only [List.length_append] at hl ⊢; omega)
    obtain ⟨w', h1, h2, h3⟩ := ih w2 _ (.int (nI n)) y5 (by omega) ((a3.tr b3).M hM) (by rw [b3.1, a3.1]; exact hx) b2 hl
    refine ⟨w', ?_, by rw [q_pl, ← List.append_assoc, ← List.append_assoc]; exact h2, (a3.tr b3).tr h3⟩
    rw [q_m1 (show 1 ≤ k + 1 by omega), Nat.add_sub_cancel, H149_90]
    have e : ¬ nI k < nI 0 := by rw [nI_ltI (by omega) (by omega)]; omega
    (conv => lhs; simp (disch := first | assumption | omega | (rw [nI_leI] <;> omega) | (rw [nI_ltI] <;> omega) | (rw [nI_eq] <;> omega) | (apply q_out <;> omega) | (apply q_nb; omega) | (apply q_n0 <;> omega)) only [M149, a1, ↓if_pos, ↓if_neg, nI_add, q_sub, q_cl, p_bnd_s, p_bnd_v])
    rw [b1]
    exact h1
theorem q_mLayCode (h : q_R n wv sp x w) (hpy : q_py sp = true) (hns : q_ns n x) : ∃ w', p_ev none 149 0 [.ref 24, p_U, p_U, p_U, p_U, p_U, p_U] [] w = some (.inl none, w', 0) ∧ q_kR w w' ∧ w'.1 24 19 = nI (q_lw sp) ∧ q_mE (q_CD n sp x) w' := by
  have hT := h.2.1
  have hn := hT.n32
  have hlw := q_lw_wd hT
  have hlb := q_lw_b (sp := sp)
  obtain ⟨w1, a1, a2, a3, a4⟩ := q_mLayRow h hpy
  have hR1 := a2.R h
  have hns1 : q_ns n (w1.2.1 32) := fun j hj => by rw [a4 j hj]; exact hns j hj
  have hP : q_dg (q_mx (w1.2.1 32) n) < 64 := by have := q_dg_le (x := q_mx (w1.2.1 32) n); omega
  have hpl := q_mPl_l (w := w1) (x1 := nI (q_wd n (q_lw sp))) hn hns1 hR1.1 n 0 (by omega)
  have hE0 : q_mE [] (p_u w1.1 24 18 (nI 0), w1.2) := ⟨rfl, fun i e hi => absurd hi (by simp)⟩
  have hk0 : q_kP w1 (p_u w1.1 24 18 (nI 0), w1.2) := ⟨rfl, fun o j hj => if_neg hj, fun _ _ => rfl⟩
  obtain ⟨w2, b1, b2, b3⟩ := q_mHead (x1 := nI (q_wd n (q_lw sp))) hP 6 _ [] (by omega) (by simp) hE0
  have gl := q_code_len (n := n) (lo := q_wd n (q_lw sp)) (x := w1.2.1 32) (R := fun _ => lN 0) hn
  have hk2 := hk0.tr b3
  obtain ⟨w', c1, c2, c3⟩ := q_mPlanes (R0 := fun _ => lN 0) (lo := q_wd n (q_lw sp)) (x2 := nI (q_dg (q_mx (w1.2.1 32) n))) hn hlw.1 (by omega) hns1 _ w2 _ p_U p_U hP (hk2.M hR1.1) (by rw [hk2.1]) b2 gl
  refine ⟨w', ?_, (a2.tr hk2.kR).tr c3.kR, ?_, ?_⟩
  · (conv => lhs; simp (disch := first | assumption | omega | (rw [nI_leI] <;> omega) | (rw [nI_ltI] <;> omega) | (rw [nI_eq] <;> omega) | (apply q_out <;> omega) | (apply q_nb; omega) | (apply q_n0 <;> omega)) only [M149, a1, a3, q_sizeAt hR1.1, ↓if_pos, ↓if_neg, nI_add, q_sub, q_cl, p_bnd_s, p_bnd_v])
    exact hpl.trans (b1.trans c1)
  · rw [c3.2.1 24 19 (by omega), hk2.2.1 24 19 (by omega)]; exact a3
  · have e : q_code n (q_wd n (q_lw sp)) (w1.2.1 32) (fun _ => lN 0) = q_CD n sp x := q_code_cg hlw.1 a4
    rw [← e]; exact c2
end Mco
