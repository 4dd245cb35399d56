/-! THE METHODS OF THE CLASS LIFTING -/
def q_sh (x : Int64) (k : Nat) : Int64 := x >>> ((nI k).toInt64 &&& 63)
def q_oc (wv step : Nat) (a b : Int64) : Int64 := if wv = 0 then -a else if wv = 1 then -(q_sh (a + b) 1) else q_sh ((if step = 0 then (-6497 : Int64) else lN 3616) * (a + b) + lN 2048) 12
def q_ec (wv step : Nat) (a b : Int64) : Int64 := if wv = 0 then q_sh b 1 else if wv = 1 then q_sh (a + b + lN 2) 2 else q_sh ((if step = 1 then (-217 : Int64) else lN 1817) * (a + b) + lN 2048) 12
def q_nx (h k : Nat) : Nat := if k + 1 < h then k + 1 else h - 1
def q_seg (b m : Nat) (new x : Nat → Int64) : Nat → Int64 := fun j => if b ≤ j ∧ j < b + m then new j else x j
theorem q_seg_in {b m j : Nat} {new x : Nat → Int64} (h : b ≤ j ∧ j < b + m) : q_seg b m new x j = new j := if_pos h
theorem q_seg_out {b m j : Nat} {new x : Nat → Int64} (h : ¬ (b ≤ j ∧ j < b + m)) : q_seg b m new x j = x j := if_neg h
theorem q_seg_0 {b : Nat} {new x : Nat → Int64} : q_seg b 0 new x = x := by
  funext j; rw [q_seg_out (by omega)]
theorem q_seg_S {b m : Nat} {new x : Nat → Int64} {v : Int64} (h : v = new (b + m)) : (fun j => if j = b + m then v else q_seg b m new x j) = q_seg b (m + 1) new x := by
  funext j
  by_cases hj : j = b + m
  · subst hj; rw [if_pos rfl, q_seg_in (by omega), h]
  · rw [if_neg hj]
    by_cases h2 : b ≤ j ∧ j < b + m
    · rw [q_seg_in h2, q_seg_in (by omega)]
    · rw [q_seg_out h2, q_seg_out (by omega)]
theorem q_seg_S0 {b : Nat} {new x : Nat → Int64} {v : Int64} (h : v = new (b + 0)) : (fun j => if j = b + 0 then v else x j) = q_seg b (0 + 1) new x := by
  have z := q_seg_S (m := 0) (x := x) h
  rw [q_seg_0] at z
  exact z
def q_newO (wv step : Nat) (sg : Int64) (s h : Nat) (x : Nat → Int64) : Nat → Int64 := fun j => x j + sg * q_oc wv step (x (j - h)) (x (s + q_nx h (j - (s + h))))
def q_newE (wv step : Nat) (sg : Int64) (s h : Nat) (x : Nat → Int64) : Nat → Int64 := fun j => x j + sg * q_ec wv step (x (s + h + (j - s - 1))) (x (j + h))
/-- a step of lifting on the stretch from s on, twice h long -/
def q_lf (wv step : Nat) (sg : Int64) (s h : Nat) (x : Nat → Int64) : Nat → Int64 := if step % 2 = 0 then q_seg (s + h) h (q_newO wv step sg s h x) x else q_seg s h (q_newE wv step sg s h x) x
theorem q_CJ {n wv : Nat} {sp : Nat → Bool} {w : pW} {J : Nat → Nat → Int64} (h : q_C n wv sp w) : q_C n wv sp (w.1, J, w.2.2) := h
section Lf
variable {n wv : Nat} {sp : Nat → Bool} {w : pW}
theorem q_steps (h : q_C n wv sp w) : p_ev none 19 0 [.ref 2] [] w = some (.inl (some (.int (nI (if wv = 2 then 4 else 2)))), w, 0) := by
  have hw := h.2.2.2.1
  by_cases h2 : wv = 2
  · subst h2
    (conv => lhs; simp (disch := first | assumption | omega | (rw [nI_leI] <;> omega) | (rw [nI_ltI] <;> omega) | (rw [nI_eq] <;> omega) | (apply q_out <;> omega) | (apply q_nb; omega) | (apply q_n0 <;> omega)) only [M19, h.2.1, ↓if_pos, ↓if_neg, nI_add, q_sub, q_cl, p_bnd_s, p_bnd_v])
    rfl
  · (conv => lhs; simp (disch := first | assumption | omega | (rw [nI_leI] <;> omega) | (rw [nI_ltI] <;> omega) | (rw [nI_eq] <;> omega) | (apply q_out <;> omega) | (apply q_nb; omega) | (apply q_n0 <;> omega)) only [M19, h.2.1, ↓if_pos, ↓if_neg, nI_add, q_sub, q_cl, p_bnd_s, p_bnd_v])
    rw [if_neg h2]
theorem q_oddChange {step : Nat} {a b : Int64} (h : q_C n wv sp w) (hs : step < 100) : p_ev none 21 0 [.ref 2, .int (nI step), .long a, p_U, .long b, p_U, p_U, p_U] [] w = some (.inl (some (.long (q_oc wv step a b))), w, 0) := by
  have hw := h.2.2.2.1
  unfold q_oc
  by_cases h0 : wv = 0
  · subst h0
    (conv => lhs; simp (disch := first | assumption | omega | (rw [nI_leI] <;> omega) | (rw [nI_ltI] <;> omega) | (rw [nI_eq] <;> omega) | (apply q_out <;> omega) | (apply q_nb; omega) | (apply q_n0 <;> omega)) only [M21, h.2.1, ↓if_pos, ↓if_neg, nI_add, q_sub, q_cl, p_bnd_s, p_bnd_v])
    rw [if_pos rfl]
  · by_cases h1 : wv = 1
    · subst h1
      (conv => lhs; simp (disch := first | assumption | omega | (rw [nI_leI] <;> omega) | (rw [nI_ltI] <;> omega) | (rw [nI_eq] <;> omega) | (apply q_out <;> omega) | (apply q_nb; omega) | (apply q_n0 <;> omega)) only [M21, h.2.1, ↓if_pos, ↓if_neg, nI_add, q_sub, q_cl, p_bnd_s, p_bnd_v])
      simp only [if_neg h0, if_true]
      rfl
    · by_cases h3 : step = 0
      · subst h3
        (conv => lhs; simp (disch := first | assumption | omega | (rw [nI_leI] <;> omega) | (rw [nI_ltI] <;> omega) | (rw [nI_eq] <;> omega) | (apply q_out <;> omega) | (apply q_nb; omega) | (apply q_n0 <;> omega)) only [M21, h.2.1, ↓if_pos, ↓if_neg, nI_add, q_sub, q_cl, p_bnd_s, p_bnd_v])
        simp only [if_neg h0, if_neg h1, if_true]
        rfl
      · (conv => lhs; simp (disch := first | assumption | omega | (rw [nI_leI] <;> omega) | (rw [nI_ltI] <;> omega) | (rw [nI_eq] <;> omega) | (apply q_out <;> omega) | (apply q_nb; omega) | (apply q_n0 <;> omega)) only [M21, h.2.1, ↓if_pos, ↓if_neg, nI_add, q_sub, q_cl, p_bnd_s, p_bnd_v])
        simp only [if_neg h0, if_neg h1, if_neg h3]
        rfl
theorem q_evenChange {step : Nat} {a b : Int64} (h : q_C n wv sp w) (hs : step < 100) : p_ev none 22 0 [.ref 2, .int (nI step), .long a, p_U, .long b, p_U, p_U, p_U] [] w = some (.inl (some (.long (q_ec wv step a b))), w, 0) := by
  have hw := h.2.2.2.1
  unfold q_ec
  by_cases h0 : wv = 0
  · subst h0
    (conv => lhs; simp (disch := first | assumption | omega | (rw [nI_leI] <;> omega) | (rw [nI_ltI] <;> omega) | (rw [nI_eq] <;> omega) | (apply q_out <;> omega) | (apply q_nb; omega) | (apply q_n0 <;> omega)) only [M22, h.2.1, ↓if_pos, ↓if_neg, nI_add, q_sub, q_cl, p_bnd_s, p_bnd_v])
    rw [if_pos rfl]
    rfl
  · by_cases h1 : wv = 1
    · subst h1
      (conv => lhs; simp (disch := first | assumption | omega | (rw [nI_leI] <;> omega) | (rw [nI_ltI] <;> omega) | (rw [nI_eq] <;> omega) | (apply q_out <;> omega) | (apply q_nb; omega) | (apply q_n0 <;> omega)) only [M22, h.2.1, ↓if_pos, ↓if_neg, nI_add, q_sub, q_cl, p_bnd_s, p_bnd_v])
      simp only [if_neg h0, if_true]
      rfl
    · by_cases h3 : step = 1
      · subst h3
        (conv => lhs; simp (disch := first | assumption | omega | (rw [nI_leI] <;> omega) | (rw [nI_ltI] <;> omega) | (rw [nI_eq] <;> omega) | (apply q_out <;> omega) | (apply q_nb; omega) | (apply q_n0 <;> omega)) only [M22, h.2.1, ↓if_pos, ↓if_neg, nI_add, q_sub, q_cl, p_bnd_s, p_bnd_v])
        simp only [if_neg h0, if_neg h1, if_true]
        rfl
      · (conv => lhs; simp (disch := first | assumption | omega | (rw [nI_leI] <;> omega) | (rw [nI_ltI] <;> omega) | (rw [nI_eq] <;> omega) | (apply q_out <;> omega) | (apply q_nb; omega) | (apply q_n0 <;> omega)) only [M22, h.2.1, ↓if_pos, ↓if_neg, nI_add, q_sub, q_cl, p_bnd_s, p_bnd_v])
        simp only [if_neg h0, if_neg h1, if_neg h3]
        rfl
theorem q_lift_O {r s h step : Nat} {sg : Int32} {x : Nat → Int64} (hC : q_C n wv sp w) (hr : p_rw r) (hs : step < 100) (he : step % 2 = 0) (hb : s + 2 * h ≤ 32) (h1 : 1 ≤ h) : ∀ (d k : Nat) (z8 z9 : Value), k + d = h →
    p_ev none 20 8 [.ref 2, .ref r, .int (nI s), .int (nI h), .int (nI step), .int sg, .int (nI (s + h)), .int (nI k), z8, z9, p_U] [] (w.1, q_r w.2.1 (r + 7) (q_seg (s + h) k (q_newO wv step sg.toInt64 s h x) x), w.2.2) = some (.inl none, (w.1, q_r w.2.1 (r + 7) (q_seg (s + h) h (q_newO wv step sg.toInt64 s h x) x), w.2.2), 0) := by
  intro d
  induction d with
  | zero =>
    intro k z8 z9 hk
    obtain rfl : k = h := by omega
    (conv => lhs; simp (disch := first | assumption | omega | (rw [nI_leI] <;> omega) | (rw [nI_ltI] <;> omega) | (rw [nI_eq] <;> omega) | (apply q_out <;> omega) | (apply q_nb; omega) | (apply q_n0 <;> omega)) only [H20_8 r hr, M20 r hr, ↓if_pos, ↓if_neg, nI_add, q_sub, q_cl, p_bnd_s, p_bnd_v])
  | succ d ih =>
    intro k z8 z9 hk
    rw [H20_8 r hr]
    by_cases hn : k + 1 < h
    · (conv => lhs; simp (disch := first | assumption | omega | (rw [nI_leI] <;> omega) | (rw [nI_ltI] <;> omega) | (rw [nI_eq] <;> omega) | (apply q_out <;> omega) | (apply q_nb; omega) | (apply q_n0 <;> omega)) only [M20 r hr, pk_rem, he, q_get hr, q_set hr, q_oddChange (q_CJ hC), q_r_s, q_r_r, q_seg_out, ↓if_pos, ↓if_neg, nI_add, q_sub, q_cl, p_bnd_s, p_bnd_v])
      rw [q_seg_S (by
        simp only [q_newO, q_nx]
        rw [show s + h + k - h = s + k by omega, show s + h + k - (s + h) = k by omega, if_pos hn])]
      exact ih _ _ _ (by omega)
    · (conv => lhs; simp (disch := first | assumption | omega | (rw [nI_leI] <;> omega) | (rw [nI_ltI] <;> omega) | (rw [nI_eq] <;> omega) | (apply q_out <;> omega) | (apply q_nb; omega) | (apply q_n0 <;> omega)) only [M20 r hr, pk_rem, he, q_get hr, q_set hr, q_oddChange (q_CJ hC), q_r_s, q_r_r, q_seg_out, ↓if_pos, ↓if_neg, nI_add, q_sub, q_cl, p_bnd_s, p_bnd_v])
      rw [q_seg_S (by
        simp only [q_newO, q_nx]
        rw [show s + h + k - h = s + k by omega, show s + h + k - (s + h) = k by omega, if_neg hn])]
      exact ih _ _ _ (by omega)
theorem q_lift_E {r s h step : Nat} {sg : Int32} {x : Nat → Int64} (hC : q_C n wv sp w) (hr : p_rw r) (hs : step < 100) (he : step % 2 = 1) (hb : s + 2 * h ≤ 32) (h1 : 1 ≤ h) : ∀ (d k : Nat) (z8 z9 : Value), k + d = h →
    p_ev none 20 8 [.ref 2, .ref r, .int (nI s), .int (nI h), .int (nI step), .int sg, .int (nI (s + h)), .int (nI k), z8, z9, p_U] [] (w.1, q_r w.2.1 (r + 7) (q_seg s k (q_newE wv step sg.toInt64 s h x) x), w.2.2) = some (.inl none, (w.1, q_r w.2.1 (r + 7) (q_seg s h (q_newE wv step sg.toInt64 s h x) x), w.2.2), 0) := by
  intro d
  induction d with
  | zero =>
    intro k z8 z9 hk
    obtain rfl : k = h := by omega
    (conv => lhs; simp (disch := first | assumption | omega | (rw [nI_leI] <;> omega) | (rw [nI_ltI] <;> omega) | (rw [nI_eq] <;> omega) | (apply q_out <;> omega) | (apply q_nb; omega) | (apply q_n0 <;> omega)) only [H20_8 r hr, M20 r hr, ↓if_pos, ↓if_neg, nI_add, q_sub, q_cl, p_bnd_s, p_bnd_v])
  | succ d ih =>
    intro k z8 z9 hk
    rw [H20_8 r hr]
    by_cases hn : 0 < k
    · (conv => lhs; simp (disch := first | assumption | omega | (rw [nI_leI] <;> omega) | (rw [nI_ltI] <;> omega) | (rw [nI_eq] <;> omega) | (apply q_out <;> omega) | (apply q_nb; omega) | (apply q_n0 <;> omega)) only [M20 r hr, pk_rem, he, q_get hr, q_set hr, q_evenChange (q_CJ hC), q_r_s, q_r_r, q_seg_out, ↓if_pos, ↓if_neg, nI_add, q_sub, q_cl, p_bnd_s, p_bnd_v])
      rw [q_seg_S (by
        simp only [q_newE]
        rw [show s + h + (s + k - s - 1) = s + h + (k - 1) by omega, show s + k + h = s + h + k by omega])]
      exact ih _ _ _ (by omega)
    · obtain rfl : k = 0 := by omega
      (conv => lhs; simp (disch := first | assumption | omega | (rw [nI_leI] <;> omega) | (rw [nI_ltI] <;> omega) | (rw [nI_eq] <;> omega) | (apply q_out <;> omega) | (apply q_nb; omega) | (apply q_n0 <;> omega)) only [M20 r hr, pk_rem, he, q_get hr, q_set hr, q_evenChange (q_CJ hC), q_r_s, q_r_r, q_seg_out, ↓if_pos, ↓if_neg, nI_add, q_sub, q_cl, p_bnd_s, p_bnd_v])
      rw [q_seg_S0 (new := q_newE wv step sg.toInt64 s h x) (by
        simp only [q_newE]
        rw [show s + h + (s + 0 - s - 1) = s + h + 0 by omega, show s + 0 + h = s + h + 0 by omega])]
      exact ih _ _ _ (by omega)
theorem q_lift {r s h step : Nat} {sg : Int32} (hC : q_C n wv sp w) (hr : p_rw r) (hs : step < 100) (hb : s + 2 * h ≤ 32) (h1 : 1 ≤ h) :
    p_ev none 20 0 [.ref 2, .ref r, .int (nI s), .int (nI h), .int (nI step), .int sg, p_U, p_U, p_U, p_U, p_U] [] w = some (.inl none, (w.1, q_r w.2.1 (r + 7) (q_lf wv step sg.toInt64 s h (w.2.1 (r + 7))), w.2.2), 0) := by
  (conv => lhs; simp (disch := first | assumption | omega | (rw [nI_leI] <;> omega) | (rw [nI_ltI] <;> omega) | (rw [nI_eq] <;> omega) | (apply q_out <;> omega) | (apply q_nb; omega) | (apply q_n0 <;> omega)) only [M20 r hr, ↓if_pos, ↓if_neg, nI_add, q_sub, q_cl, p_bnd_s, p_bnd_v])
  have e : w = (w.1, q_r w.2.1 (r + 7) (w.2.1 (r + 7)), w.2.2) := by rw [q_r_id]
  unfold q_lf
  by_cases he : step % 2 = 0
  · rw [if_pos he]
    have z := q_lift_O (w := w) (x := w.2.1 (r + 7)) (sg := sg) hC hr hs he hb h1 h 0 p_U p_U (by omega)
    rw [q_seg_0, ← e] at z
    exact z
  · rw [if_neg he]
    have z := q_lift_E (w := w) (x := w.2.1 (r + 7)) (sg := sg) hC hr hs (by omega) hb h1 h 0 p_U p_U (by omega)
    rw [q_seg_0, ← e] at z
    exact z
/-- dealing a stretch: evens first -/
def q_deal (s h : Nat) (x : Nat → Int64) : Nat → Int64 := fun j => if s ≤ j ∧ j < s + h then x (s + 2 * (j - s)) else if s + h ≤ j ∧ j < s + 2 * h then x (s + 2 * (j - s - h) + 1) else x j
/-- the other way -/
def q_mix (s h : Nat) (x : Nat → Int64) : Nat → Int64 := fun j => if s ≤ j ∧ j < s + 2 * h then (if (j - s) % 2 = 0 then x (s + (j - s) / 2) else x (s + h + (j - s) / 2)) else x j
def q_dealk (s h k : Nat) (x : Nat → Int64) : Nat → Int64 := fun j => if s ≤ j ∧ j < s + k then x (s + 2 * (j - s)) else if s + h ≤ j ∧ j < s + h + k then x (s + 2 * (j - s - h) + 1) else x j
def q_mixk (s h k : Nat) (x : Nat → Int64) : Nat → Int64 := fun j => if s ≤ j ∧ j < s + 2 * k then (if (j - s) % 2 = 0 then x (s + (j - s) / 2) else x (s + h + (j - s) / 2)) else x j
def q_nst (wv : Nat) : Nat := if wv = 2 then 4 else 2
/-- all steps, from the k-th on -/
def q_ups (wv s h : Nat) : Nat → Nat → (Nat → Int64) → (Nat → Int64)
  | 0, _, x => x
  | d + 1, k, x => q_ups wv s h d (k + 1) (q_lf wv k 1 s h x)
/-- steps taken back, the k-th first -/
def q_dns (wv s h : Nat) : Nat → (Nat → Int64) → (Nat → Int64)
  | 0, x => x
  | k + 1, x => q_dns wv s h k (q_lf wv k (-1) s h x)
theorem q_mr : p_rw 8 := ⟨rfl, rfl⟩
theorem q_deal_l {r s h : Nat} {x : Nat → Int64} {M : Nat → Int64} {w : pW} (hr : p_rw r) (hne : r ≠ 8) (hb : s + 2 * h ≤ 32) (hM : w.2.1 15 = M) (hMx : ∀ j, j < 32 → M j = x j) : ∀ (d k : Nat), k + d = h →
    p_ev none 17 11 [.ref 2, .ref r, .int (nI s), .int (nI h), .int (nI k)] [] (w.1, q_r w.2.1 (r + 7) (q_dealk s h k x), w.2.2) = p_ev none 17 70 [.ref 2, .ref r, .int (nI s), .int (nI h), .int (nI h)] [] (w.1, q_r w.2.1 (r + 7) (q_dealk s h h x), w.2.2) := by
  sorry
end Lf
