/-! THE METHODS OF THE CLASS LIFTING -/
def q_sh (x : Int64) (k : Nat) : Int64 := x >>> ((nI k).toInt64 &&& 63)
def q_oc (wv step : Nat) (a b : Int64) : Int64 := if wv = 0 then -a else if wv = 1 then -(q_sh (a + b) 1) else q_sh ((if step = 0 then (-6497 : Int64) else lN 3616) * (a + b) + lN 2048) 12
def q_ec (wv step : Nat) (a b : Int64) : Int64 := if wv = 0 then q_sh b 1 else if wv = 1 then q_sh (a + b + lN 2) 2 else q_sh ((if step = 1 then (-217 : Int64) else lN 1817) * (a + b) + lN 2048) 12
def q_nx (h k : Nat) : Nat := if k + 1 < h then k + 1 else h - 1
def q_seg (b m : Nat) (new x : Nat → Int64) : Nat → Int64 := fun j => if b ≤ j ∧ j < b + m then new j else x j
theorem q_seg_in {b m j : Nat} {new x : Nat → Int64} (h : b ≤ j ∧ j < b + m) : q_seg b m new x j = new j := if_pos h
theorem q_seg_out {b m j : Nat} {new x : Nat → Int64} (h : ¬ (b ≤ j ∧ j < b + m)) : q_seg b m new x j = x j := if_neg h
theorem q_seg_0 {b : Nat} {new x : Nat → Int64} : q_seg b 0 new x = x := by
  funext j; rw [q_seg_out (by omega)]
theorem q_seg_S {b m : Nat} {new x : Nat → Int64} {v : Int64} (h : v = new (b + m)) : (fun j => if j = b + m then v else q_seg b m new x j) = q_seg b (m + 1) new x := by
  funext j
  by_cases hj : j = b + m
  · subst hj; rw [if_pos rfl, q_seg_in (by omega), h]
  · rw [if_neg hj]
    by_cases h2 : b ≤ j ∧ j < b + m
    · rw [q_seg_in h2, q_seg_in (by omega)]
    · rw [q_seg_out h2, q_seg_out (by omega)]
theorem q_seg_S0 {b : Nat} {new x : Nat → Int64} {v : Int64} (h : v = new (b + 0)) : (fun j => if j = b + 0 then v else x j) = q_seg b (0 + 1) new x := by
  have z := q_seg_S (m := 0) (x := x) h
  rw [q_seg_0] at z
  exact z
def q_newO (wv step : Nat) (sg : Int64) (s h : Nat) (x : Nat → Int64) : Nat → Int64 := fun j => x j + sg * q_oc wv step (x (j - h)) (x (s + q_nx h (j - (s + h))))
def q_newE (wv step : Nat) (sg : Int64) (s h : Nat) (x : Nat → Int64) : Nat → Int64 := fun j => x j + sg * q_ec wv step (x (s + h + (j - s - 1))) (x (j + h))
/-- a step of lifting on the stretch from s on, twice h long -/
def q_lf (wv step : Nat) (sg : Int64) (s h : Nat) (x : Nat → Int64) : Nat → Int64 := if step % 2 = 0 then q_seg (s + h) h (q_newO wv step sg s h x) x else q_seg s h (q_newE wv step sg s h x) x
theorem q_CJ {n wv : Nat} {sp : Nat → Bool} {w : pW} {J : Nat → Nat → Int64} (h : q_C n wv sp w) : q_C n wv sp (w.1, J, w.2.2) := h
section Lf
variable {n wv : Nat} {sp : Nat → Bool} {w : pW}
theorem q_steps (h : q_C n wv sp w) : p_ev none 19 0 [.ref 2] [] w = some (.inl (some (.int (nI (if wv = 2 then 4 else 2)))), w, 0) := by
  have hw := h.2.2.2.1
  by_cases h2 : wv = 2
  · subst h2
    (conv => lhs; simp (disch := first | assumption | omega | (rw [nI_leI] <;> omega) | (rw [nI_ltI] <;> omega) | (rw [nI_eq] <;> omega) | (apply q_out <;> omega) | (apply q_nb; omega) | (apply q_n0 <;> omega)) only [M19, h.2.1, ↓if_pos, ↓if_neg, nI_add, q_sub, q_cl, p_bnd_s, p_bnd_v])
    rfl
  · (conv => lhs; simp (disch := first | assumption | omega | (rw [nI_leI] <;> omega) | (rw [nI_ltI] <;> omega) | (rw [nI_eq] <;> omega) | (apply q_out <;> omega) | (apply q_nb; omega) | (apply q_n0 <;> omega)) only [M19, h.2.1, ↓if_pos, ↓if_neg, nI_add, q_sub, q_cl, p_bnd_s, p_bnd_v])
    rw [if_neg h2]
theorem q_oddChange {step : Nat} {a b : Int64} (h : q_C n wv sp w) (hs : step < 100) : p_ev none 21 0 [.ref 2, .int (nI step), .long a, p_U, .long b, p_U, p_U, p_U] [] w = some (.inl (some (.long (q_oc wv step a b))), w, 0) := by
  have hw := h.2.2.2.1
  unfold q_oc
  by_cases h0 : wv = 0
  · subst h0
    (conv => lhs; simp (disch := first | assumption | omega | (rw [nI_leI] <;> omega) | (rw [nI_ltI] <;> omega) | (rw [nI_eq] <;> omega) | (apply q_out <;> omega) | (apply q_nb; omega) | (apply q_n0 <;> omega)) only [M21, h.2.1, ↓if_pos, ↓if_neg, nI_add, q_sub, q_cl, p_bnd_s, p_bnd_v])
    rw [if_pos rfl]
  · by_cases h1 : wv = 1
    · subst h1
      (conv => lhs; simp (disch := first | assumption | omega | (rw [nI_leI] <;> omega) | (rw [nI_ltI] <;> omega) | (rw [nI_eq] <;> omega) | (apply q_out <;> omega) | (apply q_nb; omega) | (apply q_n0 <;> omega)) only [M21, h.2.1, ↓if_pos, ↓if_neg, nI_add, q_sub, q_cl, p_bnd_s, p_bnd_v])
      simp only [if_neg h0, if_true]
      rfl
    · by_cases h3 : step = 0
      · subst h3
        (conv => lhs; simp (disch := first | assumption | omega | (rw [nI_leI] <;> omega) | (rw [nI_ltI] <;> omega) | (rw [nI_eq] <;> omega) | (apply q_out <;> omega) | (apply q_nb; omega) | (apply q_n0 <;> omega)) only [M21, h.2.1, ↓if_pos, ↓if_neg, nI_add, q_sub, q_cl, p_bnd_s, p_bnd_v])
        simp only [if_neg h0, if_neg h1, if_true]
        rfl
      · (conv => lhs; simp (disch := first | assumption | omega | (rw [nI_leI] <;> omega) | (rw [nI_ltI] <;> omega) | (rw [nI_eq] <;> omega) | (apply q_out <;> omega) | (apply q_nb; omega) | (apply q_n0 <;> omega)) only [M21, h.2.1, ↓if_pos, ↓if_neg, nI_add, q_sub, q_cl, p_bnd_s, p_bnd_v])
        simp only [if_neg h0, if_neg h1, if_neg h3]
        rfl
theorem q_evenChange {step : Nat} {a b : Int64} (h : q_C n wv sp w) (hs : step < 100) : p_ev none 22 0 [.ref 2, .int (nI step), .long a, p_U, .long b, p_U, p_U, p_U] [] w = some (.inl (some (.long (q_ec wv step a b))), w, 0) := by
  have hw := h.2.2.2.1
  unfold q_ec
  by_cases h0 : wv = 0
  · subst h0
    (conv => lhs; simp (disch := first | assumption | omega | (rw [nI_leI] <;> omega) | (rw [nI_ltI] <;> omega) | (rw [nI_eq] <;> omega) | (apply q_out <;> omega) | (apply q_nb; omega) | (apply q_n0 <;> omega)) only [M22, h.2.1, ↓if_pos, ↓if_neg, nI_add, q_sub, q_cl, p_bnd_s, p_bnd_v])
    rw [if_pos rfl]
    rfl
  · by_cases h1 : wv = 1
    · subst h1
      (conv => lhs; simp (disch := first | assumption | omega | (rw [nI_leI] <;> omega) | (rw [nI_ltI] <;> omega) | (rw [nI_eq] <;> omega) | (apply q_out <;> omega) | (apply q_nb; omega) | (apply q_n0 <;> omega)) only [M22, h.2.1, ↓if_pos, ↓if_neg, nI_add, q_sub, q_cl, p_bnd_s, p_bnd_v])
      simp only [if_neg h0, if_true]
      rfl
    · by_cases h3 : step = 1
      · subst h3
        (conv => lhs; simp (disch := first | assumption | omega | (rw [nI_leI] <;> omega) | (rw [nI_ltI] <;> omega) | (rw [nI_eq] <;> omega) | (apply q_out <;> omega) | (apply q_nb; omega) | (apply q_n0 <;> omega)) only [M22, h.2.1, ↓if_pos, ↓if_neg, nI_add, q_sub, q_cl, p_bnd_s, p_bnd_v])
        simp only [if_neg h0, if_neg h1, if_true]
        rfl
      · (conv => lhs; simp (disch := first | assumption | omega | (rw [nI_leI] <;> omega) | (rw [nI_ltI] <;> omega) | (rw [nI_eq] <;> omega) | (apply q_out <;> omega) | (apply q_nb; omega) | (apply q_n0 <;> omega)) only [M22, h.2.1, ↓if_pos, ↓if_neg, nI_add, q_sub, q_cl, p_bnd_s, p_bnd_v])
        simp only [if_neg h0, if_neg h1, if_neg h3]
        rfl
theorem q_lift_O {r s h step : Nat} {sg : Int32} {x : Nat → Int64} (hC : q_C n wv sp w) (hr : p_rw r) (hs : step < 100) (he : step % 2 = 0) (hb : s + 2 * h ≤ 32) (h1 : 1 ≤ h) : ∀ (d k : Nat) (z8 z9 : Value), k + d = h →
    p_ev none 20 8 [.ref 2, .ref r, .int (nI s), .int (nI h), .int (nI step), .int sg, .int (nI (s + h)), .int (nI k), z8, z9, p_U] [] (w.1, q_r w.2.1 (r + 7) (q_seg (s + h) k (q_newO wv step sg.toInt64 s h x) x), w.2.2) = some (.inl none, (w.1, q_r w.2.1 (r + 7) (q_seg (s + h) h (q_newO wv step sg.toInt64 s h x) x), w.2.2), 0) := by
  intro d
  induction d with
  | zero =>
    intro k z8 z9 hk
    obtain rfl : k = h := by omega
    (conv => lhs; simp (disch := first | assumption | omega | (rw [nI_leI] <;> omega) | (rw [nI_ltI] <;> omega) | (rw [nI_eq] <;> omega) | (apply q_out <;> omega) | (apply q_nb; omega) | (apply q_n0 <;> omega)) only [H20_8 r hr, M20 r hr, ↓if_pos, ↓if_neg, nI_add, q_sub, q_cl, p_bnd_s, p_bnd_v])
  | succ d ih =>
    intro k z8 z9 hk
    rw [H20_8 r hr]
    by_cases hn : k + 1 < h
    · (conv => lhs; simp (disch := first | assumption | omega | (rw [nI_leI] <;> omega) | (rw [nI_ltI] <;> omega) | (rw [nI_eq] <;> omega) | (apply q_out <;> omega) | (apply q_nb; omega) | (apply q_n0 <;> omega)) only [M20 r hr, pk_rem, he, q_get hr, q_set hr, q_oddChange (q_CJ hC), q_r_s, q_r_r, q_seg_out, ↓if_pos, ↓if_neg, nI_add, q_sub, q_cl, p_bnd_s, p_bnd_v])
      rw [q_seg_S (by
        simp only [q_newO, q_nx]
        rw [show s + h + k - h = s + k by omega, show s + h + k - (s + h) = k by omega, if_pos hn])]
      exact ih _ _ _ (by omega)
    · (conv => lhs; simp (disch := first | assumption | omega | (rw [nI_leI] <;> omega) | (rw [nI_ltI] <;> omega) | (rw [nI_eq] <;> omega) | (apply q_out <;> omega) | (apply q_nb; omega) | (apply q_n0 <;> omega)) only [M20 r hr, pk_rem, he, q_get hr, q_set hr, q_oddChange (q_CJ hC), q_r_s, q_r_r, q_seg_out, ↓if_pos, ↓if_neg, nI_add, q_sub, q_cl, p_bnd_s, p_bnd_v])
      rw [q_seg_S (by
        simp only [q_newO, q_nx]
        rw [show s + h + k - h = s + k by omega, show s + h + k - (s + h) = k by omega, if_neg hn])]
      exact ih _ _ _ (by omega)
theorem q_lift_E {r s h step : Nat} {sg : Int32} {x : Nat → Int64} (hC : q_C n wv sp w) (hr : p_rw r) (hs : step < 100) (he : step % 2 = 1) (hb : s + 2 * h ≤ 32) (h1 : 1 ≤ h) : ∀ (d k : Nat) (z8 z9 : Value), k + d = h →
    p_ev none 20 8 [.ref 2, .ref r, .int (nI s), .int (nI h), .int (nI step), .int sg, .int (nI (s + h)), .int (nI k), z8, z9, p_U] [] (w.1, q_r w.2.1 (r + 7) (q_seg s k (q_newE wv step sg.toInt64 s h x) x), w.2.2) = some (.inl none, (w.1, q_r w.2.1 (r + 7) (q_seg s h (q_newE wv step sg.toInt64 s h x) x), w.2.2), 0) := by
  intro d
  induction d with
  | zero =>
    intro k z8 z9 hk
    obtain rfl : k = h := by omega
    (conv => lhs; simp (disch := first | assumption | omega | (rw [nI_leI] <;> omega) | (rw [nI_ltI] <;> omega) | (rw [nI_eq] <;> omega) | (apply q_out <;> omega) | (apply q_nb; omega) | (apply q_n0 <;> omega)) only [H20_8 r hr, M20 r hr, ↓if_pos, ↓if_neg, nI_add, q_sub, q_cl, p_bnd_s, p_bnd_v])
  | succ d ih =>
    intro k z8 z9 hk
    rw [H20_8 r hr]
    by_cases hn : 0 < k
    · (conv => lhs; simp (disch := first | assumption | omega | (rw [nI_leI] <;> omega) | (rw [nI_ltI] <;> omega) | (rw [nI_eq] <;> omega) | (apply q_out <;> omega) | (apply q_nb; omega) | (apply q_n0 <;> omega)) only [M20 r hr, pk_rem, he, q_get hr, q_set hr, q_evenChange (q_CJ hC), q_r_s, q_r_r, q_seg_out, ↓if_pos, ↓if_neg, nI_add, q_sub, q_cl, p_bnd_s, p_bnd_v])
      rw [q_seg_S (by
        simp only [q_newE]
        rw [show s + h + (s + k - s - 1) = s + h + (k - 1) by omega, show s + k + h = s + h + k by omega])]
      exact ih _ _ _ (by omega)
    · obtain rfl : k = 0 := by omega
      (conv => lhs; simp (disch := first | assumption | omega | (rw [nI_leI] <;> omega) | (rw [nI_ltI] <;> omega) | (rw [nI_eq] <;> omega) | (apply q_out <;> omega) | (apply q_nb; omega) | (apply q_n0 <;> omega)) only [M20 r hr, pk_rem, he, q_get hr, q_set hr, q_evenChange (q_CJ hC), q_r_s, q_r_r, q_seg_out, ↓if_pos, ↓if_neg, nI_add, q_sub, q_cl, p_bnd_s, p_bnd_v])
      rw [q_seg_S0 (new := q_newE wv step sg.toInt64 s h x) (by
        simp only [q_newE]
        rw [show s + h + (s + 0 - s - 1) = s + h + 0 by omega, show s + 0 + h = s + h + 0 by omega])]
      exact ih _ _ _ (by omega)
theorem q_lift {r s h step : Nat} {sg : Int32} (hC : q_C n wv sp w) (hr : p_rw r) (hs : step < 100) (hb : s + 2 * h ≤ 32) (h1 : 1 ≤ h) :
    p_ev none 20 0 [.ref 2, .ref r, .int (nI s), .int (nI h), .int (nI step), .int sg, p_U, p_U, p_U, p_U, p_U] [] w = some (.inl none, (w.1, q_r w.2.1 (r + 7) (q_lf wv step sg.toInt64 s h (w.2.1 (r + 7))), w.2.2), 0) := by
  (conv => lhs; simp (disch := first | assumption | omega | (rw [nI_leI] <;> omega) | (rw [nI_ltI] <;> omega) | (rw [nI_eq] <;> omega) | (apply q_out <;> omega) | (apply q_nb; omega) | (apply q_n0 <;> omega)) only [M20 r hr, ↓if_pos, ↓if_neg, nI_add, q_sub, q_cl, p_bnd_s, p_bnd_v])
  have e : w = (w.1, q_r w.2.1 (r + 7) (w.2.1 (r + 7)), w.2.2) := by rw [q_r_id]
  unfold q_lf
  by_cases he : step % 2 = 0
  · rw [if_pos he]
    have z := q_lift_O (w := w) (x := w.2.1 (r + 7)) (sg := sg) hC hr hs he hb h1 h 0 p_U p_U (by omega)
    rw [q_seg_0, ← e] at z
    exact z
  · rw [if_neg he]
    have z := q_lift_E (w := w) (x := w.2.1 (r + 7)) (sg := sg) hC hr hs (by omega) hb h1 h 0 p_U p_U (by omega)
    rw [q_seg_0, ← e] at z
    exact z
/-- dealing a stretch: evens first -/
def q_deal (s h : Nat) (x : Nat → Int64) : Nat → Int64 := fun j => if s ≤ j ∧ j < s + h then x (s + 2 * (j - s)) else if s + h ≤ j ∧ j < s + 2 * h then x (s + 2 * (j - s - h) + 1) else x j
/-- the other way -/
def q_mix (s h : Nat) (x : Nat → Int64) : Nat → Int64 := fun j => if s ≤ j ∧ j < s + 2 * h then (if (j - s) % 2 = 0 then x (s + (j - s) / 2) else x (s + h + (j - s) / 2)) else x j
def q_dealk (s h k : Nat) (x : Nat → Int64) : Nat → Int64 := fun j => if s ≤ j ∧ j < s + k then x (s + 2 * (j - s)) else if s + h ≤ j ∧ j < s + h + k then x (s + 2 * (j - s - h) + 1) else x j
def q_mixk (s h k : Nat) (x : Nat → Int64) : Nat → Int64 := fun j => if s ≤ j ∧ j < s + 2 * k then (if (j - s) % 2 = 0 then x (s + (j - s) / 2) else x (s + h + (j - s) / 2)) else x j
def q_nst (wv : Nat) : Nat := if wv = 2 then 4 else 2
/-- all steps, from the k-th on -/
def q_ups (wv s h : Nat) : Nat → Nat → (Nat → Int64) → (Nat → Int64)
  | 0, _, x => x
  | d + 1, k, x => q_ups wv s h d (k + 1) (q_lf wv k 1 s h x)
/-- steps taken back, the k-th first -/
def q_dns (wv s h : Nat) : Nat → (Nat → Int64) → (Nat → Int64)
  | 0, x => x
  | k + 1, x => q_dns wv s h k (q_lf wv k (-1) s h x)
theorem q_mr : p_rw 8 := ⟨rfl, rfl⟩
theorem q_dealk_0 {s h : Nat} {x : Nat → Int64} : q_dealk s h 0 x = x := by
  funext j; unfold q_dealk; rw [if_neg (by omega), if_neg (by omega)]
theorem q_dealk_h {s h : Nat} {x : Nat → Int64} : q_dealk s h h x = q_deal s h x := by
  funext j; unfold q_dealk q_deal
  (repeat' split) <;> first | rfl | (exact congrArg x (by omega)) | (exfalso; omega)
theorem q_dealk_S {s h k : Nat} {x : Nat → Int64} (hk : k < h) : (fun j => if j = s + h + k then x (s + 2 * k + 1) else if j = s + k then x (s + 2 * k) else q_dealk s h k x j) = q_dealk s h (k + 1) x := by
  funext j; unfold q_dealk
  (repeat' split) <;> first | rfl | (exact congrArg x (by omega)) | (exfalso; omega)
theorem q_deal_l {r s h : Nat} {x : Nat → Int64} {w : pW} (hr : p_rw r) (hne : r ≠ 8) (hb : s + 2 * h ≤ 32) (hM : ∀ j, j < 32 → w.2.1 (8 + 7) j = x j) : ∀ (d k : Nat), k + d = h →
    p_ev none 17 11 [.ref 2, .ref r, .int (nI s), .int (nI h), .int (nI k)] [] (w.1, q_r w.2.1 (r + 7) (q_dealk s h k x), w.2.2) = p_ev none 17 72 [.ref 2, .ref r, .int (nI s), .int (nI h), .int (nI 0)] [] (w.1, q_r w.2.1 (r + 7) (q_deal s h x), w.2.2) := by
  intro d
  induction d with
  | zero =>
    intro k hk
    obtain rfl : k = h := by omega
    (conv => lhs; simp (disch := first | assumption | omega | (rw [nI_leI] <;> omega) | (rw [nI_ltI] <;> omega) | (rw [nI_eq] <;> omega) | (apply q_out <;> omega) | (apply q_nb; omega) | (apply q_n0 <;> omega)) only [H17_11 r hr, M17 r hr, q_dealk_h, ↓if_pos, ↓if_neg, nI_add, q_sub, q_cl, p_bnd_s, p_bnd_v])
  | succ d ih =>
    intro k hk
    rw [H17_11 r hr]
    (conv => lhs; simp (disch := first | assumption | omega | (rw [nI_leI] <;> omega) | (rw [nI_ltI] <;> omega) | (rw [nI_eq] <;> omega) | (apply q_out <;> omega) | (apply q_nb; omega) | (apply q_n0 <;> omega)) only [M17 r hr, pk_mul, q_get q_mr, q_set hr, q_r_n, q_r_s, q_r_r, hM, ↓if_pos, ↓if_neg, nI_add, q_sub, q_cl, p_bnd_s, p_bnd_v])
    rw [q_dealk_S (by omega)]
    exact ih (k + 1) (by omega)
theorem q_ups_l {r s h : Nat} {w : pW} (hC : q_C n wv sp w) (hr : p_rw r) (hb : s + 2 * h ≤ 32) (h1 : 1 ≤ h) : ∀ (d k : Nat) (y : Nat → Int64), k + d = q_nst wv →
    p_ev none 17 72 [.ref 2, .ref r, .int (nI s), .int (nI h), .int (nI k)] [] (w.1, q_r w.2.1 (r + 7) y, w.2.2) = some (.inl none, (w.1, q_r w.2.1 (r + 7) (q_ups wv s h d k y), w.2.2), 0) := by
  have hst : q_nst wv ≤ 4 := by unfold q_nst; split <;> omega
  have hst2 : (if wv = 2 then 4 else 2) = q_nst wv := rfl
  intro d
  induction d with
  | zero =>
    intro k y hk
    (conv => lhs; simp (disch := first | assumption | omega | (rw [nI_leI] <;> omega) | (rw [nI_ltI] <;> omega) | (rw [nI_eq] <;> omega) | (apply q_out <;> omega) | (apply q_nb; omega) | (apply q_n0 <;> omega)) only [H17_72 r hr, M17 r hr, q_steps (q_CJ hC), hst2, ↓if_pos, ↓if_neg, nI_add, q_sub, q_cl, p_bnd_s, p_bnd_v])
    rfl
  | succ d ih =>
    intro k y hk
    rw [H17_72 r hr]
    (conv => lhs; simp (disch := first | assumption | omega | (rw [nI_leI] <;> omega) | (rw [nI_ltI] <;> omega) | (rw [nI_eq] <;> omega) | (apply q_out <;> omega) | (apply q_nb; omega) | (apply q_n0 <;> omega)) only [M17 r hr, q_steps (q_CJ hC), hst2, q_lift (q_CJ hC) hr, q_r_s, q_r_r, ↓if_pos, ↓if_neg, nI_add, q_sub, q_cl, p_bnd_s, p_bnd_v])
    rw [ih (k + 1) _ (by omega)]
    rfl
theorem q_divide {r s h : Nat} {w : pW} (hC : q_C n wv sp w) (hr : p_rw r) (hne : r ≠ 8) (hb : s + 2 * h ≤ 32) (h1 : 1 ≤ h) :
    ∃ M, p_ev none 17 0 [.ref 2, .ref r, .int (nI s), .int (nI h), p_U] [] w = some (.inl none, (w.1, q_r (q_r w.2.1 (8 + 7) M) (r + 7) (q_ups wv s h (q_nst wv) 0 (q_deal s h (w.2.1 (r + 7)))), w.2.2), 0) := by
  have hne7 : 8 + 7 ≠ r + 7 := by omega
  have hne8 : r + 7 ≠ 8 + 7 := by omega
  refine ⟨fun j => if j < 32 then w.2.1 (r + 7) j else w.2.1 (8 + 7) j, ?_⟩
  (conv => lhs; simp (disch := first | assumption | omega | (rw [nI_leI] <;> omega) | (rw [nI_ltI] <;> omega) | (rw [nI_eq] <;> omega) | (apply q_out <;> omega) | (apply q_nb; omega) | (apply q_n0 <;> omega)) only [M17 r hr, q_copy q_mr hr (Ne.symm hne), ↓if_pos, ↓if_neg, nI_add, q_sub, q_cl, p_bnd_s, p_bnd_v])
  have z := q_deal_l (x := w.2.1 (r + 7)) (w := (w.1, q_r w.2.1 (8 + 7) (fun j => if j < 32 then w.2.1 (r + 7) j else w.2.1 (8 + 7) j), w.2.2)) hr hne hb (fun j hj => by dsimp only; rw [q_r_s, if_pos hj]) h 0 (by omega)
  rw [q_dealk_0] at z
  have e : q_r (q_r w.2.1 (8 + 7) (fun j => if j < 32 then w.2.1 (r + 7) j else w.2.1 (8 + 7) j)) (r + 7) (w.2.1 (r + 7)) = q_r w.2.1 (8 + 7) (fun j => if j < 32 then w.2.1 (r + 7) j else w.2.1 (8 + 7) j) := by
    funext b
    by_cases hb2 : b = r + 7
    · subst hb2; rw [q_r_s, q_r_n hne8]
    · rw [q_r_n hb2]
  dsimp only at z
  rw [e] at z
  rw [z]
  exact q_ups_l (w := (w.1, q_r w.2.1 (8 + 7) (fun j => if j < 32 then w.2.1 (r + 7) j else w.2.1 (8 + 7) j), w.2.2)) hC hr hb h1 (q_nst wv) 0 _ (by omega)
theorem q_mixk_0 {s h : Nat} {x : Nat → Int64} : q_mixk s h 0 x = x := by
  funext j; unfold q_mixk; rw [if_neg (by omega)]
theorem q_mixk_S {s h k : Nat} {x : Nat → Int64} : (fun j => if j = s + 2 * k + 1 then x (s + h + k) else if j = s + 2 * k then x (s + k) else q_mixk s h k x j) = q_mixk s h (k + 1) x := by
  funext j; unfold q_mixk
  (repeat' split) <;> first | rfl | (exact congrArg x (by omega)) | (exfalso; omega)
theorem q_mix_l {r s h : Nat} {x : Nat → Int64} {w : pW} (hr : p_rw r) (hne : r ≠ 8) (hb : s + 2 * h ≤ 32) (hM : ∀ j, j < 32 → w.2.1 (8 + 7) j = x j) : ∀ (d k : Nat), k + d = h →
    p_ev none 18 40 [.ref 2, .ref r, .int (nI s), .int (nI h), .int (nI k)] [] (w.1, q_r w.2.1 (r + 7) (q_mixk s h k x), w.2.2) = some (.inl none, (w.1, q_r w.2.1 (r + 7) (q_mix s h x), w.2.2), 0) := by
  intro d
  induction d with
  | zero =>
    intro k hk
    obtain rfl : k = h := by omega
    (conv => lhs; simp (disch := first | assumption | omega | (rw [nI_leI] <;> omega) | (rw [nI_ltI] <;> omega) | (rw [nI_eq] <;> omega) | (apply q_out <;> omega) | (apply q_nb; omega) | (apply q_n0 <;> omega)) only [H18_40 r hr, M18 r hr, ↓if_pos, ↓if_neg, nI_add, q_sub, q_cl, p_bnd_s, p_bnd_v])
    rfl
  | succ d ih =>
    intro k hk
    rw [H18_40 r hr]
    (conv => lhs; simp (disch := first | assumption | omega | (rw [nI_leI] <;> omega) | (rw [nI_ltI] <;> omega) | (rw [nI_eq] <;> omega) | (apply q_out <;> omega) | (apply q_nb; omega) | (apply q_n0 <;> omega)) only [M18 r hr, pk_mul, q_get q_mr, q_set hr, q_r_n, q_r_s, q_r_r, hM, ↓if_pos, ↓if_neg, nI_add, q_sub, q_cl, p_bnd_s, p_bnd_v])
    rw [q_mixk_S]
    exact ih (k + 1) (by omega)
theorem q_dns_l {r s h : Nat} {w : pW} (hC : q_C n wv sp w) (hr : p_rw r) (hb : s + 2 * h ≤ 32) (h1 : 1 ≤ h) : ∀ (k : Nat) (y : Nat → Int64), k ≤ 4 →
    p_ev none 18 8 [.ref 2, .ref r, .int (nI s), .int (nI h), .int (nI k + (-1))] [] (w.1, q_r w.2.1 (r + 7) y, w.2.2) = p_ev none 18 29 [.ref 2, .ref r, .int (nI s), .int (nI h), .int (-1)] [] (w.1, q_r w.2.1 (r + 7) (q_dns wv s h k y), w.2.2) := by
  intro k
  induction k with
  | zero =>
    intro y hk
    have e : nI 0 + (-1) = (-1 : Int32) := by decide
    have e2 : (-1 : Int32) < nI 0 := by decide
    rw [e]
    (conv => lhs; simp (disch := first | assumption | omega | (rw [nI_leI] <;> omega) | (rw [nI_ltI] <;> omega) | (rw [nI_eq] <;> omega) | (apply q_out <;> omega) | (apply q_nb; omega) | (apply q_n0 <;> omega)) only [H18_8 r hr, M18 r hr, ↓if_pos, ↓if_neg, nI_add, q_sub, q_cl, p_bnd_s, p_bnd_v])
    symm
    (conv => lhs; simp (disch := first | assumption | omega | (rw [nI_leI] <;> omega) | (rw [nI_ltI] <;> omega) | (rw [nI_eq] <;> omega) | (apply q_out <;> omega) | (apply q_nb; omega) | (apply q_n0 <;> omega)) only [M18 r hr, ↓if_pos, ↓if_neg, nI_add, q_sub, q_cl, p_bnd_s, p_bnd_v])
    rfl
  | succ k ih =>
    intro y hk
    rw [q_m1 (by omega), Nat.add_sub_cancel, H18_8 r hr]
    (conv => lhs; simp (disch := first | assumption | omega | (rw [nI_leI] <;> omega) | (rw [nI_ltI] <;> omega) | (rw [nI_eq] <;> omega) | (apply q_out <;> omega) | (apply q_nb; omega) | (apply q_n0 <;> omega)) only [M18 r hr, q_lift (q_CJ hC) hr, q_r_s, q_r_r, ↓if_pos, ↓if_neg, nI_add, q_sub, q_cl, p_bnd_s, p_bnd_v])
    rw [ih _ (by omega)]
    rfl
theorem q_unite {r s h : Nat} {w : pW} (hC : q_C n wv sp w) (hr : p_rw r) (hne : r ≠ 8) (hb : s + 2 * h ≤ 32) (h1 : 1 ≤ h) :
    ∃ M, p_ev none 18 0 [.ref 2, .ref r, .int (nI s), .int (nI h), p_U] [] w = some (.inl none, (w.1, q_r (q_r w.2.1 (8 + 7) M) (r + 7) (q_mix s h (q_dns wv s h (q_nst wv) (w.2.1 (r + 7)))), w.2.2), 0) := by
  have hne7 : 8 + 7 ≠ r + 7 := by omega
  have hst : q_nst wv ≤ 4 ∧ 1 ≤ q_nst wv := by unfold q_nst; split <;> omega
  have hst2 : (if wv = 2 then 4 else 2) = q_nst wv := rfl
  have e0 : nI (q_nst wv) - nI 1 = nI (q_nst wv) + (-1) := by rw [q_m1 hst.2, q_sub hst.2]
  have e1 : w = (w.1, q_r w.2.1 (r + 7) (w.2.1 (r + 7)), w.2.2) := by rw [q_r_id]
  have z := q_dns_l (w := w) hC hr hb h1 (q_nst wv) (w.2.1 (r + 7)) hst.1
  rw [← e1] at z
  refine ⟨fun j => if j < 32 then q_dns wv s h (q_nst wv) (w.2.1 (r + 7)) j else w.2.1 (8 + 7) j, ?_⟩
  rw [show p_ev none 18 0 [.ref 2, .ref r, .int (nI s), .int (nI h), p_U] [] w = p_ev none 18 8 [.ref 2, .ref r, .int (nI s), .int (nI h), .int (nI (q_nst wv) + (-1))] [] w by
    simp only [M18 r hr, q_steps hC, p_bnd_s, hst2, e0], z]
  generalize q_dns wv s h (q_nst wv) (w.2.1 (r + 7)) = y
  (conv => lhs; simp (disch := first | assumption | omega | (rw [nI_leI] <;> omega) | (rw [nI_ltI] <;> omega) | (rw [nI_eq] <;> omega) | (apply q_out <;> omega) | (apply q_nb; omega) | (apply q_n0 <;> omega)) only [M18 r hr, q_copy q_mr hr (Ne.symm hne), q_r_s, q_r_n, ↓if_pos, ↓if_neg, nI_add, q_sub, q_cl, p_bnd_s, p_bnd_v])
  have z2 := q_mix_l (x := y) (w := (w.1, q_r (q_r w.2.1 (r + 7) y) (8 + 7) (fun j => if j < 32 then y j else w.2.1 (8 + 7) j), w.2.2)) hr hne hb (fun j hj => by dsimp only; rw [q_r_s, if_pos hj]) h 0 (by omega)
  rw [q_mixk_0] at z2
  dsimp only at z2
  have c1 : ∀ g, q_r (q_r (q_r w.2.1 (r + 7) y) (8 + 7) (fun j => if j < 32 then y j else w.2.1 (8 + 7) j)) (r + 7) g = q_r (q_r w.2.1 (8 + 7) (fun j => if j < 32 then y j else w.2.1 (8 + 7) j)) (r + 7) g := by
    intro g; funext b
    by_cases hb2 : b = r + 7
    · subst hb2; rw [q_r_s, q_r_s]
    · rw [q_r_n hb2, q_r_n hb2]
      by_cases hb3 : b = 8 + 7
      · subst hb3; rw [q_r_s, q_r_s]
      · rw [q_r_n hb3, q_r_n hb3, q_r_n hb2]
  have c2 : q_r (q_r w.2.1 (r + 7) y) (8 + 7) (fun j => if j < 32 then y j else w.2.1 (8 + 7) j) = q_r (q_r (q_r w.2.1 (r + 7) y) (8 + 7) (fun j => if j < 32 then y j else w.2.1 (8 + 7) j)) (r + 7) y := by
    funext b
    by_cases hb2 : b = r + 7
    · subst hb2; rw [q_r_s, q_r_n (by omega), q_r_s]
    · rw [q_r_n (a := r + 7) hb2]
  rw [c1] at z2
  rw [c2, c1]
  rw [c1] at z2
  exact z2
end Lf
