/-! THE REFERENCE: sizes, lifting steps -/
def q_Mw (n wv : Nat) (w : pW) : Prop := w.1 24 2 = nI n ∧ w.1 24 3 = nI wv ∧ n < 2 ^ 20 ∧ wv ≤ 2
theorem q_lv_half {i : Nat} (h2 : 2 ≤ i) (h : i < 16) : q_lv i = q_lv (i / 2) + 1 := by
  unfold q_lv
  (repeat' split) <;> omega
theorem q_seg_Z {m : Nat} {new x : Nat → Int64} {v : Int64} (h : v = new m) : (fun j => if j = m then v else q_seg 0 m new x j) = q_seg 0 (m + 1) new x := by
  have z := q_seg_S (b := 0) (m := m) (new := new) (x := x) (v := v) (by rw [Nat.zero_add]; exact h)
  rw [Nat.zero_add] at z
  exact z
theorem q_seg_Z0 {new x : Nat → Int64} {v : Int64} (h : v = new 0) : (fun j => if j = 0 then v else x j) = q_seg 0 1 new x := by
  have z := q_seg_Z (m := 0) (x := x) h
  rw [q_seg_0] at z
  exact z
def q_pO (wv step : Nat) (sg : Int64) (h : Nat) (E O : Nat → Int64) : Nat → Int64 := q_seg 0 h (fun j => O j + sg * q_oc wv step (E j) (E (q_nx h j))) O
def q_pE (wv step : Nat) (sg : Int64) (h : Nat) (E O : Nat → Int64) : Nat → Int64 := q_seg 0 h (fun j => E j + sg * q_ec wv step (O (j - 1)) (O j)) E
section ML
variable {n wv k : Nat} {w : pW}
theorem q_sizeAt_l : ∀ (m i n1 : Nat) (x1 : Int32) (w : pW), i < 2 ^ m → i < 16 → n1 < 2 ^ 20 → p_ev none 101 7 [.ref 24, .int x1, .int (nI n1), .int (nI i)] [] w = some (.inl (some (.int (nI (n1 / 2 ^ q_lv i)))), w, 0) := by
  intro m
  induction m with
  | zero =>
    intro i n1 x1 w hi h16 hn
    obtain rfl : i = 0 := by omega
    (conv => lhs; simp (disch := first | assumption | omega | (rw [nI_leI] <;> omega) | (rw [nI_ltI] <;> omega) | (rw [nI_eq] <;> omega) | (apply q_out <;> omega) | (apply q_nb; omega) | (apply q_n0 <;> omega)) only [H101_7, M101, ↓if_pos, ↓if_neg, nI_add, q_sub, q_cl, p_bnd_s, p_bnd_v])
    simp [q_lv]
  | succ m ih =>
    intro i n1 x1 w hi h16 hn
    by_cases h2 : 2 ≤ i
    · rw [H101_7]
      (conv => lhs; simp (disch := first | assumption | omega | (rw [nI_leI] <;> omega) | (rw [nI_ltI] <;> omega) | (rw [nI_eq] <;> omega) | (apply q_out <;> omega) | (apply q_nb; omega) | (apply q_n0 <;> omega)) only [M101, q_div, ↓if_pos, ↓if_neg, nI_add, q_sub, q_cl, p_bnd_s, p_bnd_v])
      rw [ih (i / 2) (n1 / 2) x1 w (by omega) (by omega) (by omega), q_lv_half h2 h16, Nat.pow_succ, Nat.mul_comm, Nat.div_div_eq_div_mul]
    · (conv => lhs; simp (disch := first | assumption | omega | (rw [nI_leI] <;> omega) | (rw [nI_ltI] <;> omega) | (rw [nI_eq] <;> omega) | (apply q_out <;> omega) | (apply q_nb; omega) | (apply q_n0 <;> omega)) only [H101_7, M101, ↓if_pos, ↓if_neg, nI_add, q_sub, q_cl, p_bnd_s, p_bnd_v])
      simp [q_lv, show i < 2 by omega]
theorem q_sizeAt (h : q_Mw n wv w) (hk : k < 16) : p_ev none 101 0 [.ref 24, .int (nI k), p_U, p_U] [] w = some (.inl (some (.int (nI (q_wd n k)))), w, 0) := by
  have hn := h.2.2.1
  (conv => lhs; simp (disch := first | assumption | omega | (rw [nI_leI] <;> omega) | (rw [nI_ltI] <;> omega) | (rw [nI_eq] <;> omega) | (apply q_out <;> omega) | (apply q_nb; omega) | (apply q_n0 <;> omega)) only [M101, h.1, ↓if_pos, ↓if_neg, nI_add, q_sub, q_cl, p_bnd_s, p_bnd_v])
  exact q_sizeAt_l 4 k n _ w hk hk hn
theorem q_even {h : Nat} (h1 : 1 ≤ h) (hh : h ≤ 16) (hk : k < h) : p_ev none 105 0 [.ref 24, .int (nI (k + 1)), .int (nI h)] [] w = some (.inl (some (.long (w.2.1 27 (q_nx h k)))), w, 0) := by
  unfold q_nx
  by_cases hn : k + 1 < h
  · (conv => lhs; simp (disch := first | assumption | omega | (rw [nI_leI] <;> omega) | (rw [nI_ltI] <;> omega) | (rw [nI_eq] <;> omega) | (apply q_out <;> omega) | (apply q_nb; omega) | (apply q_n0 <;> omega)) only [M105, ↓if_pos, ↓if_neg, nI_add, q_sub, q_cl, p_bnd_s, p_bnd_v])
    rw [if_pos hn]
  · (conv => lhs; simp (disch := first | assumption | omega | (rw [nI_leI] <;> omega) | (rw [nI_ltI] <;> omega) | (rw [nI_eq] <;> omega) | (apply q_out <;> omega) | (apply q_nb; omega) | (apply q_n0 <;> omega)) only [M105, ↓if_pos, ↓if_neg, nI_add, q_sub, q_cl, p_bnd_s, p_bnd_v])
    rw [if_neg hn]
theorem q_odd {h : Nat} (hh : h ≤ 16) (hk : k < h) : p_ev none 106 0 [.ref 24, .int (nI k - nI 1)] [] w = some (.inl (some (.long (w.2.1 28 (k - 1)))), w, 0) := by
  by_cases hn : 1 ≤ k
  · (conv => lhs; simp (disch := first | assumption | omega | (rw [nI_leI] <;> omega) | (rw [nI_ltI] <;> omega) | (rw [nI_eq] <;> omega) | (apply q_out <;> omega) | (apply q_nb; omega) | (apply q_n0 <;> omega)) only [M106, ↓if_pos, ↓if_neg, nI_add, q_sub, q_cl, p_bnd_s, p_bnd_v])
  · obtain rfl : k = 0 := by omega
    have e : nI 0 - nI 1 < nI 0 := by decide
    have e2 : ¬ nI 0 ≤ nI 0 - nI 1 := by decide
    (conv => lhs; simp (disch := first | assumption | omega | (rw [nI_leI] <;> omega) | (rw [nI_ltI] <;> omega) | (rw [nI_eq] <;> omega) | (apply q_out <;> omega) | (apply q_nb; omega) | (apply q_n0 <;> omega)) only [M106, ↓if_pos, ↓if_neg, nI_add, q_sub, q_cl, p_bnd_s, p_bnd_v])
theorem q_n2 : ¬ lN 2 = 0 := by decide
theorem q_n4 : ¬ lN 4 = 0 := by decide
theorem q_n4096 : ¬ lN 4096 = 0 := by decide
theorem q_added_O {step h : Nat} (hM : q_Mw n wv w) (h1 : 1 ≤ h) (hh : h ≤ 16) (hk : k < h) (hs : step < q_nst wv) (he : step % 2 = 0) : p_ev none 107 0 [.ref 24, .int (nI step), .int (nI k), .int (nI h), p_U, p_U, p_U, p_U] [] w = some (.inl (some (.long (q_oc wv step (w.2.1 27 k) (w.2.1 27 (q_nx h k))))), w, 0) := by
  have hw := hM.2.2.2
  unfold q_oc
  unfold q_nst at hs
  by_cases h0 : wv = 0
  · subst h0
    obtain rfl : step = 0 := by split at hs <;> omega
    (conv => lhs; simp (disch := first | assumption | omega | (rw [nI_leI] <;> omega) | (rw [nI_ltI] <;> omega) | (rw [nI_eq] <;> omega) | (apply q_out <;> omega) | (apply q_nb; omega) | (apply q_n0 <;> omega)) only [M107, hM.2.1, ↓if_pos, ↓if_neg, nI_add, q_sub, q_cl, p_bnd_s, p_bnd_v])
    rw [if_pos rfl]
  · by_cases hw1 : wv = 1
    · subst hw1
      obtain rfl : step = 0 := by split at hs <;> omega
      (conv => lhs; simp (disch := first | assumption | omega | (rw [nI_leI] <;> omega) | (rw [nI_ltI] <;> omega) | (rw [nI_eq] <;> omega) | (apply q_out <;> omega) | (apply q_nb; omega) | (apply q_n0 <;> omega)) only [M107, hM.2.1, q_even h1 hh, q_floor q_n2, q_fl2, ↓if_pos, ↓if_neg, nI_add, q_sub, q_cl, p_bnd_s, p_bnd_v])
      simp only [if_neg h0, if_true]
    · obtain rfl : wv = 2 := by omega
      by_cases h3 : step = 0
      · subst h3
        (conv => lhs; simp (disch := first | assumption | omega | (rw [nI_leI] <;> omega) | (rw [nI_ltI] <;> omega) | (rw [nI_eq] <;> omega) | (apply q_out <;> omega) | (apply q_nb; omega) | (apply q_n0 <;> omega)) only [M107, hM.2.1, pk_rem, q_even h1 hh, q_floor q_n4096, q_fl12, ↓if_pos, ↓if_neg, nI_add, q_sub, q_cl, p_bnd_s, p_bnd_v])
        simp only [if_neg h0, if_neg hw1, if_true]
      · obtain rfl : step = 2 := by split at hs <;> omega
        (conv => lhs; simp (disch := first | assumption | omega | (rw [nI_leI] <;> omega) | (rw [nI_ltI] <;> omega) | (rw [nI_eq] <;> omega) | (apply q_out <;> omega) | (apply q_nb; omega) | (apply q_n0 <;> omega)) only [M107, hM.2.1, pk_rem, q_even h1 hh, q_floor q_n4096, q_fl12, ↓if_pos, ↓if_neg, nI_add, q_sub, q_cl, p_bnd_s, p_bnd_v])
        simp only [if_neg h0, if_neg hw1, if_neg h3]
theorem q_added_E {step h : Nat} (hM : q_Mw n wv w) (h1 : 1 ≤ h) (hh : h ≤ 16) (hk : k < h) (hs : step < q_nst wv) (he : step % 2 = 1) : p_ev none 107 0 [.ref 24, .int (nI step), .int (nI k), .int (nI h), p_U, p_U, p_U, p_U] [] w = some (.inl (some (.long (q_ec wv step (w.2.1 28 (k - 1)) (w.2.1 28 k)))), w, 0) := by
  have hw := hM.2.2.2
  have ho := q_odd (w := w) hh hk
  unfold q_ec
  unfold q_nst at hs
  by_cases h0 : wv = 0
  · subst h0
    obtain rfl : step = 1 := by split at hs <;> omega
    (conv => lhs; simp (disch := first | assumption | omega | (rw [nI_leI] <;> omega) | (rw [nI_ltI] <;> omega) | (rw [nI_eq] <;> omega) | (apply q_out <;> omega) | (apply q_nb; omega) | (apply q_n0 <;> omega)) only [M107, hM.2.1, q_floor q_n2, q_fl2, ↓if_pos, ↓if_neg, nI_add, q_sub, q_cl, p_bnd_s, p_bnd_v])
    rw [if_pos rfl]
  · by_cases hw1 : wv = 1
    · subst hw1
      obtain rfl : step = 1 := by split at hs <;> omega
      (conv => lhs; simp (disch := first | assumption | omega | (rw [nI_leI] <;> omega) | (rw [nI_ltI] <;> omega) | (rw [nI_eq] <;> omega) | (apply q_out <;> omega)) only [M107, hM.2.1, ho, q_floor q_n4, q_fl4, ↓if_pos, ↓if_neg, q_cl, p_bnd_s])
      simp only [if_neg h0, if_true]
    · obtain rfl : wv = 2 := by omega
      by_cases h3 : step = 1
      · subst h3
        (conv => lhs; simp (disch := first | assumption | omega | (rw [nI_leI] <;> omega) | (rw [nI_ltI] <;> omega) | (rw [nI_eq] <;> omega) | (apply q_out <;> omega) | (apply q_n0 <;> omega)) only [M107, hM.2.1, ho, pk_rem, q_floor q_n4096, q_fl12, ↓if_pos, ↓if_neg, q_cl, p_bnd_s])
        simp only [if_neg h0, if_neg hw1, if_true]
      · obtain rfl : step = 3 := by split at hs <;> omega
        (conv => lhs; simp (disch := first | assumption | omega | (rw [nI_leI] <;> omega) | (rw [nI_ltI] <;> omega) | (rw [nI_eq] <;> omega) | (apply q_out <;> omega) | (apply q_n0 <;> omega)) only [M107, hM.2.1, ho, pk_rem, q_floor q_n4096, q_fl12, ↓if_pos, ↓if_neg, q_cl, p_bnd_s])
        simp only [if_neg h0, if_neg hw1, if_neg h3]
theorem q_mstep_O {step h : Nat} {sg : Int32} {E O : Nat → Int64} (h1 : 1 ≤ h) (hh : h ≤ 16) (hs : step < q_nst wv) (he : step % 2 = 0) (hM : q_Mw n wv w) (hE : w.2.1 27 = E) : ∀ (d k : Nat), k + d = h →
    p_ev none 109 3 [.ref 24, .int (nI step), .int (nI h), .int sg, .int (nI k)] [] (w.1, q_r w.2.1 28 (q_seg 0 k (fun j => O j + sg.toInt64 * q_oc wv step (E j) (E (q_nx h j))) O), w.2.2) = some (.inl none, (w.1, q_r w.2.1 28 (q_pO wv step sg.toInt64 h E O), w.2.2), 0) := by
  have hst : q_nst wv ≤ 4 := by unfold q_nst; split <;> omega
  have hMJ : ∀ J, q_Mw n wv (w.1, J, w.2.2) := fun _ => hM
  intro d
  induction d with
  | zero =>
    intro k hk
    obtain rfl : k = h := by omega
    (conv => lhs; simp (disch := first | assumption | omega | (rw [nI_leI] <;> omega) | (rw [nI_ltI] <;> omega) | (rw [nI_eq] <;> omega) | (apply q_out <;> omega) | (apply q_nb; omega) | (apply q_n0 <;> omega)) only [H109_3, M109, ↓if_pos, ↓if_neg, nI_add, q_sub, q_cl, p_bnd_s, p_bnd_v])
    rfl
  | succ d ih =>
    intro k hk
    rw [H109_3]
    have ha := fun J => q_added_O (step := step) (hMJ J) h1 hh (show k < h by omega) hs he
    (conv => lhs; simp (disch := first | assumption | omega | (rw [nI_leI] <;> omega) | (rw [nI_ltI] <;> omega) | (rw [nI_eq] <;> omega) | (apply q_out <;> omega) | (apply q_nb; omega) | (apply q_n0 <;> omega)) only [M109, pk_rem, he, ha, q_pu, q_r_s, q_r_n, q_r_r, hE, q_seg_out, ↓if_pos, ↓if_neg, nI_add, q_sub, q_cl, p_bnd_s, p_bnd_v])
    rw [q_seg_Z (new := fun j => O j + sg.toInt64 * q_oc wv step (E j) (E (q_nx h j))) rfl]
    exact ih (k + 1) (by omega)
theorem q_mstep_E {step h : Nat} {sg : Int32} {E O : Nat → Int64} (h1 : 1 ≤ h) (hh : h ≤ 16) (hs : step < q_nst wv) (he : step % 2 = 1) (hM : q_Mw n wv w) (hO : w.2.1 28 = O) : ∀ (d k : Nat), k + d = h →
    p_ev none 109 3 [.ref 24, .int (nI step), .int (nI h), .int sg, .int (nI k)] [] (w.1, q_r w.2.1 27 (q_seg 0 k (fun j => E j + sg.toInt64 * q_ec wv step (O (j - 1)) (O j)) E), w.2.2) = some (.inl none, (w.1, q_r w.2.1 27 (q_pE wv step sg.toInt64 h E O), w.2.2), 0) := by
  have hst : q_nst wv ≤ 4 := by unfold q_nst; split <;> omega
  have hMJ : ∀ J, q_Mw n wv (w.1, J, w.2.2) := fun _ => hM
  intro d
  induction d with
  | zero =>
    intro k hk
    obtain rfl : k = h := by omega
    (conv => lhs; simp (disch := first | assumption | omega | (rw [nI_leI] <;> omega) | (rw [nI_ltI] <;> omega) | (rw [nI_eq] <;> omega) | (apply q_out <;> omega) | (apply q_nb; omega) | (apply q_n0 <;> omega)) only [H109_3, M109, ↓if_pos, ↓if_neg, nI_add, q_sub, q_cl, p_bnd_s, p_bnd_v])
    rfl
  | succ d ih =>
    intro k hk
    rw [H109_3]
    have ha := fun J => q_added_E (step := step) (hMJ J) h1 hh (show k < h by omega) hs he
    (conv => lhs; simp (disch := first | assumption | omega | (rw [nI_leI] <;> omega) | (rw [nI_ltI] <;> omega) | (rw [nI_eq] <;> omega) | (apply q_out <;> omega) | (apply q_nb; omega) | (apply q_n0 <;> omega)) only [M109, pk_rem, he, ha, q_pu, q_r_s, q_r_n, q_r_r, hO, q_seg_out, ↓if_pos, ↓if_neg, nI_add, q_sub, q_cl, p_bnd_s, p_bnd_v])
    rw [q_seg_Z (new := fun j => E j + sg.toInt64 * q_ec wv step (O (j - 1)) (O j)) rfl]
    exact ih (k + 1) (by omega)
/-- one step on evens and odds -/
def q_ps (wv step : Nat) (sg : Int64) (h : Nat) (p : (Nat → Int64) × (Nat → Int64)) : (Nat → Int64) × (Nat → Int64) := if step % 2 = 0 then (p.1, q_pO wv step sg h p.1 p.2) else (q_pE wv step sg h p.1 p.2, p.2)
theorem q_mstep {step h : Nat} {sg : Int32} (h1 : 1 ≤ h) (hh : h ≤ 16) (hs : step < q_nst wv) (hM : q_Mw n wv w) :
    p_ev none 109 0 [.ref 24, .int (nI step), .int (nI h), .int sg, p_U] [] w = some (.inl none, (w.1, q_r (q_r w.2.1 27 (q_ps wv step sg.toInt64 h (w.2.1 27, w.2.1 28)).1) 28 (q_ps wv step sg.toInt64 h (w.2.1 27, w.2.1 28)).2, w.2.2), 0) := by
  have e1 : w = (w.1, q_r w.2.1 28 (w.2.1 28), w.2.2) := by rw [q_r_id]
  have e2 : w = (w.1, q_r w.2.1 27 (w.2.1 27), w.2.2) := by rw [q_r_id]
  (conv => lhs; simp (disch := first | assumption | omega | (rw [nI_leI] <;> omega) | (rw [nI_ltI] <;> omega) | (rw [nI_eq] <;> omega) | (apply q_out <;> omega) | (apply q_nb; omega) | (apply q_n0 <;> omega)) only [M109, ↓if_pos, ↓if_neg, nI_add, q_sub, q_cl, p_bnd_s, p_bnd_v])
  unfold q_ps
  by_cases he : step % 2 = 0
  · have z := q_mstep_O (w := w) (sg := sg) (O := w.2.1 28) h1 hh hs he hM rfl h 0 (by omega)
    rw [q_seg_0, ← e1] at z
    rw [z]
    simp only [he, if_true, q_r_id]
  · have z := q_mstep_E (w := w) (sg := sg) (E := w.2.1 27) h1 hh hs (by omega) hM rfl h 0 (by omega)
    rw [q_seg_0, ← e2] at z
    rw [z]
    simp only [he, if_false]
    refine congrArg some (congrArg (Prod.mk _) (congrArg (fun z => (z, 0)) (congrArg (fun z => (w.1, z, w.2.2)) ?_)))
    funext b
    by_cases hb : b = 28
    · subst hb; rw [q_r_s, q_r_n (by decide)]
    · rw [q_r_n (a := 28) hb]
theorem q_msteps (hM : q_Mw n wv w) : p_ev none 108 0 [.ref 24] [] w = some (.inl (some (.int (nI (q_nst wv)))), w, 0) := by
  have hw := hM.2.2.2
  unfold q_nst
  by_cases h2 : wv = 2
  · subst h2
    (conv => lhs; simp (disch := first | assumption | omega | (rw [nI_leI] <;> omega) | (rw [nI_ltI] <;> omega) | (rw [nI_eq] <;> omega) | (apply q_out <;> omega) | (apply q_nb; omega) | (apply q_n0 <;> omega)) only [M108, hM.2.1, ↓if_pos, ↓if_neg, nI_add, q_sub, q_cl, p_bnd_s, p_bnd_v])
    rfl
  · (conv => lhs; simp (disch := first | assumption | omega | (rw [nI_leI] <;> omega) | (rw [nI_ltI] <;> omega) | (rw [nI_eq] <;> omega) | (apply q_out <;> omega) | (apply q_nb; omega) | (apply q_n0 <;> omega)) only [M108, hM.2.1, ↓if_pos, ↓if_neg, nI_add, q_sub, q_cl, p_bnd_s, p_bnd_v])
    rw [if_neg h2]
def q_pu2 (wv h : Nat) : Nat → Nat → (Nat → Int64) × (Nat → Int64) → (Nat → Int64) × (Nat → Int64)
  | 0, _, p => p
  | d + 1, k, p => q_pu2 wv h d (k + 1) (q_ps wv k 1 h p)
def q_pd2 (wv h : Nat) : Nat → (Nat → Int64) × (Nat → Int64) → (Nat → Int64) × (Nat → Int64)
  | 0, p => p
  | k + 1, p => q_pd2 wv h k (q_ps wv k (-1) h p)
end ML
