/-! THE CLASS: THRESHOLDS -/
def q_z (t e : Nat) (v : Int64) : Int64 := if p_abs v ≤ lN t then lN 0 else if v < lN 0 then v + lN e else v - lN e
def q_zc (t : Nat) (x : Nat → Int64) (s : Nat) : Nat → Nat
  | 0 => 0
  | m + 1 => q_zc t x s m + if p_abs (x (s + m)) ≤ lN t ∧ ¬ x (s + m) = lN 0 then 1 else 0
theorem q_zc_le {t : Nat} {x : Nat → Int64} {s : Nat} : ∀ m, q_zc t x s m ≤ m
  | 0 => Nat.le_refl 0
  | m + 1 => by have := q_zc_le (t := t) (x := x) (s := s) m; rw [q_zc]; split <;> omega
theorem q_seg_U {b m : Nat} {new x : Nat → Int64} (h : new (b + m) = x (b + m)) : q_seg b m new x = q_seg b (m + 1) new x := by
  funext j
  unfold q_seg
  by_cases e : j = b + m
  · rw [if_neg (by omega), if_pos (by omega), e, h]
  · by_cases e2 : b ≤ j ∧ j < b + m
    · rw [if_pos e2, if_pos (by omega)]
    · rw [if_neg e2, if_neg (by omega)]
section Ze
variable {n wv : Nat} {sp : Nat → Bool} {x : Nat → Int64} {w : pW}
theorem q_pyr (h : q_C n wv sp w) : p_ev none 65 0 [.ref 0, p_U] [] w = some (.inl (some (.int (nI (!(sp 3) && !(sp 5) && !(sp 7)).toNat))), w, 0) := by
  have h3 : (3 : Nat) < 2 ^ 31 := by decide
  have h5 : (3 + 2 : Nat) < 2 ^ 31 := by decide
  have h7 : (3 + 2 + 2 : Nat) < 2 ^ 31 := by decide
  have e : ¬ nI 1 = nI 0 := by decide
  have g3 := q_hasChildren h h3
  have g5 := q_hasChildren h h5
  have g7 := q_hasChildren h h7
  cases s3 : sp 3
  · rw [show sp (3 + 2) = sp 5 from rfl] at g5
    cases s5 : sp 5
    · rw [show sp (3 + 2 + 2) = sp 7 from rfl] at g7
      cases s7 : sp 7
      · rw [s3] at g3; rw [s5] at g5; rw [s7] at g7
        (conv => lhs; simp (disch := first | assumption | omega | (rw [nI_leI] <;> omega) | (rw [nI_ltI] <;> omega) | (rw [nI_eq] <;> omega) | (apply q_out <;> omega) | (apply q_nb; omega) | (apply q_n0 <;> omega)) only [M65, H65_2, g3, g5, g7, Bool.toNat_false, ↓if_pos, ↓if_neg, nI_add, q_sub, q_cl, p_bnd_s, p_bnd_v]); rfl
      · rw [s3] at g3; rw [s5] at g5; rw [s7] at g7
        (conv => lhs; simp (disch := first | assumption | omega | (rw [nI_leI] <;> omega) | (rw [nI_ltI] <;> omega) | (rw [nI_eq] <;> omega) | (apply q_out <;> omega) | (apply q_nb; omega) | (apply q_n0 <;> omega)) only [M65, H65_2, g3, g5, g7, Bool.toNat_false, Bool.toNat_true, ↓if_pos, ↓if_neg, nI_add, q_sub, q_cl, p_bnd_s, p_bnd_v]); rfl
    · rw [s3] at g3; rw [s5] at g5
      (conv => lhs; simp (disch := first | assumption | omega | (rw [nI_leI] <;> omega) | (rw [nI_ltI] <;> omega) | (rw [nI_eq] <;> omega) | (apply q_out <;> omega) | (apply q_nb; omega) | (apply q_n0 <;> omega)) only [M65, H65_2, g3, g5, Bool.toNat_false, Bool.toNat_true, ↓if_pos, ↓if_neg, nI_add, q_sub, q_cl, p_bnd_s, p_bnd_v]); rfl
  · rw [s3] at g3
    (conv => lhs; simp (disch := first | assumption | omega | (rw [nI_leI] <;> omega) | (rw [nI_ltI] <;> omega) | (rw [nI_eq] <;> omega) | (apply q_out <;> omega) | (apply q_nb; omega) | (apply q_n0 <;> omega)) only [M65, H65_2, g3, Bool.toNat_true, ↓if_pos, ↓if_neg, nI_add, q_sub, q_cl, p_bnd_s, p_bnd_v]); rfl
theorem q_zero_l {s m t e : Nat} (hb : s + m ≤ 32) (ht : t < 2 ^ 31) (he : e < 2 ^ 31) (x1 : Int32) : ∀ (d i : Nat) (z7 : Value), i + d = m →
    p_ev none 88 32 [.ref 0, .int x1, .int (nI t), .int (nI e), .int (nI (q_zc t x s i)), .int (nI (s + m)), .int (nI (s + i)), z7, p_U] [] (w.1, q_r w.2.1 11 (q_seg s i (fun j => q_z t e (x j)) x), w.2.2) = some (.inl (some (.int (nI (q_zc t x s m)))), (w.1, q_r w.2.1 11 (q_seg s m (fun j => q_z t e (x j)) x), w.2.2), 0) := by
  intro d
  induction d with
  | zero =>
    intro i z7 hi
    obtain rfl : i = m := by omega
    rw [H88_32]
    (conv => lhs; simp (disch := first | assumption | omega | (rw [nI_leI] <;> omega) | (rw [nI_ltI] <;> omega) | (rw [nI_eq] <;> omega) | (apply q_out <;> omega) | (apply q_nb; omega) | (apply q_n0 <;> omega)) only [M88, ↓if_pos, ↓if_neg, nI_add, q_sub, q_cl, p_bnd_s, p_bnd_v])
  | succ d ih =>
    intro i z7 hi
    have hzl := q_zc_le (t := t) (x := x) (s := s) i
    have e1 : q_seg s i (fun j => q_z t e (x j)) x (s + i) = x (s + i) := q_seg_out (by omega)
    rw [H88_32]
    by_cases hm : p_abs (x (s + i)) ≤ lN t
    · have hm' : lg_cmp (p_abs (x (s + i))) (lN t) ≤ nI 0 := q_cmpE.mpr hm
      by_cases h0 : x (s + i) = lN 0
      · have h0' : lg_cmp (x (s + i)) (lN 0) = nI 0 := q_cmp0.mpr h0
        have hz : q_zc t x s (i + 1) = q_zc t x s i := by rw [q_zc, if_neg (fun z => z.2 h0)]; rfl
        have hseg : q_seg s i (fun j => q_z t e (x j)) x = q_seg s (i + 1) (fun j => q_z t e (x j)) x := q_seg_U (by unfold q_z; rw [if_pos hm, h0])
        (conv => lhs; simp (disch := first | assumption | omega | (rw [nI_leI] <;> omega) | (rw [nI_ltI] <;> omega) | (rw [nI_eq] <;> omega) | (apply q_out <;> omega) | (apply q_nb; omega) | (apply q_n0 <;> omega)) only [M88, q_get q_r4, q_mag q_r4, q_r_s, e1, nI_l, ↓if_pos, ↓if_neg, nI_add, q_sub, q_cl, p_bnd_s, p_bnd_v])
        rw [hseg, ← hz]
        exact ih (i + 1) _ (by omega)
      · have h0' : ¬ lg_cmp (x (s + i)) (lN 0) = nI 0 := fun z => h0 (q_cmp0.mp z)
        have hz : q_zc t x s (i + 1) = q_zc t x s i + 1 := by rw [q_zc, if_pos ⟨hm, h0⟩]
        (conv => lhs; simp (disch := first | assumption | omega | (rw [nI_leI] <;> omega) | (rw [nI_ltI] <;> omega) | (rw [nI_eq] <;> omega) | (apply q_out <;> omega) | (apply q_nb; omega) | (apply q_n0 <;> omega)) only [M88, q_get q_r4, q_mag q_r4, q_set q_r4, q_r_s, q_r_r, e1, nI_l, ↓if_pos, ↓if_neg, nI_add, q_sub, q_cl, p_bnd_s, p_bnd_v])
        rw [q_seg_S (by unfold q_z; rw [if_pos hm]), ← hz]
        exact ih (i + 1) _ (by omega)
    · have hm' : ¬ lg_cmp (p_abs (x (s + i))) (lN t) ≤ nI 0 := fun z => hm (q_cmpE.mp z)
      have hz : q_zc t x s (i + 1) = q_zc t x s i := by rw [q_zc, if_neg (fun z => hm z.1)]; rfl
      by_cases h0 : x (s + i) < lN 0
      · have h0' : ¬ nI 0 ≤ lg_cmp (x (s + i)) (lN 0) := fun z => absurd h0 (Int64.not_lt.mpr (q_cmpG.mp z))
        (conv => lhs; simp (disch := first | assumption | omega | (rw [nI_leI] <;> omega) | (rw [nI_ltI] <;> omega) | (rw [nI_eq] <;> omega) | (apply q_out <;> omega) | (apply q_nb; omega) | (apply q_n0 <;> omega)) only [M88, q_get q_r4, q_mag q_r4, q_set q_r4, q_r_s, q_r_r, e1, nI_l, ↓if_pos, ↓if_neg, nI_add, q_sub, q_cl, p_bnd_s, p_bnd_v])
        rw [q_seg_S (by unfold q_z; rw [if_neg hm, if_pos h0]), ← hz]
        exact ih (i + 1) _ (by omega)
      · have h0' : nI 0 ≤ lg_cmp (x (s + i)) (lN 0) := q_cmpG.mpr (Int64.not_lt.mp h0)
        (conv => lhs; simp (disch := first | assumption | omega | (rw [nI_leI] <;> omega) | (rw [nI_ltI] <;> omega) | (rw [nI_eq] <;> omega) | (apply q_out <;> omega) | (apply q_nb; omega) | (apply q_n0 <;> omega)) only [M88, q_get q_r4, q_mag q_r4, q_set q_r4, q_r_s, q_r_r, e1, nI_l, ↓if_pos, ↓if_neg, nI_add, q_sub, q_cl, p_bnd_s, p_bnd_v])
        rw [q_seg_S (by unfold q_z; rw [if_neg hm, if_neg h0]), ← hz]
        exact ih (i + 1) _ (by omega)
end Ze
