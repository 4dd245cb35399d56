/-! THE CODE: THE FIRST PASS -/
def q_f1 (n lo : Nat) (x R : Nat → Int64) (pl p : Nat) : List q_ev :=
  if q_sh (p_abs (x p)) pl = lN 1 then [(1, 1, p, pl), (2, if x p < lN 0 then 1 else 0, p, pl)]
  else if q_sh (p_abs (x p)) pl = lN 0 ∧ q_lft lo p pl R = false then (0, 0, p, 0) :: (if q_de n lo p = true then [(0, if q_sh (R p) pl = lN 0 then 0 else 1, p, 0)] else [])
  else []
def q_f2 (n lo : Nat) (x R : Nat → Int64) (pl : Nat) : Nat → Nat → List q_ev
  | _, 0 => []
  | k, d + 1 => q_f1 n lo x R pl k ++ q_f2 n lo x R pl (k + 1) d
section F2
variable {n lo pl : Nat} {x R : Nat → Int64}
theorem q_pass1_l (hn : n ≤ 32) (hlo : lo < 2 ^ 20) (hpl : pl < 64) : ∀ (d k : Nat) (w : pW) (E : List q_ev) (z3 : Value), k + d = n → q_W n lo w → w.2.1 16 = x → w.2.1 17 = R → q_E E w → (E ++ q_f2 n lo x R pl k d).length ≤ 4038 → ∃ w', p_ev none 7 2 [.ref 3, .int (nI pl), .int (nI k), z3, p_U] [] w = some (.inl none, w', 0) ∧ q_E (E ++ q_f2 n lo x R pl k d) w' ∧ q_X w w' := by
  have h9 : p_rw 9 := ⟨rfl, rfl⟩
  have h10 : p_rw 10 := ⟨rfl, rfl⟩
  intro d
  induction d with
  | zero =>
    intro k w E z3 hk hW hx hR hE hl
    refine ⟨w, ?_, ?_, q_X.rf⟩
    · have e : k = n := by omega
      rw [e, H7_2]
      (conv => lhs; simp (disch := first | assumption | omega | (rw [nI_leI] <;> omega) | (rw [nI_ltI] <;> omega) | (rw [nI_eq] <;> omega) | (apply q_out <;> omega) | (apply q_nb; omega) | (apply q_n0 <;> omega)) only [M7, hW.1, ↓if_pos, ↓if_neg, nI_add, q_sub, q_cl, p_bnd_s, p_bnd_v])
    · rw [q_f2, List.append_nil]; exact hE
  | succ d ih =>
    intro k w E z3 hk hW hx hR hE hl
    have e16 : w.2.1 16 k = x k := by rw [hx]
    have e17 : w.2.1 17 k = R k := by rw [hR]
    have e1 : ¬ nI 1 = nI 0 := by decide
    rw [q_f2] at hl ⊢
    by_cases hm : q_sh (p_abs (x k)) pl = lN 1
    · have hm1 : lg_cmp (p_abs (x k) >>> ((nI pl).toInt64 &&& 63)) (lN 1) = nI 0 := q_cmp0.mpr hm
      have hm2 : ¬ ¬ lg_cmp (p_abs (x k) >>> ((nI pl).toInt64 &&& 63)) (lN 1) = nI 0 := fun z => z hm1
      have hs : q_f1 n lo x R pl k = [(1, 1, k, pl), (2, if x k < lN 0 then 1 else 0, k, pl)] := if_pos hm
      rw [hs] at hl ⊢
      have hl2 : E.length + 1 < 4038 := by simp only [List.length_append, List.length_cons, List.length_nil] at hl; omega
      have hE2 := q_E_put (e := (1, 1, k, pl)) hE ⟨by show 1 < 2; omega, by show k < 32; omega, by show pl < 64; omega⟩
      have hE3 := q_E_put (e := (2, if x k < lN 0 then 1 else 0, k, pl)) hE2 ⟨by show (if x k < lN 0 then 1 else 0) < 2; split <;> omega, by show k < 32; omega, by show pl < 64; omega⟩
      have hlE : (E ++ [(1, 1, k, pl)]).length < 4038 := by simp only [List.length_append, List.length_cons, List.length_nil]; omega
      have hq2 := fun a b d => q_putE (a := a) (b := b) (d := d) hE2 hlE
      rw [show E ++ ([(1, 1, k, pl), (2, if x k < lN 0 then 1 else 0, k, pl)] ++ q_f2 n lo x R pl (k + 1) d) = E ++ [(1, 1, k, pl)] ++ [(2, if x k < lN 0 then 1 else 0, k, pl)] ++ q_f2 n lo x R pl (k + 1) d by simp] at hl ⊢
      obtain ⟨w', h1, h2, h3⟩ := ih (k + 1) _ _ (.long (q_sh (p_abs (x k)) pl)) (by omega) (q_W_put (q_W_put hW)) hx hR hE3 hl
      refine ⟨w', ?_, h2, (q_X_put.tr q_X_put).tr h3⟩
      rw [H7_2]
      by_cases hv : x k < lN 0
      · have hv1 : ¬ nI 0 ≤ lg_cmp (x k) (lN 0) := fun z => absurd hv (Int64.not_lt.mpr (q_cmpG.mp z))
        (conv => lhs; simp (disch := first | assumption | omega | (rw [nI_leI] <;> omega) | (rw [nI_ltI] <;> omega) | (rw [nI_eq] <;> omega) | (apply q_out <;> omega) | (apply q_nb; omega) | (apply q_n0 <;> omega)) only [M7, hW.1, q_mag h9, q_get h9, q_put_l, e16, q_put1E hE, ↓if_pos, ↓if_neg, nI_add, q_sub, q_cl, p_bnd_s, p_bnd_v])
        rw [if_pos hv] at h1
        rw [show (-1 : Int32) = q_e2 (1, 1, k, pl) from rfl, show nI 0 = q_e3 (1, 1, k, pl) from rfl, show nI 1 = q_e1 (1, 1, k, pl) from rfl, hq2]
        (conv => lhs; simp (disch := first | assumption | omega | (rw [nI_leI] <;> omega) | (rw [nI_ltI] <;> omega) | (rw [nI_eq] <;> omega) | (apply q_out <;> omega) | (apply q_nb; omega) | (apply q_n0 <;> omega)) only [M7, ↓if_pos, ↓if_neg, nI_add, q_sub, q_cl, p_bnd_s, p_bnd_v])
        exact h1
      · have hv1 : nI 0 ≤ lg_cmp (x k) (lN 0) := q_cmpG.mpr (Int64.not_lt.mp hv)
        (conv => lhs; simp (disch := first | assumption | omega | (rw [nI_leI] <;> omega) | (rw [nI_ltI] <;> omega) | (rw [nI_eq] <;> omega) | (apply q_out <;> omega) | (apply q_nb; omega) | (apply q_n0 <;> omega)) only [M7, hW.1, q_mag h9, q_get h9, q_put_l, e16, q_put1E hE, ↓if_pos, ↓if_neg, nI_add, q_sub, q_cl, p_bnd_s, p_bnd_v])
        rw [if_neg hv] at h1
        rw [show q_put E.length (nI 1) (-1) (nI 0) w = q_put E.length (q_e1 (1, 1, k, pl)) (q_e2 (1, 1, k, pl)) (q_e3 (1, 1, k, pl)) w from rfl, hq2]
        (conv => lhs; simp (disch := first | assumption | omega | (rw [nI_leI] <;> omega) | (rw [nI_ltI] <;> omega) | (rw [nI_eq] <;> omega) | (apply q_out <;> omega) | (apply q_nb; omega) | (apply q_n0 <;> omega)) only [M7, ↓if_pos, ↓if_neg, nI_add, q_sub, q_cl, p_bnd_s, p_bnd_v])
        exact h1
    · have hm1 : ¬ lg_cmp (p_abs (x k) >>> ((nI pl).toInt64 &&& 63)) (lN 1) = nI 0 := fun z => hm (q_cmp0.mp z)
      have hz : ∀ z : Value, z = z := fun _ => rfl
      by_cases h0 : q_sh (p_abs (x k)) pl = lN 0
      · have h01 : lg_cmp (p_abs (x k) >>> ((nI pl).toInt64 &&& 63)) (lN 0) = nI 0 := q_cmp0.mpr h0
        have h02 : ¬ ¬ lg_cmp (p_abs (x k) >>> ((nI pl).toInt64 &&& 63)) (lN 0) = nI 0 := fun z => z h01
        have hL := q_leftOut (pl := pl) hW hlo (show k < 32 by omega)
        rw [hR] at hL
        cases hlf : q_lft lo k pl R
        · rw [hlf] at hL
          have hl0 : (false.toNat) = 0 := rfl
          rw [hl0] at hL
          have hD := fun c a b d => q_hasDesc (q_W_put (c := c) (a := a) (b := b) (d := d) hW) (show n < 2 ^ 20 by omega) hlo (show k < 2 ^ 20 by omega)
          have hE2 := q_E_put (e := (0, 0, k, 0)) hE ⟨by show 0 < 2; omega, by show k < 32; omega, by show 0 < 64; omega⟩
          cases hde : q_de n lo k
          · have hs : q_f1 n lo x R pl k = [(0, 0, k, 0)] := by unfold q_f1; rw [if_neg hm, if_pos ⟨h0, hlf⟩, if_neg (by rw [hde]; exact Bool.false_ne_true)]
            rw [hs] at hl ⊢
            rw [hde] at hD
            have hd0 : (false.toNat) = 0 := rfl
            rw [hd0] at hD
            have hl2 : E.length < 4038 := by simp only [List.length_append, List.length_cons, List.length_nil] at hl; omega
            rw [← List.append_assoc] at hl ⊢
            obtain ⟨w', h1, h2, h3⟩ := ih (k + 1) _ _ (.long (q_sh (p_abs (x k)) pl)) (by omega) (q_W_put hW) hx hR hE2 hl
            refine ⟨w', ?_, h2, q_X_put.tr h3⟩
            rw [H7_2]
            (conv => lhs; simp (disch := first | assumption | omega | (rw [nI_leI] <;> omega) | (rw [nI_ltI] <;> omega) | (rw [nI_eq] <;> omega) | (apply q_out <;> omega) | (apply q_nb; omega) | (apply q_n0 <;> omega)) only [M7, hW.1, q_mag h9, e16, hL, q_put1E hE, hD, ↓if_pos, ↓if_neg, nI_add, q_sub, q_cl, p_bnd_s, p_bnd_v])
            exact h1
          · have hs : q_f1 n lo x R pl k = [(0, 0, k, 0), (0, if q_sh (R k) pl = lN 0 then 0 else 1, k, 0)] := by unfold q_f1; rw [if_neg hm, if_pos ⟨h0, hlf⟩, if_pos hde]
            rw [hs] at hl ⊢
            rw [hde] at hD
            have hd0 : (true.toNat) = 1 := rfl
            rw [hd0] at hD
            have hl2 : E.length + 1 < 4038 := by simp only [List.length_append, List.length_cons, List.length_nil] at hl; omega
            have hE3 := q_E_put (e := (0, if q_sh (R k) pl = lN 0 then 0 else 1, k, 0)) hE2 ⟨by show (if q_sh (R k) pl = lN 0 then 0 else 1) < 2; split <;> omega, by show k < 32; omega, by show 0 < 64; omega⟩
            have hlE : (E ++ [(0, 0, k, 0)]).length < 4038 := by simp only [List.length_append, List.length_cons, List.length_nil]; omega
            have hq2 := fun a => q_put1E (a := a) hE2 hlE
            rw [show E ++ ([(0, 0, k, 0), (0, if q_sh (R k) pl = lN 0 then 0 else 1, k, 0)] ++ q_f2 n lo x R pl (k + 1) d) = E ++ [(0, 0, k, 0)] ++ [(0, if q_sh (R k) pl = lN 0 then 0 else 1, k, 0)] ++ q_f2 n lo x R pl (k + 1) d by simp] at hl ⊢
            obtain ⟨w', h1, h2, h3⟩ := ih (k + 1) _ _ (.long (q_sh (p_abs (x k)) pl)) (by omega) (q_W_put (q_W_put hW)) hx hR hE3 hl
            refine ⟨w', ?_, h2, (q_X_put.tr q_X_put).tr h3⟩
            rw [H7_2]
            by_cases hr : q_sh (R k) pl = lN 0
            · have hr1 : lg_cmp (R k >>> ((nI pl).toInt64 &&& 63)) (lN 0) = nI 0 := q_cmp0.mpr hr
              have hr2 : ¬ ¬ lg_cmp (R k >>> ((nI pl).toInt64 &&& 63)) (lN 0) = nI 0 := fun z => z hr1
              (conv => lhs; simp (disch := first | assumption | omega | (rw [nI_leI] <;> omega) | (rw [nI_ltI] <;> omega) | (rw [nI_eq] <;> omega) | (apply q_out <;> omega) | (apply q_nb; omega) | (apply q_n0 <;> omega)) only [M7, hW.1, q_mag h9, e16, hL, q_put1E hE, hD, q_get h10, q_put_l, e17, ↓if_pos, ↓if_neg, nI_add, q_sub, q_cl, p_bnd_s, p_bnd_v])
              rw [if_pos hr] at h1
              rw [show q_put E.length (nI 0) (-1) (nI 0) w = q_put E.length (q_e1 (0, 0, k, 0)) (q_e2 (0, 0, k, 0)) (q_e3 (0, 0, k, 0)) w from rfl, hq2]
              (conv => lhs; simp (disch := first | assumption | omega | (rw [nI_leI] <;> omega) | (rw [nI_ltI] <;> omega) | (rw [nI_eq] <;> omega) | (apply q_out <;> omega) | (apply q_nb; omega) | (apply q_n0 <;> omega)) only [M7, ↓if_pos, ↓if_neg, nI_add, q_sub, q_cl, p_bnd_s, p_bnd_v])
              exact h1
            · have hr1 : ¬ lg_cmp (R k >>> ((nI pl).toInt64 &&& 63)) (lN 0) = nI 0 := fun z => hr (q_cmp0.mp z)
              (conv => lhs; simp (disch := first | assumption | omega | (rw [nI_leI] <;> omega) | (rw [nI_ltI] <;> omega) | (rw [nI_eq] <;> omega) | (apply q_out <;> omega) | (apply q_nb; omega) | (apply q_n0 <;> omega)) only [M7, hW.1, q_mag h9, e16, hL, q_put1E hE, hD, q_get h10, q_put_l, e17, ↓if_pos, ↓if_neg, nI_add, q_sub, q_cl, p_bnd_s, p_bnd_v])
              rw [if_neg hr] at h1
              rw [show q_put E.length (nI 0) (-1) (nI 0) w = q_put E.length (q_e1 (0, 0, k, 0)) (q_e2 (0, 0, k, 0)) (q_e3 (0, 0, k, 0)) w from rfl, hq2]
              (conv => lhs; simp (disch := first | assumption | omega | (rw [nI_leI] <;> omega) | (rw [nI_ltI] <;> omega) | (rw [nI_eq] <;> omega) | (apply q_out <;> omega) | (apply q_nb; omega) | (apply q_n0 <;> omega)) only [M7, ↓if_pos, ↓if_neg, nI_add, q_sub, q_cl, p_bnd_s, p_bnd_v])
              exact h1
        · rw [hlf] at hL
          have hl0 : (true.toNat) = 1 := rfl
          rw [hl0] at hL
          have hs : q_f1 n lo x R pl k = [] := by unfold q_f1; rw [if_neg hm, if_neg (fun z => by rw [hlf] at z; exact absurd z.2.symm Bool.false_ne_true)]
          rw [hs, List.nil_append] at hl ⊢
          obtain ⟨w', h1, h2, h3⟩ := ih (k + 1) w E (.long (q_sh (p_abs (x k)) pl)) (by omega) hW hx hR hE hl
          refine ⟨w', ?_, h2, h3⟩
          rw [H7_2]
          (conv => lhs; simp (disch := first | assumption | omega | (rw [nI_leI] <;> omega) | (rw [nI_ltI] <;> omega) | (rw [nI_eq] <;> omega) | (apply q_out <;> omega) | (apply q_nb; omega) | (apply q_n0 <;> omega)) only [M7, hW.1, q_mag h9, e16, hL, ↓if_pos, ↓if_neg, nI_add, q_sub, q_cl, p_bnd_s, p_bnd_v])
          exact h1
      · have h01 : ¬ lg_cmp (p_abs (x k) >>> ((nI pl).toInt64 &&& 63)) (lN 0) = nI 0 := fun z => h0 (q_cmp0.mp z)
        have hs : q_f1 n lo x R pl k = [] := by unfold q_f1; rw [if_neg hm, if_neg (fun z => h0 z.1)]
        rw [hs, List.nil_append] at hl ⊢
        obtain ⟨w', h1, h2, h3⟩ := ih (k + 1) w E (.long (q_sh (p_abs (x k)) pl)) (by omega) hW hx hR hE hl
        refine ⟨w', ?_, h2, h3⟩
        rw [H7_2]
        (conv => lhs; simp (disch := first | assumption | omega | (rw [nI_leI] <;> omega) | (rw [nI_ltI] <;> omega) | (rw [nI_eq] <;> omega) | (apply q_out <;> omega) | (apply q_nb; omega) | (apply q_n0 <;> omega)) only [M7, hW.1, q_mag h9, e16, ↓if_pos, ↓if_neg, nI_add, q_sub, q_cl, p_bnd_s, p_bnd_v])
        exact h1
theorem q_pass1 (hn : n ≤ 32) (hlo : lo < 2 ^ 20) (hpl : pl < 64) {w : pW} {E : List q_ev} (hW : q_W n lo w) (hx : w.2.1 16 = x) (hR : w.2.1 17 = R) (hE : q_E E w) (hl : (E ++ q_f2 n lo x R pl 0 n).length ≤ 4038) : ∃ w', p_ev none 7 0 [.ref 3, .int (nI pl), p_U, p_U, p_U] [] w = some (.inl none, w', 0) ∧ q_E (E ++ q_f2 n lo x R pl 0 n) w' ∧ q_X w w' := by
  obtain ⟨w', h1, h2, h3⟩ := q_pass1_l hn hlo hpl n 0 w E p_U (by omega) hW hx hR hE hl
  refine ⟨w', ?_, h2, h3⟩
  (conv => lhs; simp (disch := first | assumption | omega | (rw [nI_leI] <;> omega) | (rw [nI_ltI] <;> omega) | (rw [nI_eq] <;> omega) | (apply q_out <;> omega) | (apply q_nb; omega) | (apply q_n0 <;> omega)) only [M7, ↓if_pos, ↓if_neg, nI_add, q_sub, q_cl, p_bnd_s, p_bnd_v])
  exact h1
end F2
