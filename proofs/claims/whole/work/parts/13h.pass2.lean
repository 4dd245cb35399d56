/-! THE CODE: THE SECOND PASS -/
def q_s1 (x : Nat → Int64) (pl p : Nat) : List q_ev := if lN 1 < q_sh (p_abs (x p)) pl then [(3, q_b1 (q_sh (p_abs (x p)) pl), p, pl)] else []
def q_s2 (x : Nat → Int64) (pl : Nat) : Nat → Nat → List q_ev
  | _, 0 => []
  | k, d + 1 => q_s1 x pl k ++ q_s2 x pl (k + 1) d
section S2
variable {n lo pl : Nat} {x : Nat → Int64}
theorem q_pass2_l (hn : n ≤ 32) (hpl : pl < 64) : ∀ (d k : Nat) (w : pW) (E : List q_ev) (z3 : Value), k + d = n → q_W n lo w → w.2.1 16 = x → q_E E w → (E ++ q_s2 x pl k d).length ≤ 4038 → ∃ w', p_ev none 8 2 [.ref 3, .int (nI pl), .int (nI k), z3, p_U] [] w = some (.inl none, w', 0) ∧ q_E (E ++ q_s2 x pl k d) w' ∧ q_X w w' := by
  have h9 : p_rw 9 := ⟨rfl, rfl⟩
  intro d
  induction d with
  | zero =>
    intro k w E z3 hk hW hx hE hl
    refine ⟨w, ?_, ?_, q_X.rf⟩
    · have e : k = n := by omega
      rw [e, H8_2]
      (conv => lhs; simp (disch := first | assumption | omega | (rw [nI_leI] <;> omega) | (rw [nI_ltI] <;> omega) | (rw [nI_eq] <;> omega) | (apply q_out <;> omega) | (apply q_nb; omega) | (apply q_n0 <;> omega)) only [M8, hW.1, ↓if_pos, ↓if_neg, nI_add, q_sub, q_cl, p_bnd_s, p_bnd_v])
    · rw [q_s2, List.append_nil]; exact hE
  | succ d ih =>
    intro k w E z3 hk hW hx hE hl
    have e16 : w.2.1 16 k = x k := by rw [hx]
    rw [q_s2] at hl ⊢
    by_cases hm : lN 1 < q_sh (p_abs (x k)) pl
    · have hm1 : ¬ lg_cmp (p_abs (x k) >>> ((nI pl).toInt64 &&& 63)) (lN 1) ≤ nI 0 := fun z => absurd hm (Int64.not_lt.mpr (q_cmpE.mp z))
      have hs : q_s1 x pl k = [(3, q_b1 (q_sh (p_abs (x k)) pl), k, pl)] := if_pos hm
      rw [hs] at hl ⊢
      have hl2 : E.length < 4038 := by simp only [List.length_append, List.length_singleton] at hl; omega
      have hE2 := q_E_put (e := (3, q_b1 (q_sh (p_abs (x k)) pl), k, pl)) hE ⟨q_b1_lt, by show k < 32; omega, by show pl < 64; omega⟩
      rw [← List.append_assoc] at hl ⊢
      obtain ⟨w', h1, h2, h3⟩ := ih (k + 1) _ _ (.long (q_sh (p_abs (x k)) pl)) (by omega) (q_W_put hW) hx hE2 hl
      refine ⟨w', ?_, h2, q_X_put.tr h3⟩
      rw [H8_2]
      (conv => lhs; simp (disch := first | assumption | omega | (rw [nI_leI] <;> omega) | (rw [nI_ltI] <;> omega) | (rw [nI_eq] <;> omega) | (apply q_out <;> omega) | (apply q_nb; omega) | (apply q_n0 <;> omega)) only [M8, hW.1, q_mag h9, e16, q_bit1, q_putE hE hl2, ↓if_pos, ↓if_neg, nI_add, q_sub, q_cl, p_bnd_s, p_bnd_v])
      exact h1
    · have hm1 : lg_cmp (p_abs (x k) >>> ((nI pl).toInt64 &&& 63)) (lN 1) ≤ nI 0 := q_cmpE.mpr (Int64.not_lt.mp hm)
      have hs : q_s1 x pl k = [] := if_neg hm
      rw [hs, List.nil_append] at hl ⊢
      obtain ⟨w', h1, h2, h3⟩ := ih (k + 1) w E (.long (q_sh (p_abs (x k)) pl)) (by omega) hW hx hE hl
      refine ⟨w', ?_, h2, h3⟩
      rw [H8_2]
      (conv => lhs; simp (disch := first | assumption | omega | (rw [nI_leI] <;> omega) | (rw [nI_ltI] <;> omega) | (rw [nI_eq] <;> omega) | (apply q_out <;> omega) | (apply q_nb; omega) | (apply q_n0 <;> omega)) only [M8, hW.1, q_mag h9, e16, ↓if_pos, ↓if_neg, nI_add, q_sub, q_cl, p_bnd_s, p_bnd_v])
      exact h1
theorem q_pass2 (hn : n ≤ 32) (hpl : pl < 64) {w : pW} {E : List q_ev} (hW : q_W n lo w) (hx : w.2.1 16 = x) (hE : q_E E w) (hl : (E ++ q_s2 x pl 0 n).length ≤ 4038) : ∃ w', p_ev none 8 0 [.ref 3, .int (nI pl), p_U, p_U, p_U] [] w = some (.inl none, w', 0) ∧ q_E (E ++ q_s2 x pl 0 n) w' ∧ q_X w w' := by
  obtain ⟨w', h1, h2, h3⟩ := q_pass2_l hn hpl n 0 w E p_U (by omega) hW hx hE hl
  refine ⟨w', ?_, h2, h3⟩
  (conv => lhs; simp (disch := first | assumption | omega | (rw [nI_leI] <;> omega) | (rw [nI_ltI] <;> omega) | (rw [nI_eq] <;> omega) | (apply q_out <;> omega) | (apply q_nb; omega) | (apply q_n0 <;> omega)) only [M8, ↓if_pos, ↓if_neg, nI_add, q_sub, q_cl, p_bnd_s, p_bnd_v])
  exact h1
end S2
