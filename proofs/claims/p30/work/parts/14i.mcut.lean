/-! THE REFERENCE: FILTERED, HARD, SOFT -/
/-- a number of the row is far from the ends of the longs -/
def q_sz (v : Int64) : Prop := -(2 ^ 60) < v.toInt ∧ v.toInt < 2 ^ 60
theorem q_addI {a b : Int64} (h1 : -(2 ^ 63) ≤ a.toInt + b.toInt) (h2 : a.toInt + b.toInt < 2 ^ 63) : (a + b).toInt = a.toInt + b.toInt := by
  rw [Int64.toInt_add, q_bm h1 h2]
theorem q_subI {a b : Int64} (h1 : -(2 ^ 63) ≤ a.toInt - b.toInt) (h2 : a.toInt - b.toInt < 2 ^ 63) : (a - b).toInt = a.toInt - b.toInt := by
  rw [Int64.toInt_sub, q_bm h1 h2]
theorem q_mulI {a b : Int64} (h1 : -(2 ^ 63) ≤ a.toInt * b.toInt) (h2 : a.toInt * b.toInt < 2 ^ 63) : (a * b).toInt = a.toInt * b.toInt := by
  rw [Int64.toInt_mul, q_bm h1 h2]
theorem q_negI {a : Int64} (h1 : -(2 ^ 63) < a.toInt) : (-a).toInt = -a.toInt := by
  have h2 := Int64.toInt_lt a
  rw [Int64.toInt_neg, q_bm (by omega) (by omega)]
theorem q_sz_nm {v : Int64} (h : q_sz v) : q_nm v := by
  intro hz
  have h0 : (0 : Int64).toInt = 0 := rfl
  have hlt := Int64.lt_iff_toInt_lt.mp hz
  rw [h0] at hlt
  unfold p_abs at hlt
  by_cases hv : 0 < v
  · rw [if_pos hv] at hlt
    have := Int64.lt_iff_toInt_lt.mp hv
    rw [h0] at this; omega
  · rw [if_neg hv, q_negI (by have := h.1; omega)] at hlt
    have h3 : v.toInt ≤ 0 := by
      have := Int64.le_iff_toInt_le.mp (Int64.not_lt.mp hv)
      rw [h0] at this; exact this
    omega
theorem q_ft_eq {a b c : Int64} (ha : q_sz a) (hb : q_sz b) (hc : q_sz c) : q_sh (lN 2 * b - a - c + lN 1) 1 = -(q_sh (a + c - lN 2 * b) 1) := by
  have h2 : (lN 2).toInt = 2 := rfl
  have h1 : (lN 1).toInt = 1 := rfl
  obtain ⟨a1, a2⟩ := ha; obtain ⟨b1, b2⟩ := hb; obtain ⟨c1, c2⟩ := hc
  have e1 : (lN 2 * b).toInt = 2 * b.toInt := by rw [q_mulI (by rw [h2]; omega) (by rw [h2]; omega), h2]
  have e2 : (lN 2 * b - a).toInt = 2 * b.toInt - a.toInt := by rw [q_subI (by rw [e1]; omega) (by rw [e1]; omega), e1]
  have e3 : (lN 2 * b - a - c).toInt = 2 * b.toInt - a.toInt - c.toInt := by rw [q_subI (by rw [e2]; omega) (by rw [e2]; omega), e2]
  have e4 : (lN 2 * b - a - c + lN 1).toInt = 2 * b.toInt - a.toInt - c.toInt + 1 := by rw [q_addI (by rw [e3, h1]; omega) (by rw [e3, h1]; omega), e3, h1]
  have e5 : (a + c).toInt = a.toInt + c.toInt := q_addI (by omega) (by omega)
  have e6 : (a + c - lN 2 * b).toInt = a.toInt + c.toInt - 2 * b.toInt := by rw [q_subI (by rw [e5, e1]; omega) (by rw [e5, e1]; omega), e5, e1]
  apply Int64.toInt_inj.mp
  have e7 : (q_sh (a + c - lN 2 * b) 1).toInt = (a.toInt + c.toInt - 2 * b.toInt) / 2 := by rw [q_shI (by omega), e6]; rfl
  rw [q_shI (by omega), e4, q_negI (by rw [e7]; omega), e7]
  show (2 * b.toInt - a.toInt - c.toInt + 1) / 2 = _
  omega
theorem q_wd_even : ∀ n, (n = 4 ∨ n = 8 ∨ n = 16 ∨ n = 32) → ∀ k, k < 16 → 1 ≤ q_wd n k / 2 → 2 * (q_wd n k / 2) = q_wd n k := by
  have key : ∀ n : Fin 4, ∀ k : Fin 16, q_wd (4 * 2 ^ n.val) k.val / 2 = 0 ∨ 2 * (q_wd (4 * 2 ^ n.val) k.val / 2) = q_wd (4 * 2 ^ n.val) k.val := by decide +kernel
  intro n hn k hk h1
  obtain ⟨m, rfl⟩ := q_nfin hn
  rcases key m ⟨k, hk⟩ with z | z
  · exact absurd z (by dsimp only; omega)
  · exact z
