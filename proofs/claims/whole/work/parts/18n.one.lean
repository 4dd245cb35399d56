/-! WHAT IS LEFT OUT OF A TREE: ONE NUMBER, TWO, ANY; SIZES OF NUMBERS -/
section Ms
variable {n w : Nat} {sp S : Nat → Bool} {z : Nat → Int}
theorem bo_K0 (n w i : Nat) : 0 < bo_K n w i := by
  unfold bo_K
  refine Int.mul_pos (Int.pow_pos (by decide)) (Int.pow_pos ?_)
  split
  · decide
  · split <;> decide
theorem bo_S0 (w : Nat) : 0 < (bn_S w : Int) := by
  unfold bn_S
  split
  · decide
  · split <;> decide
theorem bo_g0 (w i : Nat) : 0 < bo_g w i := by
  unfold bo_g
  refine Int.mul_pos (Int.pow_pos (bo_S0 w)) (Int.pow_pos ?_)
  unfold bo_D4
  split
  · decide
  · split <;> decide
theorem bo_sg0 (w : Nat) : 0 < bo_sg w := Int.mul_pos (Int.mul_pos (by decide) (Int.pow_pos (bo_S0 w))) (by decide)
/-- one number's vector -/
theorem bo_on1 (h : bo_ok n w) (hn : n ≤ 32) {a : Nat} (ha : bo_in n sp a) (hS : ∀ b, S b = true ↔ b = a) : bo_nz n w sp (bo_on S z) = z a * bo_g w (a / 32) * (z a * bo_g w (a / 32)) * bo_al n w a a := by
  have av := bo_in_av ha
  rw [bo_ok_al h av av]
  have e := bo_nq_mul (n := n) (de := bo_dw n w) (V := bo_ra n w a) (a := z a * bo_g w (a / 32))
  unfold bo_nq at e
  rw [← e]
  refine bo_nq_cg (de := bo_dw n w) fun c _ => ?_
  unfold bo_Z
  rw [bo_w_1 hn ha]
  · unfold bo_on
    rw [if_pos ((hS a).mpr rfl)]; grind
  · intro b _ hne
    unfold bo_on
    rw [if_neg (fun y => hne ((hS b).mp y)), Int.zero_mul]
theorem bo_sgl_of (h : bo_ok n w) {a : Nat} (ha : bo_av n a) : (if a / 32 = 1 then bo_qy ^ 2 * (bo_al n w a a * bo_be n w a a) ≤ bo_py ^ 2 * (bo_K n w (a / 32) ^ 2 * 2 ^ 40) else bo_qy ^ 4 * (bo_al n w a a * bo_be n w a a) ≤ bo_py ^ 4 * (bo_K n w (a / 32) ^ 2 * 2 ^ 40)) ∧ bo_be n w a a * (bo_sg w * bo_B) ^ 2 ≤ (bo_Lm w * bo_g w (a / 32) * bo_K n w (a / 32)) ^ 2 * 2 ^ 40 ∧ bo_g w (a / 32) ^ 2 * bo_al n w a a ≤ 8 * bo_sg w ^ 2 ∧ 0 ≤ bo_be n w a a := by
  have h1 := List.all_eq_true.mp h.2.2.2.1 a (bo_all_in ha)
  rw [Bool.and_eq_true, Bool.and_eq_true, Bool.and_eq_true, decide_eq_true_eq, decide_eq_true_eq, decide_eq_true_eq, decide_eq_true_eq] at h1
  exact ⟨h1.1.1.1, h1.1.1.2, h1.1.2, h1.2⟩
theorem bo_al0 (h : bo_ok n w) {a : Nat} (ha : bo_av n a) : 0 ≤ bo_al n w a a := by
  rw [bo_ok_al h ha ha]
  exact bo_nq0 (bo_ok_dw h) _
theorem bo_one (h : bo_ok n w) (hT : q_T n sp) {a : Nat} (ha : bo_in n sp a) (hS : ∀ b, S b = true ↔ b = a) {g k : Int} (hk : 0 < k) (hg : k < g) (H : k * (bo_al n w a a * bo_be n w a a) ≤ g * (bo_K n w (a / 32) ^ 2 * 2 ^ 40)) : k * bo_nz n w sp (bo_mk S z) ≤ g * bo_nz n w sp z := by
  refine bo_pj h hk hg fun z' hz => ?_
  have h1 := bo_cs1 (z := z') h hT ha
  rw [bo_on1 h hT.n32 ha hS]
  have e1 : z' a = g * z a := by rw [hz, if_pos ((hS a).mpr rfl)]
  rw [e1] at h1
  have hK := bo_K0 n w (a / 32)
  have ha0 := bo_al0 h (bo_in_av ha)
  have hN : 0 ≤ bo_nz n w sp z' := bo_nq0 (bo_ok_dw h) _
  generalize bo_K n w (a / 32) = K at *
  generalize bo_g w (a / 32) = gg at *
  generalize bo_al n w a a = al at *
  generalize bo_be n w a a = be at *
  generalize bo_nz n w sp z' = N at *
  generalize z a = x at *
  have hkk : 0 < K ^ 2 * 2 ^ 40 := Int.mul_pos (Int.pow_pos hK) (by decide)
  refine bo_div hkk ?_
  have g1 := Int.mul_le_mul_of_nonneg_left h1 (Int.mul_nonneg (Int.le_of_lt hk) ha0)
  have g2 := Int.mul_le_mul_of_nonneg_right H hN
  have e2 : k * al * (2 ^ 40 * (g * x * (gg * K) * (g * x * (gg * K)))) = K ^ 2 * 2 ^ 40 * (k * (g * g * (x * gg * (x * gg) * al))) := by grind
  have e3 : k * al * (be * N) = k * (al * be) * N := by grind
  have e4 : g * (K ^ 2 * 2 ^ 40) * N = K ^ 2 * 2 ^ 40 * (g * N) := by grind
  omega
/-- one number left out of a tree -/
theorem bo_m1 (h : bo_ok n w) (hT : q_T n sp) {a : Nat} (ha : bo_in n sp a) (hr : a / 32 ≠ 1) (hS : ∀ b, S b = true ↔ b = a) : bo_qy ^ 4 * bo_nz n w sp (bo_mk S z) ≤ bo_py ^ 4 * bo_nz n w sp z := by
  have h1 := (bo_sgl_of h (bo_in_av ha)).1
  rw [if_neg hr] at h1
  exact bo_one h hT ha hS (by decide) (by decide) h1
/-- one sample left out -/
theorem bo_m0 (h : bo_ok n w) (hT : q_T n sp) {a : Nat} (ha : bo_in n sp a) (hr : a / 32 = 1) (hS : ∀ b, S b = true ↔ b = a) : bo_qy ^ 2 * bo_nz n w sp (bo_mk S z) ≤ bo_py ^ 2 * bo_nz n w sp z := by
  have h1 := (bo_sgl_of h (bo_in_av ha)).1
  rw [if_pos hr] at h1
  exact bo_one h hT ha hS (by decide) (by decide) h1
theorem bo_abs {x y : Int} (hy : 0 ≤ y) (h : x * x ≤ y * y) : -y ≤ x ∧ x ≤ y := by
  refine ⟨?_, bo_le_sq hy h⟩
  have := bo_le_sq (x := -x) hy (by rw [Int.neg_mul_neg]; exact h)
  omega
/-- a tree's numbers are small if the whole is -/
theorem bo_num (h : bo_ok n w) (hT : q_T n sp) {a : Nat} (ha : bo_in n sp a) (hN : bo_nz n w sp z ≤ (bo_sg w * bo_B) * (bo_sg w * bo_B)) : -bo_Lm w ≤ z a ∧ z a ≤ bo_Lm w := by
  have h1 := bo_cs1 (z := z) h hT ha
  have h2 := (bo_sgl_of h (bo_in_av ha)).2
  have hK := bo_K0 n w (a / 32)
  have hg := bo_g0 w (a / 32)
  have hL : 0 < bo_Lm w := by unfold bo_Lm; split <;> decide
  have g := Int.mul_le_mul_of_nonneg_left hN h2.2.2
  refine bo_abs (Int.le_of_lt hL) ?_
  have h3 := h2.1
  generalize bo_K n w (a / 32) = K at *
  generalize bo_g w (a / 32) = gg at *
  generalize bo_be n w a a = be at *
  generalize bo_nz n w sp z = N at *
  generalize bo_sg w * bo_B = M at *
  generalize bo_Lm w = L at *
  generalize z a = x at *
  have hgk := Int.mul_pos hg hK
  refine bo_div (Int.mul_pos (show (0 : Int) < 2 ^ 40 by decide) (Int.mul_pos hgk hgk)) ?_
  have e1 : 2 ^ 40 * (gg * K * (gg * K)) * (x * x) = 2 ^ 40 * (x * (gg * K) * (x * (gg * K))) := by grind
  have e2 : 2 ^ 40 * (gg * K * (gg * K)) * (L * L) = (L * gg * K) ^ 2 * 2 ^ 40 := by grind
  have e3 : be * (M * M) = be * M ^ 2 := by grind
  omega
/-- one number's own vector is not long -/
theorem bo_sh1 (h : bo_ok n w) (hn : n ≤ 32) {a : Nat} (ha : bo_in n sp a) (hS : ∀ b, S b = true ↔ b = a) : bo_nz n w sp (bo_on S z) ≤ 8 * (bo_sg w * z a * (bo_sg w * z a)) := by
  rw [bo_on1 h hn ha hS]
  have h2 := (bo_sgl_of h (bo_in_av ha)).2.2.1
  have g := Int.mul_le_mul_of_nonneg_left h2 (bo_sq0 (z a))
  have e1 : z a * z a * (bo_g w (a / 32) ^ 2 * bo_al n w a a) = z a * bo_g w (a / 32) * (z a * bo_g w (a / 32)) * bo_al n w a a := by grind
  have e2 : z a * z a * (8 * bo_sg w ^ 2) = 8 * (bo_sg w * z a * (bo_sg w * z a)) := by grind
  omega
end Ms
