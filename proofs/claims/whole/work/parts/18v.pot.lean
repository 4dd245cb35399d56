/-! THE BOUND, CALL BY CALL -/
def bo_ck (k : Nat) : Int := if k = 0 then bo_qy ^ 3 else if k = 1 then bo_qy ^ 2 * bo_py else if k = 2 then bo_qy * bo_py ^ 2 else bo_py ^ 3
/-- k numbers, or with 3 any, are left out -/
def bo_lev (n : Nat) (sp S : Nat → Bool) (k : Nat) : Prop := (k = 0 ∧ ∀ a, S a = false) ∨ (k = 1 ∧ ∃ a, bo_in n sp a ∧ ∀ x, S x = true ↔ x = a) ∨ (k = 2 ∧ ∃ a b, bo_in n sp a ∧ bo_in n sp b ∧ a ≠ b ∧ ∀ x, S x = true ↔ x = a ∨ x = b) ∨ k = 3
def bo_Gd (n w : Nat) (sp : Nat → Bool) (b : Int) (z : Nat → Int) : Prop := ∀ S k, bo_lev n sp S k → bo_qy ^ 3 * bo_qy ^ 3 * bo_nz n w sp (bo_mk S z) ≤ (bo_ck k * (bo_sg w * b)) * (bo_ck k * (bo_sg w * b))
def bo_Rt (n w : Nat) (b : Int) (z : Nat → Int) : Prop := bo_py * bo_py * bo_nz n w (fun _ => false) z ≤ (bo_qy * (bo_sg w * b)) * (bo_qy * (bo_sg w * b)) ∨ ∀ v, v < 3 → bo_nz n v (fun _ => false) z ≤ (bo_sg v * b) * (bo_sg v * b)
/-- all that was checked of a length -/
def bo_gn (n : Nat) : Prop := (n = 4 ∨ n = 8 ∨ n = 16 ∨ n = 32) ∧ (∀ w, w < 3 → bo_gd n w) ∧ ∀ w v, w < 3 → v < 3 → w ≠ v → bo_tra n w v = true
theorem bo_ckv : bo_ck 0 = 8589934592 ∧ bo_ck 1 = 8879341568 ∧ bo_ck 2 = 9178499072 ∧ bo_ck 3 = 9487735613 := by decide +kernel
theorem bo_lev3 {n : Nat} {sp S : Nat → Bool} {k : Nat} (h : bo_lev n sp S k) : k ≤ 3 := by
  rcases h with ⟨h, _⟩ | ⟨h, _⟩ | ⟨h, _⟩ | h <;> omega
theorem bo_ck_q {k : Nat} (h : k ≤ 3) : bo_qy ^ 3 ≤ bo_ck k ∧ 0 < bo_ck k := by
  have h4 : k = 0 ∨ k = 1 ∨ k = 2 ∨ k = 3 := by omega
  rcases h4 with z | z | z | z <;> subst z <;> decide +kernel
section Tri
variable {n w : Nat} {sp : Nat → Bool} {z : Nat → Int}
theorem bo_nz0 (h : bo_ok n w) : 0 ≤ bo_nz n w sp z := bo_nq0 (bo_ok_dw h) _
/-- the triangle, scaled -/
theorem bo_tr3 (h : bo_ok n w) {z1 z2 : Nat → Int} {K R s : Int} (hK : 0 ≤ K) (hR : 0 ≤ R) (hs : 0 ≤ s) (h1 : K * K * bo_nz n w sp z1 ≤ R * R) (h2 : bo_nz n w sp z2 ≤ s * s) : K * K * bo_nz n w sp (fun a => z1 a + z2 a) ≤ (R + K * s) * (R + K * s) := by
  have e1 : bo_nq n (bo_dw n w) (fun c => K * bo_Z n w sp z1 c) = K * K * bo_nz n w sp z1 := bo_nq_mul
  have e2 : bo_nq n (bo_dw n w) (fun c => K * bo_Z n w sp z2 c) = K * K * bo_nz n w sp z2 := bo_nq_mul
  have g := Int.mul_le_mul_of_nonneg_left h2 (Int.mul_nonneg hK hK)
  have e3 : K * K * (s * s) = K * s * (K * s) := by grind
  have t := bo_tr (bo_ok_dw h) hR (Int.mul_nonneg hK hs) (by rw [e1]; exact h1) (show bo_nq n (bo_dw n w) (fun c => K * bo_Z n w sp z2 c) ≤ K * s * (K * s) by rw [e2]; omega)
  have e4 : K * K * bo_nz n w sp (fun a => z1 a + z2 a) = bo_nq n (bo_dw n w) (fun c => K * bo_Z n w sp z1 c + K * bo_Z n w sp z2 c) := by
    unfold bo_nz
    rw [← bo_nq_mul]
    refine bo_nq_cg fun c _ => ?_
    have := bo_Z_ln (n := n) (w := w) (sp := sp) (z := z1) (z' := z2) (x := 1) (y := 1) c
    simp only [Int.one_mul] at this
    rw [this, Int.mul_add]
  rw [e4]; exact t
theorem bo_sqle {K N x y : Int} (h : K * N ≤ x * x) (hx : 0 ≤ x) (hxy : x ≤ y) : K * N ≤ y * y := Int.le_trans h (bo_mul2 hxy hxy hx hx)
end Tri
section Pt
variable {n w : Nat} {sp : Nat → Bool} {z z' : Nat → Int} {b b' : Int}
theorem bo_nrt (hs : sp 1 = true) {a : Nat} (ha : bo_in n sp a) : a / 32 ≠ 1 := by
  intro e
  have := ha.2.1
  unfold bo_lf at this
  rw [e, hs] at this
  simp at this
theorem bo_flat (hT : q_T n sp) (hs : sp 1 = false) : sp = fun _ => false := by
  have h2 : ∀ j, 2 ≤ j → j < 4 → sp j = false := by
    intro j j1 j2
    cases y : sp j
    · rfl
    · have := hT.2.2.2.1 j j1 (by omega) y
      rw [show j / 2 = 1 by omega, hs] at this
      exact absurd this Bool.false_ne_true
  have h4 : ∀ j, 4 ≤ j → j < 8 → sp j = false := by
    intro j j1 j2
    cases y : sp j
    · rfl
    · have := hT.2.2.2.1 j (by omega) j2 y
      rw [h2 (j / 2) (by omega) (by omega)] at this
      exact absurd this Bool.false_ne_true
  funext j
  by_cases j8 : 8 ≤ j
  · exact hT.2.2.1 j j8
  · by_cases j4 : 4 ≤ j
    · exact h4 j j4 (by omega)
    · by_cases j2 : 2 ≤ j
      · exact h2 j j2 (by omega)
      · have : j = 0 ∨ j = 1 := by omega
        rcases this with y | y
        · rw [y]; exact hT.2.1
        · rw [y]; exact hs
theorem bo_mk0 {S : Nat → Bool} (hS : ∀ a, S a = false) : bo_mk S z = z := by
  funext a
  unfold bo_mk
  rw [hS a, if_neg Bool.false_ne_true]
theorem bo_G0 (h : bo_Gd n w sp b z) : bo_nz n w sp z ≤ (bo_sg w * b) * (bo_sg w * b) := by
  have g := h (fun _ => false) 0 (Or.inl ⟨rfl, fun _ => rfl⟩)
  rw [bo_mk0 (fun _ => rfl), bo_ckv.1] at g
  generalize bo_nz n w sp z = N at *
  generalize bo_sg w * b = T at *
  have e : (8589934592 : Int) * T * (8589934592 * T) = bo_qy ^ 3 * bo_qy ^ 3 * (T * T) := by
    have : bo_qy ^ 3 = 8589934592 := by decide
    rw [this]; grind
  rw [e] at g
  exact bo_div (by decide) g
/-- a short vector, in a new tree -/
theorem bo_GT (hg : bo_gd n w) (hT : q_T n sp) (hs : sp 1 = true) (hb : 0 ≤ b) (hN : bo_nz n w sp z ≤ (bo_sg w * b) * (bo_sg w * b)) (hbb : bo_py * b ≤ bo_qy * b') : bo_Gd n w sp b' z := by
  intro S k hl
  have hsg := bo_sg0 w
  have hX : 0 ≤ bo_sg w * b := Int.mul_nonneg (Int.le_of_lt hsg) hb
  have hXY : 2117 * (bo_sg w * b) ≤ 2048 * (bo_sg w * b') := by
    have := Int.mul_le_mul_of_nonneg_left hbb (Int.le_of_lt hsg)
    have e1 : bo_sg w * (bo_py * b) = 2117 * (bo_sg w * b) := by unfold bo_py; grind
    have e2 : bo_sg w * (bo_qy * b') = 2048 * (bo_sg w * b') := by unfold bo_qy; grind
    omega
  have hsq := bo_mul2 hXY hXY (by omega) (by omega)
  generalize bo_sg w * b = X at *
  generalize bo_sg w * b' = Y at *
  have f1 : 2117 * X * (2117 * X) = 4481689 * (X * X) := by grind
  have f2 : 2048 * Y * (2048 * Y) = 4194304 * (Y * Y) := by grind
  rw [f1, f2] at hsq
  have q6 : bo_qy ^ 3 * bo_qy ^ 3 = 73786976294838206464 := by decide
  rw [q6]
  rcases hl with ⟨hk, hS⟩ | ⟨hk, a, ha, hS⟩ | ⟨hk, a, c, ha, hc, hac, hS⟩ | hk <;> subst hk
  · rw [bo_mk0 hS, bo_ckv.1]
    have e : (8589934592 : Int) * Y * (8589934592 * Y) = 73786976294838206464 * (Y * Y) := by grind
    have hN0 : 0 ≤ bo_nz n w sp z := bo_nz0 hg.2.1
    omega
  · rw [bo_ckv.2.1]
    have m := bo_m1 (z := z) hg.2.1 hT ha (bo_nrt hs ha) hS
    have e : (8879341568 : Int) * Y * (8879341568 * Y) = 78842706681212698624 * (Y * Y) := by grind
    have p4 : bo_py ^ 4 = 20085536292721 := by decide
    have q4 : bo_qy ^ 4 = 17592186044416 := by decide
    rw [p4, q4] at m
    omega
  · rw [bo_ckv.2.2.1]
    have m := bo_m2 (z := z) hg.2.1 hT ha hc (bo_nrt hs ha) (bo_nrt hs hc) hac hS
    have e : (9178499072 : Int) * Y * (9178499072 * Y) = 84244845214704861184 * (Y * Y) := by
      have : (9178499072 : Int) * 9178499072 = 84244845214704861184 := by decide
      grind
    have p6 : bo_py ^ 6 = 90017127062188485769 := by decide
    have q6 : bo_qy ^ 6 = 73786976294838206464 := by decide
    rw [p6, q6] at m
    omega
  · rw [bo_ckv.2.2.2]
    have m := bo_m3T (z := z) hg hT S
    have e : (9487735613 : Int) * Y * (9487735613 * Y) = 90017127062188485769 * (Y * Y) := by
      have : (9487735613 : Int) * 9487735613 = 90017127062188485769 := by decide
      grind
    have p8 : bo_py ^ 8 = 403428768166212452597583841 := by decide
    have q8 : bo_qy ^ 8 = 309485009821345068724781056 := by decide
    rw [p8, q8] at m
    omega
end Pt
