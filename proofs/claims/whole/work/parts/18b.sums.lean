/-! SUMS, WEIGHTED SQUARES -/
def bo_s : Nat → (Nat → Int) → Int
  | 0, _ => 0
  | n + 1, f => bo_s n f + f n
theorem bo_s_cg {f g : Nat → Int} : ∀ n, (∀ c, c < n → f c = g c) → bo_s n f = bo_s n g
  | 0, _ => rfl
  | n + 1, h => by rw [bo_s, bo_s, bo_s_cg n (fun c hc => h c (by omega)), h n (by omega)]
theorem bo_s_add {f g : Nat → Int} : ∀ n, bo_s n (fun c => f c + g c) = bo_s n f + bo_s n g
  | 0 => rfl
  | n + 1 => by rw [bo_s, bo_s, bo_s, bo_s_add n]; omega
theorem bo_s_mul {f : Nat → Int} {a : Int} : ∀ n, bo_s n (fun c => a * f c) = a * bo_s n f
  | 0 => (Int.mul_zero a).symm
  | n + 1 => by rw [bo_s, bo_s, bo_s_mul n, Int.mul_add]
theorem bo_s_0 {f : Nat → Int} : ∀ n, (∀ c, c < n → 0 ≤ f c) → 0 ≤ bo_s n f
  | 0, _ => Int.le_refl _
  | n + 1, h => by
    have h1 := bo_s_0 n (fun c hc => h c (by omega))
    have h2 := h n (by omega)
    rw [bo_s]; omega
theorem bo_s_z : ∀ n, bo_s n (fun _ => 0) = 0
  | 0 => rfl
  | n + 1 => by rw [bo_s, bo_s_z n]; rfl
theorem bo_s_sh {f : Nat → Int} : ∀ n, bo_s (n + 1) f = f 0 + bo_s n (fun c => f (c + 1))
  | 0 => by simp [bo_s]
  | n + 1 => by rw [bo_s, bo_s_sh n, bo_s]; omega
/-- from squares to sizes -/
theorem bo_le_sq {x y : Int} (hy : 0 ≤ y) (h : x * x ≤ y * y) : x ≤ y := by
  by_cases z : x ≤ y
  · exact z
  · exfalso
    have h1 := Int.mul_lt_mul_of_pos_right (show y < x by omega) (show 0 < x by omega)
    have h2 := Int.mul_le_mul_of_nonneg_left (show y ≤ x by omega) hy
    omega
theorem bo_sq_le {x y : Int} (h1 : -y ≤ x) (h2 : x ≤ y) : x * x ≤ y * y := by
  have g := Int.mul_nonneg (show 0 ≤ y - x by omega) (show 0 ≤ y + x by omega)
  have e : (y - x) * (y + x) = y * y - x * x := by grind
  omega
theorem bo_mul2 {a b c d : Int} (h1 : a ≤ b) (h2 : c ≤ d) (h3 : 0 ≤ a) (h4 : 0 ≤ c) : a * c ≤ b * d :=
  Int.le_trans (Int.mul_le_mul_of_nonneg_right h1 h4) (Int.mul_le_mul_of_nonneg_left h2 (by omega))
theorem bo_div {a b c : Int} (hc : 0 < c) (h : c * a ≤ c * b) : a ≤ b := Int.le_of_mul_le_mul_left h hc
/-- Cauchy and Schwarz -/
theorem bo_cs {K : Int} (hK : 0 ≤ K) {f p r : Nat → Int} : ∀ n, (∀ c, c < n → 0 ≤ p c ∧ 0 ≤ r c ∧ K * (f c * f c) ≤ p c * r c) → K * (bo_s n f * bo_s n f) ≤ bo_s n p * bo_s n r
  | 0, _ => by simp [bo_s]
  | n + 1, h => by
    have ih := bo_cs hK n (fun c hc => h c (by omega))
    have hP := bo_s_0 n (fun c hc => (h c (by omega)).1)
    have hR := bo_s_0 n (fun c hc => (h c (by omega)).2.1)
    obtain ⟨h1, h2, h3⟩ := h n (by omega)
    simp only [bo_s]
    generalize bo_s n f = A at *
    generalize bo_s n p = P at *
    generalize bo_s n r = R at *
    generalize f n = a at *
    generalize p n = x at *
    generalize r n = y at *
    have hu : 0 ≤ P * y + x * R := Int.add_nonneg (Int.mul_nonneg hP h2) (Int.mul_nonneg h1 hR)
    have hsq : (2 * K * A * a) * (2 * K * A * a) ≤ (P * y + x * R) * (P * y + x * R) := by
      have g1 := bo_mul2 ih h3 (Int.mul_nonneg hK (bo_sq0 A)) (Int.mul_nonneg hK (bo_sq0 a))
      have g2 := bo_sq0 (P * y - x * R)
      have e1 : (2 * K * A * a) * (2 * K * A * a) = 4 * (K * (A * A) * (K * (a * a))) := by grind
      have e2 : (P * y + x * R) * (P * y + x * R) = (P * y - x * R) * (P * y - x * R) + 4 * (P * R * (x * y)) := by grind
      omega
    have g := bo_le_sq hu hsq
    have e : K * ((A + a) * (A + a)) = K * (A * A) + 2 * K * A * a + K * (a * a) := by grind
    have e2 : (P + x) * (R + y) = P * R + (P * y + x * R) + x * y := by grind
    omega
section Nq
variable {n : Nat} {de : Nat → Int}
def bo_ip (n : Nat) (de V W : Nat → Int) : Int := bo_s n fun c => de c * (V c * W c)
def bo_nq (n : Nat) (de V : Nat → Int) : Int := bo_ip n de V V
theorem bo_nq0 (hd : ∀ c, c < n → 0 ≤ de c) (V : Nat → Int) : 0 ≤ bo_nq n de V := bo_s_0 n fun c hc => Int.mul_nonneg (hd c hc) (bo_sq0 _)
theorem bo_nq_cg {V W : Nat → Int} (h : ∀ c, c < n → V c = W c) : bo_nq n de V = bo_nq n de W := bo_s_cg n fun c hc => by rw [h c hc]
theorem bo_ip_cg {V W V' W' : Nat → Int} (h : ∀ c, c < n → V c = V' c ∧ W c = W' c) : bo_ip n de V W = bo_ip n de V' W' := bo_s_cg n fun c hc => by rw [(h c hc).1, (h c hc).2]
theorem bo_ip_add {V W X : Nat → Int} : bo_ip n de V (fun c => W c + X c) = bo_ip n de V W + bo_ip n de V X := by
  unfold bo_ip
  rw [← bo_s_add]
  exact bo_s_cg n fun c _ => by grind
theorem bo_ip_mul {V W : Nat → Int} {a : Int} : bo_ip n de V (fun c => a * W c) = a * bo_ip n de V W := by
  unfold bo_ip
  rw [← bo_s_mul]
  exact bo_s_cg n fun c _ => by grind
theorem bo_ip_cm {V W : Nat → Int} : bo_ip n de V W = bo_ip n de W V := bo_s_cg n fun c _ => by grind
theorem bo_nq_add {V W : Nat → Int} {a b : Int} : bo_nq n de (fun c => a * V c + b * W c) = a * a * bo_nq n de V + 2 * a * b * bo_ip n de V W + b * b * bo_nq n de W := by
  unfold bo_nq bo_ip
  rw [← bo_s_mul, ← bo_s_mul, ← bo_s_mul, ← bo_s_add, ← bo_s_add]
  exact bo_s_cg n fun c _ => by grind
theorem bo_nq_mul {V : Nat → Int} {a : Int} : bo_nq n de (fun c => a * V c) = a * a * bo_nq n de V := by
  unfold bo_nq bo_ip
  rw [← bo_s_mul]
  exact bo_s_cg n fun c _ => by grind
theorem bo_ip_cs (hd : ∀ c, c < n → 0 ≤ de c) {V W : Nat → Int} : bo_ip n de V W * bo_ip n de V W ≤ bo_nq n de V * bo_nq n de W := by
  have h := bo_cs (K := 1) (by decide) (f := fun c => de c * (V c * W c)) (p := fun c => de c * (V c * V c)) (r := fun c => de c * (W c * W c)) n (fun c hc => ⟨Int.mul_nonneg (hd c hc) (bo_sq0 _), Int.mul_nonneg (hd c hc) (bo_sq0 _), by
    rw [Int.one_mul]
    exact Int.le_of_eq (by grind)⟩)
  rw [Int.one_mul] at h
  exact h
/-- the triangle -/
theorem bo_tr (hd : ∀ c, c < n → 0 ≤ de c) {V W : Nat → Int} {r s : Int} (hr : 0 ≤ r) (hs : 0 ≤ s) (h1 : bo_nq n de V ≤ r * r) (h2 : bo_nq n de W ≤ s * s) : bo_nq n de (fun c => V c + W c) ≤ (r + s) * (r + s) := by
  have e := bo_nq_add (n := n) (de := de) (V := V) (W := W) (a := 1) (b := 1)
  have hc := bo_ip_cs hd (V := V) (W := W)
  have g := bo_mul2 h1 h2 (bo_nq0 hd V) (bo_nq0 hd W)
  have g2 : bo_ip n de V W ≤ r * s := bo_le_sq (Int.mul_nonneg hr hs) (by
    have : r * s * (r * s) = r * r * (s * s) := by grind
    omega)
  have e0 : bo_nq n de (fun c => V c + W c) = bo_nq n de (fun c => 1 * V c + 1 * W c) := bo_nq_cg fun c _ => by omega
  have e1 : (r + s) * (r + s) = r * r + 2 * (r * s) + s * s := by grind
  omega
/-- p and q in every mixture: what is known of q against the whole holds for p -/
theorem bo_prj (hd : ∀ c, c < n → 0 ≤ de c) {V W : Nat → Int} {g h : Int} (hh : 0 < h) (hg : h < g) (H : h * (g * g * bo_nq n de W) ≤ g * bo_nq n de (fun c => (g - h) * V c + g * W c)) : h * bo_nq n de V ≤ g * bo_nq n de (fun c => V c + W c) := by
  rw [bo_nq_add] at H
  have e0 : bo_nq n de (fun c => V c + W c) = bo_nq n de (fun c => 1 * V c + 1 * W c) := bo_nq_cg fun c _ => by omega
  rw [e0, bo_nq_add]
  generalize bo_nq n de V = P at *
  generalize bo_nq n de W = Q at *
  generalize bo_ip n de V W = D at *
  have e1 : g * ((g - h) * (g - h) * P + 2 * (g - h) * g * D + g * g * Q) - h * (g * g * Q) = (g * (g - h)) * ((g * (1 * 1 * P + 2 * 1 * 1 * D + 1 * 1 * Q)) - h * P) := by grind
  have hp : 0 < g * (g - h) := Int.mul_pos (by omega) (by omega)
  have z : (g * (g - h)) * 0 ≤ (g * (g - h)) * ((g * (1 * 1 * P + 2 * 1 * 1 * D + 1 * 1 * Q)) - h * P) := by
    rw [← e1, Int.mul_zero]; omega
  have := bo_div hp z
  omega
/-- the same from a turned sign -/
theorem bo_prk {V W : Nat → Int} {T E : Int} (hE : 0 < E) (H : (T - E) * bo_nq n de (fun c => E * V c + -T * W c) ≤ (T + E) * bo_nq n de (fun c => E * V c + T * W c)) : (T * T - E * E) * bo_nq n de V ≤ T * T * bo_nq n de (fun c => V c + W c) := by
  rw [bo_nq_add, bo_nq_add] at H
  have e0 : bo_nq n de (fun c => V c + W c) = bo_nq n de (fun c => 1 * V c + 1 * W c) := bo_nq_cg fun c _ => by omega
  rw [e0, bo_nq_add]
  generalize bo_nq n de V = P at *
  generalize bo_nq n de W = Q at *
  generalize bo_ip n de V W = D at *
  have e1 : (T + E) * (E * E * P + 2 * E * T * D + T * T * Q) - (T - E) * (E * E * P + 2 * E * -T * D + -T * -T * Q) = (2 * E) * (T * T * (1 * 1 * P + 2 * 1 * 1 * D + 1 * 1 * Q) - (T * T - E * E) * P) := by grind
  have z : (2 * E) * 0 ≤ (2 * E) * (T * T * (1 * 1 * P + 2 * 1 * 1 * D + 1 * 1 * Q) - (T * T - E * E) * P) := by
    rw [← e1, Int.mul_zero]; omega
  have := bo_div (show 0 < 2 * E by omega) z
  omega
end Nq
