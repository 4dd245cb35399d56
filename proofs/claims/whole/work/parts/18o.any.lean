/-! TWO NUMBERS LEFT OUT; ANY NUMBERS; SHORT VECTORS; FROM WAVELET TO WAVELET -/
theorem bo_2x2 {m11 m12 m22 : Int} (h1 : 0 ≤ m11) (h2 : 0 ≤ m22) (h3 : m12 * m12 ≤ m11 * m22) (X Y : Int) : 0 ≤ m11 * (X * X) + 2 * m12 * (X * Y) + m22 * (Y * Y) := by
  have hX := bo_sq0 X
  have hY := bo_sq0 Y
  by_cases hz : m11 = 0
  · subst hz
    rw [Int.zero_mul] at h3
    have h0 : m12 = 0 := by
      have := bo_abs (x := m12) (y := 0) (by decide) (by simpa using h3)
      omega
    subst h0
    have := Int.mul_nonneg h2 hY
    omega
  · have hp : 0 < m11 := by omega
    have g1 := bo_sq0 (m11 * X + m12 * Y)
    have g2 := Int.mul_nonneg (show 0 ≤ m11 * m22 - m12 * m12 by omega) hY
    have e : m11 * (m11 * (X * X) + 2 * m12 * (X * Y) + m22 * (Y * Y)) = (m11 * X + m12 * Y) * (m11 * X + m12 * Y) + (m11 * m22 - m12 * m12) * (Y * Y) := by grind
    refine bo_div hp ?_
    rw [Int.mul_zero, e]; omega
section Mp
variable {n w : Nat} {sp S : Nat → Bool} {z : Nat → Int}
theorem bo_pj2 (h : bo_ok n w) (hn : n ≤ 32) {g k : Int} (hk : 0 < k) (hg : k < g) (H : ∀ z' : Nat → Int, k * bo_nz n w sp (bo_on S z') ≤ g * bo_nz n w sp z') : k * bo_nz n w sp (bo_mk S z) ≤ g * bo_nz n w sp z := by
  refine bo_pj h hk hg fun z' hz => ?_
  have h1 := H z'
  have e : bo_nz n w sp (bo_on S z') = g * g * bo_nz n w sp (bo_on S z) := by
    unfold bo_nz
    rw [← bo_nq_mul]
    refine bo_nq_cg fun c _ => ?_
    have := bo_Z_ln (n := n) (w := w) (sp := sp) (z := bo_on S z) (z' := bo_on S z) (x := g) (y := 0) c
    rw [Int.zero_mul, Int.add_zero] at this
    rw [← this]
    refine congrFun (congrArg _ ?_) c
    funext a
    unfold bo_on
    rw [hz]
    by_cases hs : S a = true
    · rw [if_pos hs, if_pos hs, if_pos hs]; omega
    · rw [if_neg hs, if_neg hs]; omega
  rw [e] at h1
  exact h1
theorem bo_on2 (h : bo_ok n w) (hn : n ≤ 32) {a b : Nat} (ha : bo_in n sp a) (hb : bo_in n sp b) (hab : a ≠ b) (hS : ∀ x, S x = true ↔ x = a ∨ x = b) : bo_nz n w sp (bo_on S z) = z a * bo_g w (a / 32) * (z a * bo_g w (a / 32)) * bo_al n w a a + 2 * (z a * bo_g w (a / 32)) * (z b * bo_g w (b / 32)) * bo_al n w a b + z b * bo_g w (b / 32) * (z b * bo_g w (b / 32)) * bo_al n w b b := by
  have av := bo_in_av ha
  have bv := bo_in_av hb
  rw [bo_ok_al h av av, bo_ok_al h av bv, bo_ok_al h bv bv]
  have e := bo_nq_add (n := n) (de := bo_dw n w) (V := bo_ra n w a) (W := bo_ra n w b) (a := z a * bo_g w (a / 32)) (b := z b * bo_g w (b / 32))
  unfold bo_nq at e
  rw [← e]
  refine bo_nq_cg (de := bo_dw n w) fun c _ => ?_
  have e2 : bo_Z n w sp (bo_on S z) c = bo_w n sp (fun x => (if x = a then z a * (bo_g w (a / 32) * bo_ra n w a c) else 0) + (if x = b then z b * (bo_g w (b / 32) * bo_ra n w b c) else 0)) := by
    unfold bo_Z
    refine bo_w_cg hn fun x _ => ?_
    unfold bo_on
    by_cases h1 : x = a
    · rw [if_pos h1, if_neg (fun y => hab (h1.symm.trans y)), if_pos ((hS x).mpr (Or.inl h1)), h1, Int.add_zero]
    · rw [if_neg h1]
      by_cases h2 : x = b
      · rw [if_pos h2, if_pos ((hS x).mpr (Or.inr h2)), h2, Int.zero_add]
      · rw [if_neg h2, if_neg (fun y => ((hS x).mp y).elim h1 h2), Int.zero_mul]; rfl
  rw [e2, bo_w_add, bo_w_1 hn ha (fun x _ hne => if_neg hne), bo_w_1 hn hb (fun x _ hne => if_neg hne), if_pos rfl, if_pos rfl]
  grind
theorem bo_par_of (h : bo_ok n w) {a b : Nat} (ha : bo_av n a) (hb : bo_av n b) (hr : a / 32 ≠ 1) (hab : a < b) (hu : bo_ur (a / 32) (b / 32) = true) : bo_pr1 (2 ^ 40) (bo_K n w (a / 32)) (bo_K n w (b / 32)) (bo_al n w a a) (bo_al n w a b) (bo_al n w b b) (bo_be n w a a) (bo_be n w a b) (bo_be n w b b) = true := by
  have h1 := List.all_eq_true.mp h.2.2.2.2.1 a (bo_all_in ha)
  have h64 : decide (a < 64) = false := decide_eq_false (by have := ha.1; omega)
  rw [h64, Bool.false_or] at h1
  have h2 := List.all_eq_true.mp h1 b (bo_all_in hb)
  have hba : decide (b ≤ a) = false := decide_eq_false (by omega)
  rw [hba, hu] at h2
  exact h2
theorem bo_m2l (h : bo_ok n w) (hT : q_T n sp) {a b : Nat} (ha : bo_in n sp a) (hb : bo_in n sp b) (hr : a / 32 ≠ 1) (hab : a < b) (hS : ∀ x, S x = true ↔ x = a ∨ x = b) : bo_qy ^ 6 * bo_nz n w sp (bo_mk S z) ≤ bo_py ^ 6 * bo_nz n w sp z := by
  refine bo_pj2 h hT.n32 (by decide) (by decide) fun z' => ?_
  have hc := bo_par_of h (bo_in_av ha) (bo_in_av hb) hr hab (bo_T_ur hT ha hb)
  unfold bo_pr1 at hc
  dsimp only at hc
  rw [Bool.and_eq_true, Bool.and_eq_true, Bool.and_eq_true, decide_eq_true_eq, decide_eq_true_eq, decide_eq_true_eq, decide_eq_true_eq] at hc
  obtain ⟨⟨⟨c1, c2⟩, c3⟩, c4⟩ := hc
  rw [bo_on2 h hT.n32 ha hb (by omega) hS]
  have hN : 0 ≤ bo_nz n w sp z' := bo_nq0 (bo_ok_dw h) _
  have hcs := fun s t => bo_cs2 (z := z') h hT ha hb s t
  generalize bo_al n w a a = a11 at *
  generalize bo_al n w a b = a12 at *
  generalize bo_al n w b b = a22 at *
  generalize bo_be n w a a = b11 at *
  generalize bo_be n w a b = b12 at *
  generalize bo_be n w b b = b22 at *
  generalize bo_nz n w sp z' = N at *
  have q1 := bo_2x2 c2 c3 c4 (z' a * bo_g w (a / 32)) (z' b * bo_g w (b / 32))
  generalize bo_K n w (a / 32) = ka at *
  generalize bo_K n w (b / 32) = kb at *
  generalize bo_g w (a / 32) = ga at *
  generalize bo_g w (b / 32) = gb at *
  generalize z' a = x at *
  generalize z' b = y at *
  have hcs1 := hcs (b22 * (ka * (x * ga)) - b12 * (kb * (y * gb))) (b11 * (kb * (y * gb)) - b12 * (ka * (x * ga)))
  clear hcs
  have e1 : (b22 * (ka * (x * ga)) - b12 * (kb * (y * gb))) * (x * (ga * ka)) + (b11 * (kb * (y * gb)) - b12 * (ka * (x * ga))) * (y * (gb * kb)) = b22 * (ka * (x * ga) * (ka * (x * ga))) - 2 * b12 * (ka * (x * ga) * (kb * (y * gb))) + b11 * (kb * (y * gb) * (kb * (y * gb))) := by grind
  have e2 : (b22 * (ka * (x * ga)) - b12 * (kb * (y * gb))) * (b22 * (ka * (x * ga)) - b12 * (kb * (y * gb))) * b11 + 2 * (b22 * (ka * (x * ga)) - b12 * (kb * (y * gb))) * (b11 * (kb * (y * gb)) - b12 * (ka * (x * ga))) * b12 + (b11 * (kb * (y * gb)) - b12 * (ka * (x * ga))) * (b11 * (kb * (y * gb)) - b12 * (ka * (x * ga))) * b22 = (b11 * b22 - b12 * b12) * (b22 * (ka * (x * ga) * (ka * (x * ga))) - 2 * b12 * (ka * (x * ga) * (kb * (y * gb))) + b11 * (kb * (y * gb) * (kb * (y * gb)))) := by grind
  rw [e1, e2] at hcs1
  have e3 : (bo_py ^ 6 * 2 ^ 40 * (ka * ka * b22) - bo_qy ^ 6 * ((b11 * b22 - b12 * b12) * a11)) * (x * ga * (x * ga)) + 2 * (-(bo_py ^ 6 * 2 ^ 40 * (ka * kb * b12)) - bo_qy ^ 6 * ((b11 * b22 - b12 * b12) * a12)) * (x * ga * (y * gb)) + (bo_py ^ 6 * 2 ^ 40 * (kb * kb * b11) - bo_qy ^ 6 * ((b11 * b22 - b12 * b12) * a22)) * (y * gb * (y * gb)) = bo_py ^ 6 * (2 ^ 40 * (b22 * (ka * (x * ga) * (ka * (x * ga))) - 2 * b12 * (ka * (x * ga) * (kb * (y * gb))) + b11 * (kb * (y * gb) * (kb * (y * gb))))) - (b11 * b22 - b12 * b12) * (bo_qy ^ 6 * (x * ga * (x * ga) * a11 + 2 * (x * ga) * (y * gb) * a12 + y * gb * (y * gb) * a22)) := by grind
  rw [e3] at q1
  generalize b22 * (ka * (x * ga) * (ka * (x * ga))) - 2 * b12 * (ka * (x * ga) * (kb * (y * gb))) + b11 * (kb * (y * gb) * (kb * (y * gb))) = F at *
  generalize x * ga * (x * ga) * a11 + 2 * (x * ga) * (y * gb) * a12 + y * gb * (y * gb) * a22 = R at *
  generalize b11 * b22 - b12 * b12 = dt at *
  have hF : 2 ^ 40 * F ≤ dt * N := by
    by_cases hF0 : 0 < F
    · refine bo_div hF0 ?_
      have : F * (2 ^ 40 * F) = 2 ^ 40 * (F * F) := by grind
      have : F * (dt * N) = dt * F * N := by grind
      omega
    · have := Int.mul_nonneg (Int.le_of_lt c1) hN
      omega
  have hP : 0 ≤ bo_py ^ 6 := by decide
  have g := Int.mul_le_mul_of_nonneg_left hF hP
  refine bo_div c1 ?_
  have : bo_py ^ 6 * (dt * N) = dt * (bo_py ^ 6 * N) := by grind
  omega
/-- two numbers left out of a tree -/
theorem bo_m2 (h : bo_ok n w) (hT : q_T n sp) {a b : Nat} (ha : bo_in n sp a) (hb : bo_in n sp b) (hra : a / 32 ≠ 1) (hrb : b / 32 ≠ 1) (hab : a ≠ b) (hS : ∀ x, S x = true ↔ x = a ∨ x = b) : bo_qy ^ 6 * bo_nz n w sp (bo_mk S z) ≤ bo_py ^ 6 * bo_nz n w sp z := by
  rcases Nat.lt_or_gt_of_ne hab with hl | hl
  · exact bo_m2l h hT ha hb hra hl hS
  · exact bo_m2l h hT hb ha hrb hl (fun x => (hS x).trans Or.comm)
theorem bo_ls_in (hn : n ≤ 32) {a : Nat} (ha : a ∈ bo_ls n sp) : bo_in n sp a := by
  unfold bo_ls at ha
  obtain ⟨i, h1, h2⟩ := List.mem_flatMap.mp ha
  rw [List.mem_range] at h1
  have hw := q_wdle n i
  by_cases hl : (q_ex sp i && !(sp i)) = true
  · rw [if_pos hl] at h2
    obtain ⟨k, h3, h4⟩ := List.mem_map.mp h2
    rw [List.mem_range] at h3
    subst h4
    rw [bo_in, show (32 * i + k) / 32 = i by omega, show (32 * i + k) % 32 = k by omega]
    exact ⟨h1, hl, h3⟩
  · rw [if_neg hl] at h2
    cases h2
theorem bo_Z_Lc (c : Nat) : bo_Lc ((bo_ls n sp).map fun a => z a * bo_g w (a / 32)) ((bo_ls n sp).map (bo_at (bo_U n w))) c = bo_Z n w sp z c := by
  rw [bo_Lc_map, bo_w_ls]
  unfold bo_Z bo_ra
  exact congrArg (bo_w n sp) (by funext a; grind)
theorem bo_us_len (h : bo_ok n w) (hn : n ≤ 32) : ∀ v ∈ (bo_ls n sp).map (bo_at (bo_U n w)), v.length = n := by
  intro v hv
  obtain ⟨a, h1, h2⟩ := List.mem_map.mp hv
  subst h2
  exact (bo_ok_len h (bo_in_av (bo_ls_in hn h1))).1
/-- the squares of the vectors' lengths -/
noncomputable def bo_D (n w : Nat) (sp : Nat → Bool) (z : Nat → Int) : Int := bo_w n sp fun a => bo_al n w a a * (z a * bo_g w (a / 32) * (z a * bo_g w (a / 32)))
theorem bo_kap_of (h : bo_ok n w) (hn : n ≤ 32) {b s : Nat} (hk : bo_kap n w b s = true) {a0 : Nat} (h0 : bo_av n a0) (z : Nat → Int) : 519 * (s : Int) * bo_D n w (q_bs b) z ≤ 10000000 * bo_nz n w (q_bs b) z ∧ 10000000 * bo_nz n w (q_bs b) z ≤ 1481 * (s : Int) * bo_D n w (q_bs b) z := by
  unfold bo_kap at hk
  dsimp only at hk
  rw [Bool.and_eq_true] at hk
  have hd := (bo_ok_len h h0).2.2
  have hv := bo_us_len (sp := q_bs b) h hn
  have hx : ((bo_ls n (q_bs b)).map fun a => z a * bo_g w (a / 32)).length = ((bo_ls n (q_bs b)).map (bo_at (bo_U n w))).length := by rw [List.length_map, List.length_map]
  have l1 := bo_kap2 hd hv hk.1 hx
  have l2 := bo_kap2 hd hv hk.2 hx
  have eD : bo_dg (bn_tri (bo_de n w) ((bo_ls n (q_bs b)).map (bo_at (bo_U n w)))) ((bo_ls n (q_bs b)).map fun a => z a * bo_g w (a / 32)) = bo_D n w (q_bs b) z := by
    rw [bo_dg_tri, bo_w_ls]; rfl
  have eN : bo_nq n (fun c => (bo_de n w).getD c 0) (bo_Lc ((bo_ls n (q_bs b)).map fun a => z a * bo_g w (a / 32)) ((bo_ls n (q_bs b)).map (bo_at (bo_U n w)))) = bo_nz n w (q_bs b) z := bo_nq_cg fun c _ => bo_Z_Lc c
  rw [eD, eN] at l1 l2
  have e1 : (10000000 - 519 * (s : Int) - 10000000) * bo_D n w (q_bs b) z = -(519 * (s : Int) * bo_D n w (q_bs b) z) := by grind
  have e2 : (1481 * (s : Int) - 10000000 - -10000000) * bo_D n w (q_bs b) z = 1481 * (s : Int) * bo_D n w (q_bs b) z := by grind
  rw [e1] at l1
  rw [e2] at l2
  exact ⟨by omega, by omega⟩
/-- any numbers left out of a tree -/
theorem bo_m3 (h : bo_ok n w) (hn : n ≤ 32) {b s : Nat} (hk : bo_kap n w b s = true) {a0 : Nat} (h0 : bo_av n a0) (S : Nat → Bool) (z : Nat → Int) : bo_qy ^ 8 * bo_nz n w (q_bs b) (bo_mk S z) ≤ bo_py ^ 8 * bo_nz n w (q_bs b) z := by
  have k1 := (bo_kap_of h hn hk h0 (fun a => 481 * bo_mk S z a + -1000 * bo_on S z a)).2
  have k2 := (bo_kap_of h hn hk h0 (fun a => 481 * bo_mk S z a + 1000 * bo_on S z a)).1
  have eD : bo_D n w (q_bs b) (fun a => 481 * bo_mk S z a + -1000 * bo_on S z a) = bo_D n w (q_bs b) (fun a => 481 * bo_mk S z a + 1000 * bo_on S z a) := by
    unfold bo_D
    refine congrArg (bo_w n (q_bs b)) ?_
    funext a
    unfold bo_mk bo_on
    dsimp only
    by_cases hs : S a = true
    · rw [if_pos hs, if_pos hs]; grind
    · rw [if_neg hs, if_neg hs]; grind
  rw [eD] at k1
  have e1 : bo_nz n w (q_bs b) (fun a => 481 * bo_mk S z a + -1000 * bo_on S z a) = bo_nq n (bo_dw n w) (fun c => 481 * bo_Z n w (q_bs b) (bo_mk S z) c + -1000 * bo_Z n w (q_bs b) (bo_on S z) c) := bo_nq_cg fun c _ => bo_Z_ln c
  have e2 : bo_nz n w (q_bs b) (fun a => 481 * bo_mk S z a + 1000 * bo_on S z a) = bo_nq n (bo_dw n w) (fun c => 481 * bo_Z n w (q_bs b) (bo_mk S z) c + 1000 * bo_Z n w (q_bs b) (bo_on S z) c) := bo_nq_cg fun c _ => bo_Z_ln c
  rw [e1] at k1
  rw [e2] at k2
  have p := bo_prk (n := n) (de := bo_dw n w) (V := bo_Z n w (q_bs b) (bo_mk S z)) (W := bo_Z n w (q_bs b) (bo_on S z)) (T := 1000) (E := 481) (by decide) (by
    have z1 := Int.mul_le_mul_of_nonneg_left k1 (show (0 : Int) ≤ 519 by decide)
    have z2 := Int.mul_le_mul_of_nonneg_left k2 (show (0 : Int) ≤ 1481 by decide)
    have z3 : 519 * (1481 * (s : Int) * bo_D n w (q_bs b) (fun a => 481 * bo_mk S z a + 1000 * bo_on S z a)) = 1481 * (519 * (s : Int) * bo_D n w (q_bs b) (fun a => 481 * bo_mk S z a + 1000 * bo_on S z a)) := by grind
    omega)
  rw [← bo_mk_on (n := n) (w := w) (sp := q_bs b)] at p
  have q : bo_nq n (bo_dw n w) (bo_Z n w (q_bs b) (bo_mk S z)) = bo_nz n w (q_bs b) (bo_mk S z) := rfl
  rw [q] at p
  have hN : 0 ≤ bo_nz n w (q_bs b) (bo_mk S z) := bo_nq0 (bo_ok_dw h) _
  have c1 : bo_qy ^ 8 * (1000 * 1000) ≤ bo_py ^ 8 * (1000 * 1000 - 481 * 481) := by decide
  have g1 := Int.mul_le_mul_of_nonneg_right c1 hN
  have g2 := Int.mul_le_mul_of_nonneg_left p (show (0 : Int) ≤ bo_py ^ 8 by decide)
  refine bo_div (show (0 : Int) < 1000 * 1000 by decide) ?_
  have f1 : bo_qy ^ 8 * (1000 * 1000) * bo_nz n w (q_bs b) (bo_mk S z) = 1000 * 1000 * (bo_qy ^ 8 * bo_nz n w (q_bs b) (bo_mk S z)) := by grind
  have f2 : bo_py ^ 8 * (1000 * 1000 - 481 * 481) * bo_nz n w (q_bs b) (bo_mk S z) = bo_py ^ 8 * ((1000 * 1000 - 481 * 481) * bo_nz n w (q_bs b) (bo_mk S z)) := by grind
  have f3 : bo_py ^ 8 * (1000 * 1000 * bo_nz n w (q_bs b) z) = 1000 * 1000 * (bo_py ^ 8 * bo_nz n w (q_bs b) z) := by grind
  omega
/-- numbers that are small make a short vector -/
theorem bo_sh (h : bo_ok n w) (hn : n ≤ 32) {b s : Nat} (hk : bo_kap n w b s = true) (ht : bo_trc n w b s = true) {a0 : Nat} (h0 : bo_av n a0) {r : Int} (hz : ∀ a, bo_in n (q_bs b) a → -r ≤ z a ∧ z a ≤ r) : bo_nz n w (q_bs b) z ≤ 87 * (bo_sg w * r * (bo_sg w * r)) := by
  have k1 := (bo_kap_of h hn hk h0 z).2
  have t1 := of_decide_eq_true ht
  rw [bo_w_ls] at t1
  have hD : bo_D n w (q_bs b) z ≤ r * r * bo_w n (q_bs b) (fun a => bo_g w (a / 32) ^ 2 * bo_al n w a a) := by
    rw [← bo_w_mul]
    unfold bo_D bo_w
    have mono : ∀ (m : Nat) (f g : Nat → Int), (∀ c, c < m → f c ≤ g c) → bo_s m f ≤ bo_s m g := by
      intro m f g hm
      have := bo_s_0 (f := fun c => g c + -1 * f c) m (fun c hc => by have := hm c hc; omega)
      rw [bo_s_add, bo_s_mul] at this
      omega
    refine mono 16 _ _ fun i hi => ?_
    by_cases hl : bo_lf (q_bs b) i = true
    · rw [if_pos hl, if_pos hl]
      refine mono _ _ _ fun k hkk => ?_
      have hw := q_wdle n i
      have hin : bo_in n (q_bs b) (32 * i + k) := by
        rw [bo_in, show (32 * i + k) / 32 = i by omega, show (32 * i + k) % 32 = k by omega]
        exact ⟨hi, hl, hkk⟩
      have z1 := hz _ hin
      have z2 := bo_sq_le z1.1 z1.2
      have z3 := bo_al0 h (bo_in_av hin)
      have z4 := Int.mul_le_mul_of_nonneg_right z2 (Int.mul_nonneg (bo_sq0 (bo_g w ((32 * i + k) / 32))) z3)
      have e1 : bo_al n w (32 * i + k) (32 * i + k) * (z (32 * i + k) * bo_g w ((32 * i + k) / 32) * (z (32 * i + k) * bo_g w ((32 * i + k) / 32))) = z (32 * i + k) * z (32 * i + k) * (bo_g w ((32 * i + k) / 32) * bo_g w ((32 * i + k) / 32) * bo_al n w (32 * i + k) (32 * i + k)) := by grind
      have e2 : r * r * (bo_g w ((32 * i + k) / 32) ^ 2 * bo_al n w (32 * i + k) (32 * i + k)) = r * r * (bo_g w ((32 * i + k) / 32) * bo_g w ((32 * i + k) / 32) * bo_al n w (32 * i + k) (32 * i + k)) := by grind
      dsimp only
      omega
    · rw [if_neg hl, if_neg hl]; exact Int.le_refl _
  generalize bo_w n (q_bs b) (fun a => bo_g w (a / 32) ^ 2 * bo_al n w a a) = W at *
  generalize bo_D n w (q_bs b) z = D at *
  generalize bo_nz n w (q_bs b) z = N at *
  generalize bo_sg w = sg at *
  have g1 := Int.mul_le_mul_of_nonneg_left hD (show (0 : Int) ≤ 1481 * (s : Int) by omega)
  have g2 := Int.mul_le_mul_of_nonneg_left t1 (bo_sq0 r)
  refine bo_div (show (0 : Int) < 10000000 by decide) ?_
  have e1 : 1481 * (s : Int) * (r * r * W) = r * r * (1481 * (s : Int) * W) := by grind
  have e2 : r * r * (10000000 * (87 * sg ^ 2)) = 10000000 * (87 * (sg * r * (sg * r))) := by grind
  omega
end Mp
