/-! WHAT A CALL DOES TO THE BOUND -/
section Cl
variable {n w : Nat} {sp : Nat → Bool} {z z' : Nat → Int} {b b' : Int}
theorem bo_mk_or {S : Nat → Bool} {a : Nat} {d : Int} (hS : S a = false) (hz : ∀ c, z' c = if c = a then d else z c) : ∀ c, bo_mk S z' c = bo_mk (fun x => S x || decide (x = a)) z c + bo_on (fun x => decide (x = a)) (fun _ => d) c := by
  intro c
  unfold bo_mk bo_on
  rw [hz]
  by_cases hc : c = a
  · subst hc
    rw [hS]
    simp
  · simp [hc]
theorem bo_on_sh (hg : bo_gd n w) (hT : q_T n sp) {a : Nat} (ha : bo_in n sp a) {d : Int} (hd : -100000 ≤ d ∧ d ≤ 100000) : bo_nz n w sp (bo_on (fun x => decide (x = a)) (fun _ => d)) ≤ (bo_sg w * 282843) * (bo_sg w * 282843) := by
  have g := bo_sh1 (z := fun _ => d) hg.2.1 hT.n32 ha (S := fun x => decide (x = a)) (fun c => decide_eq_true_iff)
  have g2 := bo_sq_le hd.1 hd.2
  have hs := bo_sq0 (bo_sg w)
  have g3 := Int.mul_le_mul_of_nonneg_left g2 hs
  generalize bo_sg w = sg at *
  have e1 : 8 * (sg * d * (sg * d)) = 8 * (sg * sg * (d * d)) := by grind
  have e2 : sg * 282843 * (sg * 282843) = 80000162649 * (sg * sg) := by grind
  have e3 : sg * sg * (100000 * 100000) = 10000000000 * (sg * sg) := by grind
  omega
theorem bo_ad_sh (hg : bo_gd n w) (hT : q_T n sp) {D : Nat → Int} (hD : ∀ a, bo_in n sp a → -100000 ≤ D a ∧ D a ≤ 100000) : bo_nz n w sp D ≤ (bo_sg w * 932738) * (bo_sg w * 932738) := by
  have g := bo_shT (z := D) (r := 100000) hg hT hD
  have hs := bo_sq0 (bo_sg w)
  generalize bo_sg w = sg at *
  have e1 : 87 * (sg * 100000 * (sg * 100000)) = 870000000000 * (sg * sg) := by grind
  have e2 : sg * 932738 * (sg * 932738) = 870000176644 * (sg * sg) := by grind
  omega
/-- what is told of a sum in any tree: K times the one is R at most -/
theorem bo_G_mono (h : bo_Gd n w sp b z) (hb : 0 ≤ b) (hbb : b ≤ b') : bo_Gd n w sp b' z := by
  intro S k hl
  have c := bo_ck_q (bo_lev3 hl)
  have hsg := bo_sg0 w
  have p := Int.mul_le_mul_of_nonneg_left hbb (Int.le_of_lt hsg)
  have p1 : 0 ≤ bo_sg w * b := Int.mul_nonneg (Int.le_of_lt hsg) hb
  exact bo_sqle (h S k hl) (Int.mul_nonneg (Int.le_of_lt c.2) p1) (Int.mul_le_mul_of_nonneg_left p (Int.le_of_lt c.2))
/-- numbers change a little -/
theorem bo_G_add (hg : bo_gd n w) (hT : q_T n sp) (h : bo_Gd n w sp b z) (hb : 0 ≤ b) (hbb : b + 932738 ≤ b') (hD : ∀ a, bo_in n sp a → -100000 ≤ z' a - z a ∧ z' a - z a ≤ 100000) : bo_Gd n w sp b' z' := by
  intro S k hl
  have c := bo_ck_q (bo_lev3 hl)
  have hsg := bo_sg0 w
  have p1 : 0 ≤ bo_sg w * b := Int.mul_nonneg (Int.le_of_lt hsg) hb
  have sh := bo_ad_sh (D := bo_mk S fun a => z' a - z a) hg hT (by
    intro a ha
    have := hD a ha
    unfold bo_mk
    by_cases hS : S a = true
    · rw [if_pos hS]; omega
    · rw [if_neg hS]; exact this)
  have t := bo_tr3 (K := bo_qy ^ 3) hg.2.1 (by decide) (Int.mul_nonneg (Int.le_of_lt c.2) p1) (show 0 ≤ bo_sg w * 932738 by omega) (h S k hl) sh
  have e : (fun a => bo_mk S z a + bo_mk S (fun a => z' a - z a) a) = bo_mk S z' := by
    funext a
    unfold bo_mk
    by_cases hS : S a = true
    · rw [if_pos hS, if_pos hS, if_pos hS]; rfl
    · rw [if_neg hS, if_neg hS, if_neg hS]; dsimp only; omega
  rw [e] at t
  refine bo_sqle t (Int.add_nonneg (Int.mul_nonneg (Int.le_of_lt c.2) p1) (Int.mul_nonneg (by decide) (by omega))) ?_
  have g1 := Int.mul_le_mul_of_nonneg_right c.1 (show 0 ≤ bo_sg w * 932738 by omega)
  have g2 := Int.mul_le_mul_of_nonneg_left hbb (Int.mul_nonneg (Int.le_of_lt c.2) (Int.le_of_lt hsg))
  have e1 : bo_ck k * bo_sg w * (b + 932738) = bo_ck k * (bo_sg w * b) + bo_ck k * (bo_sg w * 932738) := by grind
  have e2 : bo_ck k * bo_sg w * b' = bo_ck k * (bo_sg w * b') := by grind
  omega
theorem bo_ck_st {k : Nat} (h : k < 3) : bo_qy * bo_ck (k + 1) = bo_py * bo_ck k := by
  have h4 : k = 0 ∨ k = 1 ∨ k = 2 := by omega
  rcases h4 with z | z | z <;> subst z <;> decide +kernel
/-- a number is set -/
theorem bo_G_set (hg : bo_gd n w) (hT : q_T n sp) (h : bo_Gd n w sp b z) (hb : 0 ≤ b) (hbb : bo_py * b ≤ bo_qy * (b' - 282843)) (hb1 : b ≤ b') {a : Nat} (ha : bo_in n sp a) {d : Int} (hd : -100000 ≤ d ∧ d ≤ 100000) (hz : ∀ c, z' c = if c = a then d else z c) : bo_Gd n w sp b' z' := by
  intro S k hl
  have c := bo_ck_q (bo_lev3 hl)
  have hsg := bo_sg0 w
  have p1 : 0 ≤ bo_sg w * b := Int.mul_nonneg (Int.le_of_lt hsg) hb
  cases hS : S a
  · -- the number is told
    have hl' : ∃ k', k' ≤ 3 ∧ bo_lev n sp (fun x => S x || decide (x = a)) k' ∧ bo_qy * bo_ck k' ≤ bo_py * bo_ck k := by
      rcases hl with ⟨hk, h0⟩ | ⟨hk, a1, h1, h2⟩ | ⟨hk, a1, a2, h1, h2, h3, h4⟩ | hk <;> subst hk
      · refine ⟨1, by decide, Or.inr (Or.inl ⟨rfl, a, ha, fun x => ?_⟩), Int.le_of_eq (bo_ck_st (by decide))⟩
        dsimp only
        rw [h0 x, Bool.false_or, decide_eq_true_iff]
      · have hne : a1 ≠ a := fun e => by
          have := (h2 a).mpr e.symm
          rw [hS] at this; exact Bool.false_ne_true this
        refine ⟨2, by decide, Or.inr (Or.inr (Or.inl ⟨rfl, a1, a, h1, ha, hne, fun x => ?_⟩)), Int.le_of_eq (bo_ck_st (by decide))⟩
        dsimp only
        rw [Bool.or_eq_true, decide_eq_true_iff, h2 x]
      · exact ⟨3, by decide, Or.inr (Or.inr (Or.inr rfl)), Int.le_of_eq (bo_ck_st (by decide))⟩
      · exact ⟨3, by decide, Or.inr (Or.inr (Or.inr rfl)), by decide +kernel⟩
    obtain ⟨k', k3, l', ck⟩ := hl'
    have c' := bo_ck_q k3
    have t := bo_tr3 (K := bo_qy ^ 3) hg.2.1 (by decide) (Int.mul_nonneg (Int.le_of_lt c'.2) p1) (show 0 ≤ bo_sg w * 282843 by omega) (h _ k' l') (bo_on_sh hg hT ha hd)
    have e : (fun x => bo_mk (fun x => S x || decide (x = a)) z x + bo_on (fun x => decide (x = a)) (fun _ => d) x) = bo_mk S z' := by
      funext x
      exact (bo_mk_or hS hz x).symm
    rw [e] at t
    refine bo_sqle t (Int.add_nonneg (Int.mul_nonneg (Int.le_of_lt c'.2) p1) (Int.mul_nonneg (by decide) (by omega))) ?_
    have g1 := Int.mul_le_mul_of_nonneg_right c.1 (show 0 ≤ bo_sg w * 282843 by omega)
    have g2 := Int.mul_le_mul_of_nonneg_right ck p1
    have g3 := Int.mul_le_mul_of_nonneg_left hbb (Int.mul_nonneg (Int.le_of_lt c.2) (Int.le_of_lt hsg))
    refine bo_div (show (0 : Int) < bo_qy by decide) ?_
    have e1 : bo_ck k * bo_sg w * (bo_py * b) = bo_py * bo_ck k * (bo_sg w * b) := by grind
    have e2 : bo_ck k * bo_sg w * (bo_qy * (b' - 282843)) = bo_qy * (bo_ck k * (bo_sg w * b')) - bo_qy * (bo_ck k * (bo_sg w * 282843)) := by grind
    have e3 : bo_qy * (bo_ck k' * (bo_sg w * b) + bo_qy ^ 3 * (bo_sg w * 282843)) = bo_qy * bo_ck k' * (bo_sg w * b) + bo_qy * (bo_qy ^ 3 * (bo_sg w * 282843)) := by grind
    have g4 := Int.mul_le_mul_of_nonneg_left g1 (show (0 : Int) ≤ bo_qy by decide)
    omega
  · have e : bo_mk S z' = bo_mk S z := by
      funext x
      unfold bo_mk
      rw [hz]
      by_cases hx : x = a
      · subst hx; rw [hS, if_pos rfl, if_pos rfl]
      · rw [if_neg hx]
    rw [e]
    exact bo_G_mono h hb hb1 S k hl
/-! at the root -/
theorem bo_R_mono (h : bo_Rt n w b z) (hb : 0 ≤ b) (hbb : b ≤ b') : bo_Rt n w b' z := by
  rcases h with h | h
  · left
    have hsg := bo_sg0 w
    have p := Int.mul_le_mul_of_nonneg_left hbb (Int.le_of_lt hsg)
    have p1 : 0 ≤ bo_sg w * b := Int.mul_nonneg (Int.le_of_lt hsg) hb
    exact bo_sqle h (Int.mul_nonneg (by decide) p1) (Int.mul_le_mul_of_nonneg_left p (by decide))
  · right
    intro v hv
    exact bo_mono hb hbb (h v hv)
theorem bo_R0 (hw : w < 3) (hg : bo_gd n w) (h : bo_Rt n w b z) (hb : 0 ≤ b) : bo_nz n w (fun _ => false) z ≤ (bo_sg w * b) * (bo_sg w * b) := by
  rcases h with h | h
  · have hN : 0 ≤ bo_nz n w (fun _ => false) z := bo_nz0 hg.2.1
    generalize bo_nz n w (fun _ => false) z = N at *
    generalize bo_sg w * b = X at *
    have e : bo_qy * X * (bo_qy * X) = 4194304 * (X * X) := by
      have : bo_qy = 2048 := rfl
      rw [this]; grind
    have e2 : bo_py * bo_py = 4481689 := by decide
    rw [e, e2] at h
    omega
  · exact h w hw
theorem bo_RT (hb : bo_nz n w (fun _ => false) z ≤ (bo_sg w * b) * (bo_sg w * b)) (h0 : 0 ≤ b) (hbb : bo_py * b ≤ bo_qy * b') : bo_Rt n w b' z := by
  left
  have hsg := bo_sg0 w
  have p1 : 0 ≤ bo_sg w * b := Int.mul_nonneg (Int.le_of_lt hsg) h0
  have g := Int.mul_le_mul_of_nonneg_left hb (show (0 : Int) ≤ bo_py * bo_py by decide)
  have e : bo_py * bo_py * (bo_sg w * b * (bo_sg w * b)) = bo_py * (bo_sg w * b) * (bo_py * (bo_sg w * b)) := by grind
  rw [e] at g
  refine bo_sqle g (Int.mul_nonneg (by decide) p1) ?_
  have := Int.mul_le_mul_of_nonneg_left hbb (Int.le_of_lt hsg)
  have e1 : bo_sg w * (bo_py * b) = bo_py * (bo_sg w * b) := by grind
  have e2 : bo_sg w * (bo_qy * b') = bo_qy * (bo_sg w * b') := by grind
  omega
theorem bo_R_add (hg : ∀ v, v < 3 → bo_gd n v) (hw : w < 3) (hT : q_T n (fun _ => false)) (h : bo_Rt n w b z) (hb : 0 ≤ b) (hbb : b + 970000 ≤ b') (hD : ∀ a, bo_in n (fun _ => false) a → -100000 ≤ z' a - z a ∧ z' a - z a ≤ 100000) : bo_Rt n w b' z' := by
  have e : (fun a => z a + (z' a - z a)) = z' := by funext a; omega
  rcases h with h | h
  · left
    have hsg := bo_sg0 w
    have p1 : 0 ≤ bo_sg w * b := Int.mul_nonneg (Int.le_of_lt hsg) hb
    have t := bo_tr3 (K := bo_py) (hg w hw).2.1 (by decide) (Int.mul_nonneg (show (0 : Int) ≤ bo_qy by decide) p1) (show 0 ≤ bo_sg w * 932738 by omega) h (bo_ad_sh (hg w hw) hT hD)
    rw [e] at t
    refine bo_sqle t (Int.add_nonneg (Int.mul_nonneg (by decide) p1) (Int.mul_nonneg (by decide) (by omega))) ?_
    have g2 := Int.mul_le_mul_of_nonneg_left hbb (Int.le_of_lt hsg)
    have e1 : bo_sg w * (b + 970000) = bo_sg w * b + 970000 * bo_sg w := by grind
    have e2 : bo_qy * (bo_sg w * b) + bo_py * (bo_sg w * 932738) = 2048 * (bo_sg w * b) + 1974606346 * bo_sg w := by unfold bo_qy bo_py; grind
    have e3 : bo_qy * (bo_sg w * b') = 2048 * (bo_sg w * b') := rfl
    omega
  · right
    intro v hv
    have hsg := bo_sg0 v
    have p1 : 0 ≤ bo_sg v * b := Int.mul_nonneg (Int.le_of_lt hsg) hb
    have t := bo_tr3 (z1 := z) (K := 1) (hg v hv).2.1 (by decide) p1 (show 0 ≤ bo_sg v * 932738 by omega) (by have := h v hv; omega) (bo_ad_sh (hg v hv) hT hD)
    rw [e] at t
    have g2 := Int.mul_le_mul_of_nonneg_left hbb (Int.le_of_lt hsg)
    have e1 : bo_sg v * (b + 970000) = bo_sg v * b + 970000 * bo_sg v := by grind
    have t2 := bo_sqle t (by omega) (show bo_sg v * b + 1 * (bo_sg v * 932738) ≤ bo_sg v * b' by omega)
    omega
theorem bo_R_set (hg : ∀ v, v < 3 → bo_gd n v) (hw : w < 3) (hT : q_T n (fun _ => false)) (h : bo_Rt n w b z) (hb : 0 ≤ b) (hbb : bo_py * b ≤ bo_qy * (b' - 300000)) {a : Nat} (ha : bo_in n (fun _ => false) a) {d : Int} (hd : -100000 ≤ d ∧ d ≤ 100000) (hz : ∀ c, z' c = if c = a then d else z c) : bo_Rt n w b' z' := by
  have hr : a / 32 = 1 := by
    have := ha
    rw [← bo_b0] at this
    exact bo_rt_in this
  have e : (fun x => bo_mk (fun x => (fun _ => false) x || decide (x = a)) z x + bo_on (fun x => decide (x = a)) (fun _ => d) x) = z' := by
    funext x
    have := bo_mk_or (S := fun _ => false) (z := z) (z' := z') (a := a) (d := d) rfl hz x
    rw [bo_mk0 (fun _ => rfl)] at this
    exact this.symm
  have hm : ∀ v, v < 3 → bo_qy ^ 2 * bo_nz n v (fun _ => false) (bo_mk (fun x => (fun _ => false) x || decide (x = a)) z) ≤ bo_py ^ 2 * bo_nz n v (fun _ => false) z := fun v hv => bo_m0 (hg v hv).2.1 hT ha hr (fun x => by dsimp only; rw [Bool.false_or, decide_eq_true_iff])
  have q2 : bo_qy ^ 2 = 4194304 := by decide
  have p2 : bo_py ^ 2 = 4481689 := by decide
  have pp : bo_py * bo_py = 4481689 := by decide
  rcases h with h | h
  · left
    have hsg := bo_sg0 w
    have p1 : 0 ≤ bo_sg w * b := Int.mul_nonneg (Int.le_of_lt hsg) hb
    have m := hm w hw
    have h1 : bo_py * bo_py * (bo_nz n w (fun _ => false) (bo_mk (fun x => (fun _ => false) x || decide (x = a)) z)) ≤ (bo_py * (bo_sg w * b)) * (bo_py * (bo_sg w * b)) := by
      have f1 : bo_qy * (bo_sg w * b) * (bo_qy * (bo_sg w * b)) = 4194304 * (bo_sg w * b * (bo_sg w * b)) := by
        have : bo_qy = 2048 := rfl
        rw [this]; grind
      have f2 : bo_py * (bo_sg w * b) * (bo_py * (bo_sg w * b)) = 4481689 * (bo_sg w * b * (bo_sg w * b)) := by
        have : bo_py = 2117 := rfl
        rw [this]; grind
      rw [f1, pp] at h
      rw [f2, pp]
      rw [q2, p2] at m
      omega
    have t := bo_tr3 (K := bo_py) (hg w hw).2.1 (by decide) (Int.mul_nonneg (show (0 : Int) ≤ bo_py by decide) p1) (show 0 ≤ bo_sg w * 282843 by omega) h1 (bo_on_sh (hg w hw) hT ha hd)
    rw [e] at t
    refine bo_sqle t (Int.add_nonneg (Int.mul_nonneg (by decide) p1) (Int.mul_nonneg (by decide) (by omega))) ?_
    have g2 := Int.mul_le_mul_of_nonneg_left hbb (Int.le_of_lt hsg)
    have e1 : bo_sg w * (bo_py * b) = bo_py * (bo_sg w * b) := by grind
    have e2 : bo_sg w * (bo_qy * (b' - 300000)) = bo_qy * (bo_sg w * b') - 614400000 * bo_sg w := by unfold bo_qy; grind
    have e3 : bo_py * (bo_sg w * 282843) = 598778631 * bo_sg w := by unfold bo_py; grind
    omega
  · right
    intro v hv
    have hsg := bo_sg0 v
    have p1 : 0 ≤ bo_sg v * b := Int.mul_nonneg (Int.le_of_lt hsg) hb
    have m := hm v hv
    have h0 := h v hv
    have h1 : bo_qy * bo_qy * (bo_nz n v (fun _ => false) (bo_mk (fun x => (fun _ => false) x || decide (x = a)) z)) ≤ (bo_py * (bo_sg v * b)) * (bo_py * (bo_sg v * b)) := by
      have f2 : bo_py * (bo_sg v * b) * (bo_py * (bo_sg v * b)) = 4481689 * (bo_sg v * b * (bo_sg v * b)) := by
        have : bo_py = 2117 := rfl
        rw [this]; grind
      have qq : bo_qy * bo_qy = 4194304 := by decide
      rw [f2, qq]
      rw [q2, p2] at m
      omega
    have t := bo_tr3 (K := bo_qy) (hg v hv).2.1 (by decide) (Int.mul_nonneg (show (0 : Int) ≤ bo_py by decide) p1) (show 0 ≤ bo_sg v * 282843 by omega) h1 (bo_on_sh (hg v hv) hT ha hd)
    rw [e] at t
    have g2 := Int.mul_le_mul_of_nonneg_left hbb (Int.le_of_lt hsg)
    have e1 : bo_sg v * (bo_py * b) = bo_py * (bo_sg v * b) := by grind
    have e2 : bo_sg v * (bo_qy * (b' - 300000)) = bo_qy * (bo_sg v * b') - 614400000 * bo_sg v := by unfold bo_qy; grind
    have e3 : bo_qy * (bo_sg v * 282843) = 579262464 * bo_sg v := by unfold bo_qy; grind
    have t2 := bo_sqle t (Int.add_nonneg (Int.mul_nonneg (by decide) p1) (Int.mul_nonneg (by decide) (by omega))) (show bo_py * (bo_sg v * b) + bo_qy * (bo_sg v * 282843) ≤ bo_qy * (bo_sg v * b') by omega)
    refine bo_div (show (0 : Int) < bo_qy * bo_qy by decide) ?_
    have e4 : bo_qy * (bo_sg v * b') * (bo_qy * (bo_sg v * b')) = bo_qy * bo_qy * (bo_sg v * b' * (bo_sg v * b')) := by grind
    omega
/-- another wavelet -/
theorem bo_R_wv (hn : bo_gn n) (hw : w < 3) (h : bo_Rt n w b z) (hb : 0 ≤ b) (hbb : bo_py * b ≤ bo_qy * b') (m : Nat) : bo_Rt n m b' z := by
  have hbb2 : b ≤ b' := by
    have e1 : bo_py * b = 2117 * b := rfl
    have e2 : bo_qy * b' = 2048 * b' := rfl
    omega
  right
  intro v hv
  rcases h with h | h
  · by_cases hvw : w = v
    · subst hvw
      exact bo_mono hb hbb2 (bo_R0 hw (hn.2.1 w hw) (Or.inl h) hb)
    · have t := bo_tr4 (hn.2.1 w hw).2.1 (hn.2.1 v hv).2.1 (by have := hn.1; omega) (bo_av0 hn.1) (hn.2.2 w v hw hv hvw) z
      rw [bo_b0] at t
      have hsw := bo_sg0 w
      have hsv := bo_sg0 v
      have hN : 0 ≤ bo_nz n v (fun _ => false) z := bo_nz0 (hn.2.1 v hv).2.1
      have f := Int.mul_le_mul_of_nonneg_right h (Int.mul_nonneg (Int.le_of_lt hsv) (Int.le_of_lt hsv))
      generalize bo_nz n w (fun _ => false) z = Nw at *
      generalize bo_nz n v (fun _ => false) z = Nv at *
      generalize bo_sg w = s at *
      generalize bo_sg v = r at *
      have k1 : bo_py * bo_py = 4481689 := by decide
      have k2 : bo_py ^ 4 = 20085536292721 := by decide
      have k3 : bo_qy ^ 4 = 17592186044416 := by decide
      have f1 : bo_qy * (s * b) * (bo_qy * (s * b)) * (r * r) = 4194304 * (s * s * (r * b * (r * b))) := by
        have : bo_qy = 2048 := rfl
        rw [this]; grind
      have f2 : bo_py * bo_py * Nw * (r * r) = 4481689 * (Nw * (r * r)) := by rw [k1]; grind
      rw [f1, f2] at f
      rw [k2, k3] at t
      have g : 4194304 * (s * s * Nv) ≤ 4481689 * (s * s * (r * b * (r * b))) := by
        have : Nv * (s * s) = s * s * Nv := Int.mul_comm _ _
        omega
      have g2 : 4194304 * Nv ≤ 4481689 * (r * b * (r * b)) := by
        refine bo_div (Int.mul_pos hsw hsw) ?_
        have e1 : s * s * (4194304 * Nv) = 4194304 * (s * s * Nv) := by grind
        have e2 : s * s * (4481689 * (r * b * (r * b))) = 4481689 * (s * s * (r * b * (r * b))) := by grind
        omega
      have p1 : 0 ≤ r * b := Int.mul_nonneg (Int.le_of_lt hsv) hb
      have g3 : 2117 * (r * b) ≤ 2048 * (r * b') := by
        have := Int.mul_le_mul_of_nonneg_left hbb (Int.le_of_lt hsv)
        have e1 : r * (bo_py * b) = 2117 * (r * b) := by unfold bo_py; grind
        have e2 : r * (bo_qy * b') = 2048 * (r * b') := by unfold bo_qy; grind
        omega
      have g4 := bo_mul2 g3 g3 (by omega) (by omega)
      have e3 : 2117 * (r * b) * (2117 * (r * b)) = 4481689 * (r * b * (r * b)) := by grind
      have e4 : 2048 * (r * b') * (2048 * (r * b')) = 4194304 * (r * b' * (r * b')) := by grind
      omega
  · exact bo_mono hb hbb2 (h v hv)
end Cl
