/-! FROM TREE TO TREE -/
/-- the checks of all trees of a length and a wavelet -/
def bo_kt (n w : Nat) : Prop := ∀ b, b < 256 → q_Tb n (q_bs b) = true → ∃ s, bo_kap n w b s = true ∧ bo_trc n w b s = true
def bo_gd (n w : Nat) : Prop := w < 3 ∧ bo_ok n w ∧ bo_kt n w
theorem bo_b0 : q_bs 0 = fun _ => false := by
  funext j
  exact Nat.zero_testBit j
theorem bo_av0 {n : Nat} (hn : n = 4 ∨ n = 8 ∨ n = 16 ∨ n = 32) : bo_av n 32 := by
  unfold bo_av
  have : q_wd n (32 / 32) = n := Nat.div_one n
  rw [this]
  omega
section Tt
variable {n w i : Nat} {sp : Nat → Bool} {z : Nat → Int}
theorem bo_shT (h : bo_gd n w) (hT : q_T n sp) {r : Int} (hz : ∀ a, bo_in n sp a → -r ≤ z a ∧ z a ≤ r) : bo_nz n w sp z ≤ 87 * (bo_sg w * r * (bo_sg w * r)) := by
  obtain ⟨b, h1, h2, h3⟩ := q_T_bits hT
  obtain ⟨s, k1, k2⟩ := h.2.2 b h1 h3
  subst h2
  exact bo_sh h.2.1 hT.n32 k1 k2 (bo_av0 hT.1) hz
theorem bo_m3T (h : bo_gd n w) (hT : q_T n sp) (S : Nat → Bool) (z : Nat → Int) : bo_qy ^ 8 * bo_nz n w sp (bo_mk S z) ≤ bo_py ^ 8 * bo_nz n w sp z := by
  obtain ⟨b, h1, h2, h3⟩ := q_T_bits hT
  obtain ⟨s, k1, k2⟩ := h.2.2 b h1 h3
  subst h2
  exact bo_m3 h.2.1 hT.n32 k1 (bo_av0 hT.1) S z
/-- a node's part of a sum -/
def bo_bl (n j : Nat) (f : Nat → Int) : Int := bo_s (q_wd n j) fun k => f (32 * j + k)
theorem bo_w_st (hT : q_T n sp) (h1 : 1 ≤ i) (h8 : i < 8) (hx : q_ex sp i = true) (hs : sp i = false) (f : Nat → Int) : bo_w n (q_st sp i true) f + bo_bl n i f = bo_w n sp f + bo_bl n (2 * i) f + bo_bl n (2 * i + 1) f := by
  have e1 : ∀ j t, j < 16 → bo_s 16 (fun c => if c = j then t else 0) = t := by
    intro j t hj
    rw [bo_s_1 (j := j) 16 hj (fun c _ hc => if_neg hc), if_pos rfl]
  rw [← e1 i (bo_bl n i f) (by omega), ← e1 (2 * i) (bo_bl n (2 * i) f) (by omega), ← e1 (2 * i + 1) (bo_bl n (2 * i + 1) f) (by omega)]
  unfold bo_w
  rw [← bo_s_add, ← bo_s_add, ← bo_s_add]
  refine bo_s_cg 16 fun j hj => ?_
  have hk : ∀ j, 2 ≤ j → j < 16 → sp j = true → sp (j / 2) = true := by
    intro j j2 j16 hsj
    by_cases j8 : j < 8
    · exact hT.2.2.2.1 j j2 j8 hsj
    · rw [hT.2.2.1 j (by omega)] at hsj; exact absurd hsj Bool.false_ne_true
  have hne : ∀ j, 2 ≤ j → j < 16 → j / 2 = i → sp j = false ∧ q_ex sp j = false := by
    intro j j2 j16 hji
    constructor
    · cases z : sp j
      · rfl
      · have := hk j j2 j16 z
        rw [hji, hs] at this; exact absurd this Bool.false_ne_true
    · rw [q_ex_kid j2 j16 hji, hs]
  have hst : ∀ j, j ≠ i → q_st sp i true j = sp j := fun j hj => if_neg hj
  have hsti : q_st sp i true i = true := if_pos rfl
  by_cases c1 : j = i
  · have l1 : bo_lf (q_st sp i true) j = false := by
      unfold bo_lf; rw [c1, hsti]; simp
    have l2 : bo_lf sp j = true := by
      unfold bo_lf; rw [c1, hx, hs]; rfl
    rw [l1, l2, if_neg Bool.false_ne_true, if_pos rfl, if_pos c1, if_neg (by omega), if_neg (by omega), c1]
    unfold bo_bl
    omega
  · rw [if_neg c1]
    by_cases c2 : j / 2 = i
    · have j2 : 2 ≤ j := by omega
      have g := hne j j2 hj c2
      have l1 : bo_lf (q_st sp i true) j = true := by
        unfold bo_lf
        rw [q_ex_kid j2 hj c2, hsti, hst j c1, g.1]; rfl
      have l2 : bo_lf sp j = false := by
        unfold bo_lf; rw [g.2]; rfl
      rw [l1, l2, if_neg Bool.false_ne_true, if_pos rfl]
      have h3 : j = 2 * i ∨ j = 2 * i + 1 := by omega
      rcases h3 with z | z
      · rw [if_pos z, if_neg (by omega), z]; unfold bo_bl; omega
      · rw [if_neg (by omega), if_pos z, z]; unfold bo_bl; omega
    · have l : bo_lf (q_st sp i true) j = bo_lf sp j := by
        unfold bo_lf
        rw [hst j c1]
        by_cases j2 : 2 ≤ j
        · rw [q_ex_kid j2 hj rfl, q_ex_kid j2 hj rfl, hst _ c2]
        · have e : q_ex (q_st sp i true) j = q_ex sp j := by
            unfold q_ex
            rw [decide_eq_false (show ¬ 1 < j by omega), Bool.false_and, Bool.false_and, Bool.false_and]
          rw [e]
      rw [l, if_neg (show ¬ j = 2 * i by omega), if_neg (show ¬ j = 2 * i + 1 by omega)]
      omega
/-- the children's numbers come of the node's by a split in whole numbers -/
def bo_pi (i : Nat) (z : Nat → Int) : bo_p := bo_pz fun j => z (32 * i + j)
def bo_rel (n w i : Nat) (z : Nat → Int) : Prop := ∀ q, q < q_wd n i / 2 → z (64 * i + q) = (bo_up w (q_wd n i / 2) (bo_pi i z)).1 q ∧ z (64 * i + 32 + q) = (bo_up w (q_wd n i / 2) (bo_pi i z)).2 q
theorem bo_gk (hw : w < 3) (h1 : 1 ≤ i) (h8 : i < 8) : (bn_S w : Int) * bo_g w (2 * i) = bo_D4 w * bo_g w i ∧ (bn_S w : Int) * bo_g w (2 * i + 1) = bo_g w i := by
  have key : ∀ w : Fin 3, ∀ i : Fin 8, i.val = 0 ∨ ((bn_S w.val : Int) * bo_g w.val (2 * i.val) = bo_D4 w.val * bo_g w.val i.val ∧ (bn_S w.val : Int) * bo_g w.val (2 * i.val + 1) = bo_g w.val i.val) := by decide +kernel
  rcases key ⟨w, hw⟩ ⟨i, h8⟩ with z | z
  · exact absurd z (by dsimp only; omega)
  · exact z
/-- how far the split is off -/
noncomputable def bo_er (n w i : Nat) (z : Nat → Int) (a : Nat) : Int := if a / 32 = 2 * i then (bn_S w : Int) * z a - (bo_lsp w (q_wd n i / 2) (bo_pi i z)).1 (a % 32) else if a / 32 = 2 * i + 1 then (bn_S w : Int) * z a - (bo_lsp w (q_wd n i / 2) (bo_pi i z)).2 (a % 32) else 0
theorem bo_dc (h : bo_gd n w) (hT : q_T n sp) (h1 : 1 ≤ i) (h8 : i < 8) (hx : q_ex sp i = true) (hs : sp i = false) (h2 : 2 ≤ q_wd n i) (c : Nat) : (bn_S w : Int) * (bo_Z n w (q_st sp i true) z c + -1 * bo_Z n w sp z c) = bo_Z n w (q_st sp i true) (bo_er n w i z) c := by
  have hw := h.1
  have g := q_geo1 n hT.1 i h8 h1 h2
  have gk := bo_gk hw h1 h8
  have hn := hT.n32
  have hwle := q_wdle n i
  have w1 := bo_w_st hT h1 h8 hx hs (fun a => z a * (bo_g w (a / 32) * bo_ra n w a c))
  have w2 := bo_w_st hT h1 h8 hx hs (fun a => bo_er n w i z a * (bo_g w (a / 32) * bo_ra n w a c))
  have z1 : bo_w n sp (fun a => bo_er n w i z a * (bo_g w (a / 32) * bo_ra n w a c)) = 0 := by
    have : bo_w n sp (fun a => bo_er n w i z a * (bo_g w (a / 32) * bo_ra n w a c)) = bo_w n sp (fun _ => 0 * 0) := by
      refine bo_w_cg hn fun a ha => ?_
      have hl := ha.2.1
      unfold bo_lf at hl
      rw [Bool.and_eq_true] at hl
      have key : ∀ j, j < 16 → j / 2 = i → q_ex sp j = true → False := by
        intro j j16 hji hex
        rw [q_ex_kid (by omega) j16 hji, hs] at hex
        exact Bool.false_ne_true hex
      unfold bo_er
      rw [if_neg (fun y => key _ ha.1 (by omega) hl.1), if_neg (fun y => key _ ha.1 (by omega) hl.1), Int.zero_mul]; rfl
    rw [this, bo_w_mul, Int.zero_mul]
  have z2 : bo_bl n i (fun a => bo_er n w i z a * (bo_g w (a / 32) * bo_ra n w a c)) = 0 := by
    unfold bo_bl
    have : bo_s (q_wd n i) (fun k => bo_er n w i z (32 * i + k) * (bo_g w ((32 * i + k) / 32) * bo_ra n w (32 * i + k) c)) = bo_s (q_wd n i) (fun _ => 0) := by
      refine bo_s_cg _ fun k hk => ?_
      unfold bo_er
      rw [if_neg (by omega), if_neg (by omega), Int.zero_mul]
    rw [this, bo_s_z]
  have hF := bo_F_z h.2.1 hT.1 h1 h8 h2 c (fun j => z (32 * i + j))
  have b0 : bo_bl n i (fun a => z a * (bo_g w (a / 32) * bo_ra n w a c)) = bo_g w i * bo_s (q_wd n i) (fun t => z (32 * i + t) * bo_ra n w (32 * i + t) c) := by
    unfold bo_bl
    rw [← bo_s_mul]
    refine bo_s_cg _ fun k hk => ?_
    dsimp only
    rw [show (32 * i + k) / 32 = i by omega]; grind
  have bA : ∀ f : Nat → Int, bo_bl n (2 * i) (fun a => f a * (bo_g w (a / 32) * bo_ra n w a c)) = bo_g w (2 * i) * bo_s (q_wd n i / 2) (fun q => f (64 * i + q) * bo_ra n w (64 * i + q) c) := by
    intro f
    unfold bo_bl
    rw [← bo_s_mul, g.2.2.1]
    refine bo_s_cg _ fun k hk => ?_
    dsimp only
    rw [show 32 * (2 * i) + k = 64 * i + k by omega, show (64 * i + k) / 32 = 2 * i by omega]; grind
  have bB : ∀ f : Nat → Int, bo_bl n (2 * i + 1) (fun a => f a * (bo_g w (a / 32) * bo_ra n w a c)) = bo_g w (2 * i + 1) * bo_s (q_wd n i / 2) (fun q => f (64 * i + 32 + q) * bo_ra n w (64 * i + 32 + q) c) := by
    intro f
    unfold bo_bl
    rw [← bo_s_mul, g.2.2.2.1]
    refine bo_s_cg _ fun k hk => ?_
    dsimp only
    rw [show 32 * (2 * i + 1) + k = 64 * i + 32 + k by omega, show (64 * i + 32 + k) / 32 = 2 * i + 1 by omega]; grind
  have eA : bo_s (q_wd n i / 2) (fun q => bo_er n w i z (64 * i + q) * bo_ra n w (64 * i + q) c) = (bn_S w : Int) * bo_s (q_wd n i / 2) (fun q => z (64 * i + q) * bo_ra n w (64 * i + q) c) - bo_s (q_wd n i / 2) (fun q => (bo_lsp w (q_wd n i / 2) (bo_pi i z)).1 q * bo_ra n w (64 * i + q) c) := by
    have : ∀ a b : Int, a - b = a + -1 * b := fun a b => by omega
    rw [this, ← bo_s_mul, ← bo_s_mul, ← bo_s_add]
    refine bo_s_cg _ fun k hk => ?_
    unfold bo_er
    rw [if_pos (by omega), show (64 * i + k) % 32 = k by omega]; grind
  have eB : bo_s (q_wd n i / 2) (fun q => bo_er n w i z (64 * i + 32 + q) * bo_ra n w (64 * i + 32 + q) c) = (bn_S w : Int) * bo_s (q_wd n i / 2) (fun q => z (64 * i + 32 + q) * bo_ra n w (64 * i + 32 + q) c) - bo_s (q_wd n i / 2) (fun q => (bo_lsp w (q_wd n i / 2) (bo_pi i z)).2 q * bo_ra n w (64 * i + 32 + q) c) := by
    have : ∀ a b : Int, a - b = a + -1 * b := fun a b => by omega
    rw [this, ← bo_s_mul, ← bo_s_mul, ← bo_s_add]
    refine bo_s_cg _ fun k hk => ?_
    unfold bo_er
    rw [if_neg (by omega), if_pos (by omega), show (64 * i + 32 + k) % 32 = k by omega]; grind
  have fA : bo_s (q_wd n i / 2) (fun q => bo_D4 w * (bo_lsp w (q_wd n i / 2) (bo_pi i z)).1 q * bo_ra n w (64 * i + q) c) = bo_D4 w * bo_s (q_wd n i / 2) (fun q => (bo_lsp w (q_wd n i / 2) (bo_pi i z)).1 q * bo_ra n w (64 * i + q) c) := by
    rw [← bo_s_mul]
    exact bo_s_cg _ fun k _ => by grind
  unfold bo_F at hF
  have hpi : bo_pz (fun j => z (32 * i + j)) = bo_pi i z := rfl
  rw [hpi, fA] at hF
  rw [b0, bA, bB] at w1
  rw [z1, z2, bA, bB, eA, eB] at w2
  unfold bo_Z
  rw [Int.add_zero, Int.zero_add] at w2
  rw [w2]
  generalize bo_w n (q_st sp i true) (fun a => z a * (bo_g w (a / 32) * bo_ra n w a c)) = W1 at *
  generalize bo_w n sp (fun a => z a * (bo_g w (a / 32) * bo_ra n w a c)) = W0 at *
  generalize bo_s (q_wd n i) (fun t => z (32 * i + t) * bo_ra n w (32 * i + t) c) = P at *
  generalize bo_s (q_wd n i / 2) (fun q => z (64 * i + q) * bo_ra n w (64 * i + q) c) = A at *
  generalize bo_s (q_wd n i / 2) (fun q => z (64 * i + 32 + q) * bo_ra n w (64 * i + 32 + q) c) = B at *
  generalize bo_s (q_wd n i / 2) (fun q => (bo_lsp w (q_wd n i / 2) (bo_pi i z)).1 q * bo_ra n w (64 * i + q) c) = LA at *
  generalize bo_s (q_wd n i / 2) (fun q => (bo_lsp w (q_wd n i / 2) (bo_pi i z)).2 q * bo_ra n w (64 * i + 32 + q) c) = LB at *
  obtain ⟨k1, k2⟩ := gk
  have hS := bo_S0 w
  generalize bo_g w (2 * i) = ga at *
  generalize bo_g w (2 * i + 1) = gb at *
  generalize bo_g w i = gi at *
  generalize bo_D4 w = D4 at *
  generalize (bn_S w : Int) = S at *
  have e1 : W1 + -1 * W0 = ga * A + gb * B - gi * P := by omega
  rw [e1]
  have e2 : S * (S * (ga * A + gb * B - gi * P) - (ga * (S * A - LA) + gb * (S * B - LB))) = 0 := by
    have : S * (S * (ga * A + gb * B - gi * P) - (ga * (S * A - LA) + gb * (S * B - LB))) = (S * ga) * LA + (S * gb) * LB - gi * (S ^ 2 * P) := by grind
    rw [this, k1, k2, ← hF]; grind
  rcases Int.mul_eq_zero.mp e2 with z0 | z0
  · omega
  · omega
end Tt
