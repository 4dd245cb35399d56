/-! SPLITS AND JOINS CHANGE A TREE'S VECTOR LITTLE; ALL NUMBERS OF A DECOMPOSITION ARE SMALL -/
theorem bo_up_cg {w h : Nat} {p q : bo_p} (h1 : 1 ≤ h) (e : bo_eqh h p q) : bo_eqh h (bo_up w h p) (bo_up w h q) := by
  have st : ∀ (s : Nat) {p q : bo_p}, bo_eqh h p q → bo_eqh h (bo_ps w s 1 h p) (bo_ps w s 1 h q) := by
    intro s p q e k hk
    unfold bo_ps
    by_cases hs : s % 2 = 0
    · rw [if_pos hs, if_pos hs]
      dsimp only
      rw [(e k hk).1, (e k hk).2, (e _ (q_nx_lt h1 hk)).1]
      exact ⟨rfl, rfl⟩
    · rw [if_neg hs, if_neg hs]
      dsimp only
      rw [(e k hk).1, (e k hk).2, (e (k - 1) (by omega)).2]
      exact ⟨rfl, rfl⟩
  unfold bo_up
  by_cases h2 : w = 2
  · rw [if_pos h2, if_pos h2]
    exact st 3 (st 2 (st 1 (st 0 e)))
  · rw [if_neg h2, if_neg h2]
    exact st 1 (st 0 e)
section Dif
variable {n w i : Nat} {sp : Nat → Bool} {z : Nat → Int}
theorem bo_in_st {a : Nat} (hx : q_ex sp i = true) (ha : bo_in n (q_st sp i true) a) : a / 32 ≠ i := by
  intro e
  have := ha.2.1
  unfold bo_lf at this
  rw [e, show q_st sp i true i = true from if_pos rfl] at this
  simp at this
theorem bo_in_ns {a : Nat} (hs : sp i = false) (h1 : 1 ≤ i) (ha : bo_in n sp a) : a / 32 / 2 ≠ i := by
  intro e
  have := ha.2.1
  unfold bo_lf at this
  rw [Bool.and_eq_true, q_ex_kid (by omega) ha.1 e, hs] at this
  exact Bool.false_ne_true this.1
theorem bo_in_me (h8 : i < 8) (hx : q_ex sp i = true) (hs : sp i = false) {t : Nat} (ht : t < q_wd n i) (hn : n ≤ 32) : bo_in n sp (32 * i + t) := by
  have hw := q_wdle n i
  unfold bo_in bo_lf
  rw [show (32 * i + t) / 32 = i by omega, show (32 * i + t) % 32 = t by omega, hx, hs]
  exact ⟨by omega, rfl, ht⟩
theorem bo_in_kid (hT : q_T n sp) (h1 : 1 ≤ i) (h8 : i < 8) (hs : sp i = false) (h2 : 2 ≤ q_wd n i) {q : Nat} (hq : q < q_wd n i / 2) : bo_in n (q_st sp i true) (64 * i + q) ∧ bo_in n (q_st sp i true) (64 * i + 32 + q) := by
  have g := q_geo1 n hT.1 i h8 h1 h2
  have hw := q_wdle n i
  have hn := hT.n32
  have hsti : q_st sp i true i = true := if_pos rfl
  have hk : ∀ j, j / 2 = i → j < 16 → sp j = false := by
    intro j hj j16
    cases z : sp j
    · rfl
    · by_cases j8 : j < 8
      · have := hT.2.2.2.1 j (by omega) j8 z
        rw [hj, hs] at this; exact absurd this Bool.false_ne_true
      · rw [hT.2.2.1 j (by omega)] at z; exact absurd z Bool.false_ne_true
  have hst : ∀ j, j ≠ i → q_st sp i true j = sp j := fun j hj => if_neg hj
  constructor
  · unfold bo_in bo_lf
    rw [show (64 * i + q) / 32 = 2 * i by omega, show (64 * i + q) % 32 = q by omega, q_ex_kid (k := i) (by omega) (by omega) (by omega), hsti, hst _ (by omega), hk _ (by omega) (by omega), g.2.2.1]
    exact ⟨by omega, rfl, hq⟩
  · unfold bo_in bo_lf
    rw [show (64 * i + 32 + q) / 32 = 2 * i + 1 by omega, show (64 * i + 32 + q) % 32 = q by omega, q_ex_kid (k := i) (by omega) (by omega) (by omega), hsti, hst _ (by omega), hk _ (by omega) (by omega), g.2.2.2.1]
    exact ⟨by omega, rfl, hq⟩
theorem bo_dif (h : bo_gd n w) (hT : q_T n sp) (h1 : 1 ≤ i) (h8 : i < 8) (hx : q_ex sp i = true) (hs : sp i = false) (h2 : 2 ≤ q_wd n i) (hr : bo_rel n w i z) : bo_nq n (bo_dw n w) (fun c => bo_Z n w (q_st sp i true) z c + -1 * bo_Z n w sp z c) ≤ (56 * bo_sg w) * (56 * bo_sg w) := by
  have hT' := q_T_spl hT h1 h8 hx h2
  have g := q_geo1 n hT.1 i h8 h1 h2
  have hS := bo_S0 w
  have e := bo_shT (z := bo_er n w i z) (r := 6 * bn_S w) h hT' (by
    intro a ha
    have hw := ha.2.2
    unfold bo_er
    by_cases c1 : a / 32 = 2 * i
    · rw [if_pos c1]
      have hq : a % 32 < q_wd n i / 2 := by rw [c1, g.2.2.1] at hw; exact hw
      have r1 := (hr _ hq).1
      rw [show 64 * i + a % 32 = a by omega] at r1
      rw [r1]
      exact (bo_rd h.1 _ _).1
    · rw [if_neg c1]
      by_cases c2 : a / 32 = 2 * i + 1
      · rw [if_pos c2]
        have hq : a % 32 < q_wd n i / 2 := by rw [c2, g.2.2.2.1] at hw; exact hw
        have r1 := (hr _ hq).2
        rw [show 64 * i + 32 + a % 32 = a by omega] at r1
        rw [r1]
        exact (bo_rd h.1 _ _).2
      · rw [if_neg c2]; omega)
  have e2 : bo_nz n w (q_st sp i true) (bo_er n w i z) = (bn_S w : Int) * bn_S w * bo_nq n (bo_dw n w) (fun c => bo_Z n w (q_st sp i true) z c + -1 * bo_Z n w sp z c) := by
    rw [← bo_nq_mul]
    exact bo_nq_cg fun c _ => (bo_dc h hT h1 h8 hx hs h2 c).symm
  rw [e2] at e
  generalize bo_nq n (bo_dw n w) (fun c => bo_Z n w (q_st sp i true) z c + -1 * bo_Z n w sp z c) = N at *
  have hg := bo_sq0 (bo_sg w * bn_S w)
  generalize bo_sg w = sg at *
  generalize (bn_S w : Int) = S at *
  refine bo_div (Int.mul_pos hS hS) ?_
  have f1 : 87 * (sg * (6 * S) * (sg * (6 * S))) = 3132 * (sg * S * (sg * S)) := by grind
  have f2 : S * S * (56 * sg * (56 * sg)) = 3136 * (sg * S * (sg * S)) := by grind
  omega
theorem bo_dif2 (h : bo_gd n w) (hT : q_T n sp) (h1 : 1 ≤ i) (h8 : i < 8) (hx : q_ex sp i = true) (hs : sp i = false) (h2 : 2 ≤ q_wd n i) (hr : bo_rel n w i z) {b : Int} (hb : 0 ≤ b) : (bo_nz n w sp z ≤ (bo_sg w * b) * (bo_sg w * b) → bo_nz n w (q_st sp i true) z ≤ (bo_sg w * (b + 56)) * (bo_sg w * (b + 56))) ∧ (bo_nz n w (q_st sp i true) z ≤ (bo_sg w * b) * (bo_sg w * b) → bo_nz n w sp z ≤ (bo_sg w * (b + 56)) * (bo_sg w * (b + 56))) := by
  have d := bo_dif h hT h1 h8 hx hs h2 hr
  have hsg := bo_sg0 w
  have hd := bo_ok_dw h.2.1
  have p1 : 0 ≤ bo_sg w * b := Int.mul_nonneg (Int.le_of_lt hsg) hb
  have p2 : 0 ≤ 56 * bo_sg w := by omega
  have e : bo_sg w * (b + 56) = bo_sg w * b + 56 * bo_sg w := by grind
  rw [e]
  constructor
  · intro hN
    have t := bo_tr hd p1 p2 hN d
    have e2 : bo_nz n w (q_st sp i true) z = bo_nq n (bo_dw n w) (fun c => bo_Z n w sp z c + (bo_Z n w (q_st sp i true) z c + -1 * bo_Z n w sp z c)) := bo_nq_cg fun c _ => by omega
    rw [e2]; exact t
  · intro hN
    have d2 : bo_nq n (bo_dw n w) (fun c => -1 * (bo_Z n w (q_st sp i true) z c + -1 * bo_Z n w sp z c)) ≤ 56 * bo_sg w * (56 * bo_sg w) := by
      rw [bo_nq_mul]; omega
    have t := bo_tr hd p1 p2 hN d2
    have e2 : bo_nz n w sp z = bo_nq n (bo_dw n w) (fun c => bo_Z n w (q_st sp i true) z c + -1 * (bo_Z n w (q_st sp i true) z c + -1 * bo_Z n w sp z c)) := bo_nq_cg fun c _ => by omega
    rw [e2]; exact t
/-- the numbers of a decomposition as whole numbers -/
def bo_zD (A : Nat → Int64) (a : Nat) : Int := (A a).toInt
theorem bo_small (h : bo_gd n w) (hT : q_T n sp) {b : Int} (hb0 : 0 ≤ b) (hb : b ≤ bo_B) (hN : bo_nz n w sp z ≤ (bo_sg w * b) * (bo_sg w * b)) {a : Nat} (ha : bo_in n sp a) : -bo_Lm w ≤ z a ∧ z a ≤ bo_Lm w := by
  refine bo_num h.2.1 hT ha (Int.le_trans hN ?_)
  have hsg := bo_sg0 w
  have p := Int.mul_le_mul_of_nonneg_left hb (Int.le_of_lt hsg)
  have p1 : 0 ≤ bo_sg w * b := Int.mul_nonneg (Int.le_of_lt hsg) hb0
  exact bo_mul2 p p p1 p1
variable {A : Nat → Int64}
/-- a node is split -/
theorem bo_sF (h : bo_gd n w) (hT : q_T n sp) (hC : q_DC n w A) (h1 : 1 ≤ i) (h8 : i < 8) (hx : q_ex sp i = true) (hs : sp i = false) (h2 : 2 ≤ q_wd n i) {b : Int} (hb0 : 0 ≤ b) (hb : b + 56 ≤ bo_B) (hN : bo_nz n w sp (bo_zD A) ≤ (bo_sg w * b) * (bo_sg w * b)) : bo_nz n w (q_st sp i true) (bo_zD A) ≤ (bo_sg w * (b + 56)) * (bo_sg w * (b + 56)) := by
  have hT' := q_T_spl hT h1 h8 hx h2
  have g := q_geo1 n hT.1 i h8 h1 h2
  have hn := hT.n32
  have hwle := q_wdle n i
  have hh : 1 ≤ q_wd n i / 2 := by omega
  -- the numbers with the split's own at the children
  have key : ∃ z1 : Nat → Int, z1 = (fun a => if a / 32 = 2 * i then (bo_up w (q_wd n i / 2) (bo_pi i (bo_zD A))).1 (a % 32) else if a / 32 = 2 * i + 1 then (bo_up w (q_wd n i / 2) (bo_pi i (bo_zD A))).2 (a % 32) else bo_zD A a) := ⟨_, rfl⟩
  obtain ⟨z1, hz1⟩ := key
  have za : ∀ q, q < q_wd n i / 2 → z1 (64 * i + q) = (bo_up w (q_wd n i / 2) (bo_pi i (bo_zD A))).1 q := by
    intro q hq
    rw [hz1]; dsimp only
    rw [if_pos (by omega), show (64 * i + q) % 32 = q by omega]
  have zb : ∀ q, q < q_wd n i / 2 → z1 (64 * i + 32 + q) = (bo_up w (q_wd n i / 2) (bo_pi i (bo_zD A))).2 q := by
    intro q hq
    rw [hz1]; dsimp only
    rw [if_neg (by omega), if_pos (by omega), show (64 * i + 32 + q) % 32 = q by omega]
  have zn : ∀ a, a / 32 / 2 ≠ i → z1 a = bo_zD A a := by
    intro a ha
    rw [hz1]; dsimp only
    rw [if_neg (by omega), if_neg (by omega)]
  have hrel : bo_rel n w i z1 := by
    have eq : bo_eqh (q_wd n i / 2) (bo_pi i z1) (bo_pi i (bo_zD A)) := by
      intro k hk
      unfold bo_pi bo_pz
      exact ⟨zn _ (by omega), zn _ (by omega)⟩
    have u := bo_up_cg (w := w) hh eq
    intro q hq
    rw [(u q hq).1, (u q hq).2]
    exact ⟨za q hq, zb q hq⟩
  have e1 : bo_nz n w sp z1 = bo_nz n w sp (bo_zD A) := bo_nz_cg hn fun a ha => zn a (bo_in_ns hs h1 ha)
  have d := (bo_dif2 h hT h1 h8 hx hs h2 hrel hb0).1 (by rw [e1]; exact hN)
  have sm := fun a (ha : bo_in n (q_st sp i true) a) => bo_small h hT' (show 0 ≤ b + 56 by omega) hb d ha
  have ki := fun q hq => bo_in_kid (q := q) hT h1 h8 hs h2 hq
  have f := bo_fwd (P := q_un2 A i) (p := bo_pi i (bo_zD A)) h.1 hh (fun k _ => ⟨rfl, rfl⟩) (fun k hk => bo_small h hT hb0 (by omega) hN (bo_in_me h8 hx hs (by omega) hn)) (fun k hk => bo_small h hT hb0 (by omega) hN (bo_in_me h8 hx hs (by omega) hn)) (fun k hk => by rw [← za k hk]; exact sm _ (ki k hk).1) (fun k hk => by rw [← zb k hk]; exact sm _ (ki k hk).2)
  have e2 : bo_nz n w (q_st sp i true) (bo_zD A) = bo_nz n w (q_st sp i true) z1 := by
    refine bo_nz_cg hn fun a ha => ?_
    by_cases c : a / 32 / 2 = i
    · have hw := ha.2.2
      have h3 : a / 32 = 2 * i ∨ a / 32 = 2 * i + 1 := by omega
      rcases h3 with c1 | c1
      · have hq : a % 32 < q_wd n i / 2 := by rw [c1, g.2.2.1] at hw; exact hw
        have := (f _ hq).1
        rw [← (hC i h1 h8 h2 _ hq).1, show 64 * i + a % 32 = a by omega] at this
        have y := za _ hq
        rw [show 64 * i + a % 32 = a by omega] at y
        rw [y]; exact this
      · have hq : a % 32 < q_wd n i / 2 := by rw [c1, g.2.2.2.1] at hw; exact hw
        have := (f _ hq).2
        rw [← (hC i h1 h8 h2 _ hq).2, show 64 * i + 32 + a % 32 = a by omega] at this
        have y := zb _ hq
        rw [show 64 * i + 32 + a % 32 = a by omega] at y
        rw [y]; exact this
    · exact (zn a c).symm
  rw [e2]; exact d
/-- a node's children are joined -/
theorem bo_sB (h : bo_gd n w) (hT : q_T n sp) (hC : q_DC n w A) (h1 : 1 ≤ i) (h8 : i < 8) (hx : q_ex sp i = true) (hs : sp i = false) (h2 : 2 ≤ q_wd n i) {b : Int} (hb0 : 0 ≤ b) (hb : b + 56 ≤ bo_B) (hN : bo_nz n w (q_st sp i true) (bo_zD A) ≤ (bo_sg w * b) * (bo_sg w * b)) : bo_nz n w sp (bo_zD A) ≤ (bo_sg w * (b + 56)) * (bo_sg w * (b + 56)) := by
  have hT' := q_T_spl hT h1 h8 hx h2
  have g := q_geo1 n hT.1 i h8 h1 h2
  have hn := hT.n32
  have hwle := q_wdle n i
  have hh : 1 ≤ q_wd n i / 2 := by omega
  have keyJ : ∃ J : bo_p, J = bo_dn w (q_wd n i / 2) (fun q => bo_zD A (64 * i + q), fun q => bo_zD A (64 * i + 32 + q)) := ⟨_, rfl⟩
  obtain ⟨J, hJ⟩ := keyJ
  have hup : bo_up w (q_wd n i / 2) J = (fun q => bo_zD A (64 * i + q), fun q => bo_zD A (64 * i + 32 + q)) := by rw [hJ, bo_up_dn]
  have key : ∃ z1 : Nat → Int, z1 = (fun a => if a / 32 = i then (if a % 2 = 0 then J.1 (a % 32 / 2) else J.2 (a % 32 / 2)) else bo_zD A a) := ⟨_, rfl⟩
  obtain ⟨z1, hz1⟩ := key
  have zn : ∀ a, a / 32 ≠ i → z1 a = bo_zD A a := by
    intro a ha
    rw [hz1]; dsimp only
    rw [if_neg ha]
  have zj : bo_eqh (q_wd n i / 2) (bo_pi i z1) J := by
    intro k hk
    unfold bo_pi bo_pz
    rw [hz1]; dsimp only
    rw [if_pos (by omega), if_pos (by omega), if_pos (by omega), if_neg (by omega), show (32 * i + 2 * k) % 32 / 2 = k by omega, show (32 * i + (2 * k + 1)) % 32 / 2 = k by omega]
    exact ⟨rfl, rfl⟩
  have hrel : bo_rel n w i z1 := by
    have u := bo_up_cg (w := w) hh zj
    intro q hq
    rw [(u q hq).1, (u q hq).2, hup]
    exact ⟨zn _ (by omega), zn _ (by omega)⟩
  have e1 : bo_nz n w (q_st sp i true) z1 = bo_nz n w (q_st sp i true) (bo_zD A) := bo_nz_cg hn fun a ha => zn a (bo_in_st hx ha)
  have d := (bo_dif2 h hT h1 h8 hx hs h2 hrel hb0).2 (by rw [e1]; exact hN)
  have sm := fun a (ha : bo_in n (q_st sp i true) a) => bo_small h hT' hb0 (show b ≤ bo_B by omega) hN ha
  have sm1 := fun a (ha : bo_in n sp a) => bo_small h hT (show 0 ≤ b + 56 by omega) hb d ha
  have ki := fun q hq => bo_in_kid (q := q) hT h1 h8 hs h2 hq
  have hLm : bo_Lm w ≤ 2 ^ 52 := by unfold bo_Lm; split <;> decide
  have j1 : ∀ k, k < q_wd n i / 2 → -bo_Lm w ≤ J.1 k ∧ J.1 k ≤ bo_Lm w := by
    intro k hk
    rw [← (zj k hk).1]
    exact sm1 _ (bo_in_me h8 hx hs (show 2 * k < q_wd n i by omega) hn)
  have j2 : ∀ k, k < q_wd n i / 2 → -bo_Lm w ≤ J.2 k ∧ J.2 k ≤ bo_Lm w := by
    intro k hk
    rw [← (zj k hk).2]
    exact sm1 _ (bo_in_me h8 hx hs (show 2 * k + 1 < q_wd n i by omega) hn)
  have f := bo_fwd (P := (fun k => Int64.ofInt (J.1 k), fun k => Int64.ofInt (J.2 k))) (p := J) h.1 hh (fun k hk => by
    have a1 := j1 k hk
    have a2 := j2 k hk
    exact ⟨by rw [Int64.toInt_ofInt, q_bm (by omega) (by omega)], by rw [Int64.toInt_ofInt, q_bm (by omega) (by omega)]⟩) j1 j2 (fun k hk => by rw [hup]; exact sm _ (ki k hk).1) (fun k hk => by rw [hup]; exact sm _ (ki k hk).2)
  rw [hup] at f
  have eq : q_eq2 (q_wd n i / 2) (q_pu2 w (q_wd n i / 2) (q_nst w) 0 (fun k => Int64.ofInt (J.1 k), fun k => Int64.ofInt (J.2 k))) (q_pu2 w (q_wd n i / 2) (q_nst w) 0 (q_un2 A i)) := by
    intro k hk
    have c := hC i h1 h8 h2 k hk
    rw [← c.1, ← c.2]
    exact ⟨Int64.toInt_inj.mp (f k hk).1, Int64.toInt_inj.mp (f k hk).2⟩
  have eq2 := q_pd2_cg (wv := w) hh (q_nst w) eq
  rw [q_pd2_pu2, q_pd2_pu2] at eq2
  have e2 : bo_nz n w sp (bo_zD A) = bo_nz n w sp z1 := by
    refine bo_nz_cg hn fun a ha => ?_
    by_cases c : a / 32 = i
    · have hw := ha.2.2
      rw [c] at hw
      rw [hz1]; dsimp only
      rw [if_pos c]
      by_cases p : a % 2 = 0
      · rw [if_pos p]
        have hk : a % 32 / 2 < q_wd n i / 2 := by omega
        have y := (eq2 _ hk).1
        unfold q_un2 at y
        dsimp only at y
        rw [show 32 * i + 2 * (a % 32 / 2) = a by omega] at y
        have a1 := j1 _ hk
        unfold bo_zD
        rw [← y, Int64.toInt_ofInt, q_bm (by omega) (by omega)]
      · rw [if_neg p]
        have hk : a % 32 / 2 < q_wd n i / 2 := by omega
        have y := (eq2 _ hk).2
        unfold q_un2 at y
        dsimp only at y
        rw [show 32 * i + 2 * (a % 32 / 2) + 1 = a by omega] at y
        have a1 := j2 _ hk
        unfold bo_zD
        rw [← y, Int64.toInt_ofInt, q_bm (by omega) (by omega)]
    · exact (zn a c).symm
  rw [e2]; exact d
end Dif
