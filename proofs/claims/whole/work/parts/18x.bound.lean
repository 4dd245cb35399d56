/-! 512 CALLS -/
def bo_Pt (S : q_AS) (b : Int) : Prop := q_T S.1 S.2.2.1 ∧ S.2.1 < 3 ∧ (S.2.2.1 1 = true → bo_Gd S.1 S.2.1 S.2.2.1 b (bo_zx S.1 S.2.2.2)) ∧ (S.2.2.1 1 = false → bo_Rt S.1 S.2.1 b (bo_zx S.1 S.2.2.2))
def bo_nb (b : Int) : Int := if b + 970000 ≤ bo_py * b / bo_qy + 300001 then bo_py * b / bo_qy + 300001 else b + 970000
theorem bo_nb_of (b : Int) : b + 970000 ≤ bo_nb b ∧ bo_py * b ≤ bo_qy * (bo_nb b - 300000) := by
  have e1 : bo_py * b = 2117 * b := rfl
  have e2 : ∀ c, bo_qy * c = 2048 * c := fun c => rfl
  have e3 : ∀ c, c / bo_qy = c / 2048 := fun c => rfl
  unfold bo_nb
  rw [e1, e2, e3]
  split <;> exact ⟨by omega, by omega⟩
theorem bo_G_cg {n w : Nat} {sp : Nat → Bool} {z z' : Nat → Int} {b : Int} (hn : n ≤ 32) (h : bo_Gd n w sp b z) (e : ∀ a, bo_in n sp a → z' a = z a) : bo_Gd n w sp b z' := by
  intro S k hl
  have : bo_nz n w sp (bo_mk S z') = bo_nz n w sp (bo_mk S z) := bo_nz_cg hn fun a ha => by
    unfold bo_mk
    rw [e a ha]
  rw [this]
  exact h S k hl
theorem bo_R_cg {n w : Nat} {z z' : Nat → Int} {b : Int} (hn : n ≤ 32) (h : bo_Rt n w b z) (e : ∀ a, bo_in n (fun _ => false) a → z' a = z a) : bo_Rt n w b z' := by
  have : ∀ v, bo_nz n v (fun _ => false) z' = bo_nz n v (fun _ => false) z := fun v => bo_nz_cg hn e
  rcases h with h | h
  · left; rw [this]; exact h
  · right; intro v hv; rw [this]; exact h v hv
theorem bo_in_l {n a : Nat} {sp : Nat → Bool} (ha : bo_in n sp a) : q_ex sp (a / 32) = true ∧ sp (a / 32) = false := by
  have hl := ha.2.1
  unfold bo_lf at hl
  rw [Bool.and_eq_true] at hl
  exact ⟨hl.1, by simpa using hl.2⟩
/-- two numbers of a tree stand at different places of the row -/
theorem bo_pos {n a k j : Nat} {sp : Nat → Bool} (hT : q_T n sp) (ha : bo_in n sp a) (hx : q_ex sp k = true) (hs : sp k = false) : (a / 32 = k → q_so n (a / 32) + a % 32 = q_so n k + j → a % 32 = j) ∧ (a / 32 ≠ k → ¬ (q_so n k ≤ q_so n (a / 32) + a % 32 ∧ q_so n (a / 32) + a % 32 < q_so n k + q_wd n k)) := by
  have hb := q_ex_b hx
  have hl := bo_in_l ha
  have hb2 := q_ex_b hl.1
  refine ⟨fun e h => by rw [e] at h; omega, fun hne h => ?_⟩
  have hw := ha.2.2
  have d := q_disj hT hl.1 hx hl.2 hs hne hb2.1 hb2.2 hb.1 hb.2
  omega
theorem bo_in_of {n k j : Nat} {sp : Nat → Bool} (hT : q_T n sp) (hx : q_ex sp k = true) (hs : sp k = false) (hj : j < q_wd n k) : bo_in n sp (32 * k + j) := by
  have hb := q_ex_b hx
  have hw := q_wdle n k
  have hn := hT.n32
  unfold bo_in bo_lf
  rw [show (32 * k + j) / 32 = k by omega, show (32 * k + j) % 32 = j by omega, hx, hs]
  exact ⟨hb.2, rfl, hj⟩
theorem bo_qz {v : Int64} (hv : q_sz v) {t e : Nat} (ht : t ≤ 100000) (he : e = 0 ∨ e = t) : -100000 ≤ (q_z t e v).toInt - v.toInt ∧ (q_z t e v).toInt - v.toInt ≤ 100000 := by
  obtain ⟨h1, h2⟩ := hv
  have z0 : (lN 0).toInt = 0 := rfl
  have zt : (lN t).toInt = t := lN_toInt (by omega)
  have ze : (lN e).toInt = e := lN_toInt (by omega)
  unfold q_z
  by_cases c : p_abs v ≤ lN t
  · rw [if_pos c, z0]
    have c2 := Int64.le_iff_toInt_le.mp c
    rw [zt] at c2
    unfold p_abs at c2
    by_cases p : 0 < v
    · rw [if_pos p] at c2
      have p2 := Int64.lt_iff_toInt_lt.mp p
      rw [show (0 : Int64).toInt = 0 from rfl] at p2
      omega
    · rw [if_neg p, q_negI (by omega)] at c2
      have p2 := Int64.le_iff_toInt_le.mp (Int64.not_lt.mp p)
      rw [show (0 : Int64).toInt = 0 from rfl] at p2
      omega
  · rw [if_neg c]
    by_cases p : v < lN 0
    · rw [if_pos p, q_addI (by rw [ze]; omega) (by rw [ze]; omega), ze]; omega
    · rw [if_neg p, q_subI (by rw [ze]; omega) (by rw [ze]; omega), ze]; omega
section Stp
variable {n w : Nat} {sp : Nat → Bool} {x : Nat → Int64} {b : Int}
theorem bo_Pt_N (hg : ∀ v, v < 3 → bo_gd n v) (h : bo_Pt (n, w, sp, x) b) (hb : 0 ≤ b) : bo_nz n w sp (bo_zx n x) ≤ (bo_sg w * b) * (bo_sg w * b) := by
  obtain ⟨hT, hw, h1, h2⟩ := h
  dsimp only at hT hw h1 h2
  cases hs : sp 1
  · have h := h2 hs
    have e := bo_flat hT hs
    subst e
    exact bo_R0 hw (hg w hw) h hb
  · exact bo_G0 (h1 hs)
theorem bo_Pt_safe (hg : ∀ v, v < 3 → bo_gd n v) (h : bo_Pt (n, w, sp, x) b) (hb : 0 ≤ b) (hB : b + 784 ≤ bo_B) : q_safe (n, w, sp, x) := bo_safe (hg w h.2.1) h.1 hb hB (bo_Pt_N hg h hb)
theorem bo_Pt_tree (hg : ∀ v, v < 3 → bo_gd n v) (h : bo_Pt (n, w, sp, x) b) (hb : 0 ≤ b) (hB : b + 784 ≤ bo_B) {sp' : Nat → Bool} {x' : Nat → Int64} (hT' : q_T n sp') (hR : q_RR n sp' (q_DA n w (q_un n w sp 1 7 x)) x') : bo_Pt (n, w, sp', x') (bo_nb b) := by
  have N := bo_tree (hg w h.2.1) h.1 hT' hR hb hB (bo_Pt_N hg h hb)
  have c := bo_nb_of b
  have hbb : bo_py * (b + 784) ≤ bo_qy * bo_nb b := by
    have e1 : ∀ c, bo_py * c = 2117 * c := fun c => rfl
    have e2 : ∀ c, bo_qy * c = 2048 * c := fun c => rfl
    have := c.2
    rw [e1, e2] at this
    rw [e1, e2]; omega
  refine ⟨hT', h.2.1, fun hs => bo_GT (hg w h.2.1) hT' hs (by omega) N hbb, fun hs => ?_⟩
  have e := bo_flat hT' hs
  subst e
  exact bo_RT N (by omega) hbb
theorem bo_step (hall : ∀ m, (m = 4 ∨ m = 8 ∨ m = 16 ∨ m = 32) → bo_gn m) {S S' : q_AS} (h : bo_Pt S b) (hb : 0 ≤ b) (hB : b + 784 ≤ bo_B) (hst : q_step S S') : bo_Pt S' (bo_nb b) := by
  obtain ⟨n, w, sp, x⟩ := S
  have hT : q_T n sp := h.1
  have hw : w < 3 := h.2.1
  have hn := hT.n32
  have hgn := hall n hT.1
  have hg := hgn.2.1
  have hC := q_DA_C (n := n) (wv := w) (y := q_un n w sp 1 7 x) hn
  have hD := q_RR_D (wv := w) (x := x) hT
  have c := bo_nb_of b
  have hP := h.2.2
  dsimp only at hP
  rcases hst with z | ⟨m, hm, z⟩ | ⟨k, j, v, hx, hs, hj, hv, z⟩ | ⟨m, hm, hs, z⟩ | ⟨k, k1, hx, hs, k8, k2, z⟩ | ⟨k, k16, hs, z⟩ | ⟨k, t, e, hx, hs, ht, he, z⟩ | ⟨l, c0, l1, l3, z⟩ <;> subst z
  · -- the same
    exact ⟨hT, hw, fun hs => bo_G_mono (hP.1 hs) hb (by omega), fun hs => bo_R_mono (hP.2 hs) hb (by omega)⟩
  · -- begin
    have hgm := hall m hm
    refine ⟨q_T_flat hm, hw, fun y => absurd y Bool.false_ne_true, fun _ => Or.inr fun v hv => ?_⟩
    dsimp only
    have hsg := bo_sg0 v
    have s := bo_shT (z := bo_zx m fun j => if j < 32 then lN 0 else x j) (r := 0) (hgm.2.1 v hv) (q_T_flat hm) (by
      intro a ha
      have ha2 := ha
      rw [← bo_b0] at ha2
      have h1 := bo_rt_in ha2
      have h3 := ha.2.2
      have hwl := q_wdle m (a / 32)
      unfold bo_zx
      rw [h1, q_so1]
      dsimp only
      rw [if_pos (show 0 + a % 32 < 32 by omega)]
      decide)
    rw [Int.mul_zero] at s
    have p := Int.mul_nonneg (Int.le_of_lt hsg) (show 0 ≤ bo_nb b by omega)
    have := Int.mul_nonneg p p
    omega
  · -- a number is set
    dsimp only at hx hs hj
    have ha := bo_in_of hT hx hs hj
    have hd : -100000 ≤ v.toInt ∧ v.toInt ≤ 100000 := by
      have h1 := Int32.le_iff_toInt_le.mp hv.1
      have h2 := Int32.le_iff_toInt_le.mp hv.2
      rw [nI_toInt (by omega)] at h2
      rw [show (-100000 : Int32).toInt = -100000 by decide] at h1
      exact ⟨h1, by omega⟩
    have hwl := q_wdle n k
    have hcg : ∀ a, bo_in n sp a → bo_zx n (fun i => if i = q_so n k + j then v.toInt64 else x i) a = (fun c => if c = 32 * k + j then v.toInt else bo_zx n x c) a := by
      intro a ha
      have p := bo_pos (j := j) hT ha hx hs
      have hm := ha.2.2
      unfold bo_zx
      dsimp only
      by_cases e : a = 32 * k + j
      · rw [if_pos e, e, show (32 * k + j) / 32 = k by omega, show (32 * k + j) % 32 = j by omega, if_pos rfl]
        exact Int32.toInt_toInt64 v
      · rw [if_neg e, if_neg]
        intro y
        by_cases e2 : a / 32 = k
        · have := p.1 e2 y
          omega
        · exact p.2 e2 ⟨by omega, by omega⟩
    refine ⟨hT, hw, fun hs1 => ?_, fun hs1 => ?_⟩
    · refine bo_G_cg hn (bo_G_set (hg w hw) hT (hP.1 hs1) hb ?_ (by omega) ha hd (fun _ => rfl)) hcg
      have e1 : ∀ c, bo_py * c = 2117 * c := fun c => rfl
      have e2 : ∀ c, bo_qy * c = 2048 * c := fun c => rfl
      have := c.2
      rw [e1, e2] at this
      rw [e1, e2]; omega
    · have hP2 := hP.2 hs1
      have e := bo_flat hT hs1
      subst e
      exact bo_R_cg hn (bo_R_set hg hw hT hP2 hb c.2 ha hd (fun _ => rfl)) hcg
  · -- another wavelet
    dsimp only at hs
    refine ⟨hT, hm, fun y => ?_, fun _ => ?_⟩
    · dsimp only at y
      rw [hs] at y; exact absurd y Bool.false_ne_true
    refine bo_R_wv hgn hw (hP.2 hs) hb ?_ m
    have e1 : ∀ c, bo_py * c = 2117 * c := fun c => rfl
    have e2 : ∀ c, bo_qy * c = 2048 * c := fun c => rfl
    have := c.2
    rw [e1, e2] at this
    rw [e1, e2]; omega
  · exact bo_Pt_tree hg h hb hB (q_T_spl hT k1 k8 hx k2) (q_RR_S hC hT k1 k8 hx hs k2 hD)
  · exact bo_Pt_tree hg h hb hB (q_T_jn hT k16) (q_RR_jn hC hT k16 hD)
  · -- thresholds
    dsimp only at hx hs
    have hsf := (bo_Pt_safe hg h hb hB).bd hT
    have hDf : ∀ a, bo_in n sp a → -100000 ≤ bo_zx n (q_seg (q_so n k) (q_wd n k) (fun j => q_z t e (x j)) x) a - bo_zx n x a ∧ bo_zx n (q_seg (q_so n k) (q_wd n k) (fun j => q_z t e (x j)) x) a - bo_zx n x a ≤ 100000 := by
      intro a ha
      have p := bo_pos (j := 0) hT ha hx hs
      have hm := ha.2.2
      unfold bo_zx
      by_cases e2 : a / 32 = k
      · have hk : q_so n (a / 32) + a % 32 < n := by
          have hl := bo_in_l ha
          have hb2 := q_ex_b hl.1
          have key : ∀ m : Fin 4, ∀ i : Fin 16, i.val = 0 ∨ q_so (4 * 2 ^ m.val) i.val + q_wd (4 * 2 ^ m.val) i.val ≤ 4 * 2 ^ m.val := by decide +kernel
          obtain ⟨m, rfl⟩ := q_nfin hT.1
          rcases key m ⟨a / 32, hb2.2⟩ with y | y
          · exact absurd y (by dsimp only; omega)
          · dsimp only at y; omega
        rw [e2] at hm hk ⊢
        rw [q_seg_in (by omega)]
        exact bo_qz (hsf _ hk) ht he
      · rw [q_seg_out (p.2 e2)]
        omega
    refine ⟨hT, hw, fun hs1 => bo_G_add (hg w hw) hT (hP.1 hs1) hb (by omega) hDf, fun hs1 => ?_⟩
    have hP2 := hP.2 hs1
    have e := bo_flat hT hs1
    subst e
    exact bo_R_add hg hw hT hP2 hb c.1 hDf
  · have I := q_cb_I (wv := w) (x := x) hT l1 l3 c0
    exact bo_Pt_tree hg h hb hB I.1 I.2.1
end Stp
/-- the bound after c calls -/
def bo_bs : Nat → Int
  | 0 => 0
  | c + 1 => bo_nb (bo_bs c)
theorem bo_bs_m : ∀ c, 0 ≤ bo_bs c ∧ bo_bs c ≤ bo_bs (c + 1)
  | 0 => by
    have := bo_nb_of 0
    refine ⟨Int.le_refl _, ?_⟩
    show 0 ≤ bo_nb 0
    omega
  | c + 1 => by
    have h := bo_bs_m c
    have := bo_nb_of (bo_bs (c + 1))
    refine ⟨by omega, ?_⟩
    show bo_bs (c + 1) ≤ bo_nb (bo_bs (c + 1))
    omega
theorem bo_bs_l : ∀ d c, bo_bs c ≤ bo_bs (c + d)
  | 0, c => Int.le_refl _
  | d + 1, c => Int.le_trans (bo_bs_l d c) (bo_bs_m (c + d)).2
theorem bo_bs_B {c : Nat} (h : c ≤ 511) : bo_bs c + 784 ≤ bo_B := by
  have k : bo_bs 511 + 784 ≤ bo_B := by decide +kernel
  have := bo_bs_l (511 - c) c
  rw [show c + (511 - c) = 511 by omega] at this
  omega
/-- the state after c calls is some state -/
def bo_rc (S0 : q_AS) : Nat → q_AS → Prop
  | 0, S => S = S0
  | c + 1, S => ∃ S1, bo_rc S0 c S1 ∧ q_step S1 S
theorem bo_rc_Pt (hall : ∀ m, (m = 4 ∨ m = 8 ∨ m = 16 ∨ m = 32) → bo_gn m) {S0 : q_AS} (h0 : bo_Pt S0 0) : ∀ (c : Nat) (S : q_AS), c ≤ 511 → bo_rc S0 c S → bo_Pt S (bo_bs c)
  | 0, S, _, h => by
    have : S = S0 := h
    rw [this]; exact h0
  | c + 1, S, hc, h => by
    obtain ⟨S1, h1, h2⟩ := h
    exact bo_step hall (bo_rc_Pt hall h0 c S1 (by omega) h1) (bo_bs_m c).1 (bo_bs_B (by omega)) h2
/-- the bound -/
theorem bo_bound (hall : ∀ m, (m = 4 ∨ m = 8 ∨ m = 16 ∨ m = 32) → bo_gn m) {S0 : q_AS} (h0 : bo_Pt S0 0) {c : Nat} {S : q_AS} (hc : c ≤ 511) (h : bo_rc S0 c S) : q_safe S := by
  have p := bo_rc_Pt hall h0 c S hc h
  obtain ⟨n, w, sp, x⟩ := S
  exact bo_Pt_safe (hall n p.1.1).2.1 p (bo_bs_m c).1 (bo_bs_B hc)
theorem bo_start (hall : ∀ m, (m = 4 ∨ m = 8 ∨ m = 16 ∨ m = 32) → bo_gn m) {x : Nat → Int64} (hx : ∀ j, j < 32 → x j = lN 0) : bo_Pt (8, 0, (fun _ => false), x) 0 := by
  have hT := q_T_flat (m := 8) (Or.inr (Or.inl rfl))
  refine ⟨hT, (by decide : 0 < 3), fun y => absurd y Bool.false_ne_true, fun _ => Or.inr fun v hv => ?_⟩
  dsimp only
  have s := bo_shT (z := bo_zx 8 x) (r := 0) ((hall 8 (Or.inr (Or.inl rfl))).2.1 v hv) hT (by
    intro a ha
    have ha2 := ha
    rw [← bo_b0] at ha2
    have h1 := bo_rt_in ha2
    have h3 := ha.2.2
    have hwl := q_wdle 8 (a / 32)
    unfold bo_zx
    rw [h1, q_so1, hx _ (by omega)]
    decide)
  rw [Int.mul_zero] at s ⊢
  omega
