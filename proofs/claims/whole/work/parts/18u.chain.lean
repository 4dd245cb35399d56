/-! FROM ANY TREE TO ANY OTHER OVER ONE SIGNAL -/
section Ch
variable {n w : Nat} {sp : Nat → Bool} {A : Nat → Int64}
theorem bo_cut_up {i : Nat} (hs : sp (i + 1) = true) : q_st (q_cut sp i) (i + 1) true = q_cut sp (i + 1) := by
  funext j; unfold q_st q_cut
  by_cases h1 : j = i + 1
  · rw [if_pos h1, h1, if_pos (Nat.le_refl _), hs]
  · rw [if_neg h1]
    by_cases h3 : j ≤ i
    · rw [if_pos h3, if_pos (by omega)]
    · rw [if_neg h3, if_neg (by omega)]
theorem bo_cut_ex (hT : q_T n sp) {i : Nat} (hs : sp (i + 1) = true) : q_ex (q_cut sp i) (i + 1) = true ∧ q_cut sp i (i + 1) = false := by
  refine ⟨?_, if_neg (by omega)⟩
  have hex := hT.ex (show 1 ≤ i + 1 by omega) hs
  unfold q_ex at hex ⊢
  simp only [Bool.or_eq_true, Bool.and_eq_true, decide_eq_true_eq] at hex ⊢
  rcases hex with z | ⟨z1, z2⟩
  · exact Or.inl z
  · refine Or.inr ⟨z1, ?_⟩
    unfold q_cut; rw [if_pos (by omega)]; exact z2
theorem bo_mono {b b2 : Int} {N : Int} (hb : 0 ≤ b) (h : b ≤ b2) (hN : N ≤ (bo_sg w * b) * (bo_sg w * b)) : N ≤ (bo_sg w * b2) * (bo_sg w * b2) := by
  have hsg := bo_sg0 w
  have p := Int.mul_le_mul_of_nonneg_left h (Int.le_of_lt hsg)
  have p1 : 0 ≤ bo_sg w * b := Int.mul_nonneg (Int.le_of_lt hsg) hb
  exact Int.le_trans hN (bo_mul2 p p p1 p1)
theorem bo_dw7 (h : bo_gd n w) (hT : q_T n sp) (hC : q_DC n w A) {b : Int} (hb0 : 0 ≤ b) (hb : b + 392 ≤ bo_B) (hN : bo_nz n w sp (bo_zD A) ≤ (bo_sg w * b) * (bo_sg w * b)) : ∀ (d i : Nat), i + d = 7 → bo_nz n w (q_cut sp i) (bo_zD A) ≤ (bo_sg w * (b + 56 * (d : Int))) * (bo_sg w * (b + 56 * (d : Int)))
  | 0, i, e => by
    have : i = 7 := by omega
    subst this
    rw [q_cut_7 hT]
    simpa using hN
  | d + 1, i, e => by
    have ih := bo_dw7 h hT hC hb0 hb hN d (i + 1) (by omega)
    have e1 : b + 56 * ((d + 1 : Nat) : Int) = b + 56 * d + 56 := by omega
    rw [e1]
    cases hs : sp (i + 1)
    · rw [q_cut_N hs] at ih
      exact bo_mono (by omega) (by omega) ih
    · have hx := bo_cut_ex hT hs
      rw [← bo_cut_up hs] at ih
      exact bo_sB h (q_cut_T hT) hC (by omega) (by omega) hx.1 hx.2 (hT.2.2.2.2 (i + 1) (by omega) (by omega) hs) (by omega) (by omega) ih
theorem bo_up7 (h : bo_gd n w) (hT : q_T n sp) (hC : q_DC n w A) {b : Int} (hb0 : 0 ≤ b) (hb : b + 392 ≤ bo_B) (hN : bo_nz n w (fun _ => false) (bo_zD A) ≤ (bo_sg w * b) * (bo_sg w * b)) : ∀ (i : Nat), i ≤ 7 → bo_nz n w (q_cut sp i) (bo_zD A) ≤ (bo_sg w * (b + 56 * (i : Int))) * (bo_sg w * (b + 56 * (i : Int)))
  | 0, _ => by
    rw [q_cut_0 hT]
    simpa using hN
  | i + 1, e => by
    have ih := bo_up7 h hT hC hb0 hb hN i (by omega)
    have e1 : b + 56 * ((i + 1 : Nat) : Int) = b + 56 * i + 56 := by omega
    rw [e1]
    cases hs : sp (i + 1)
    · rw [q_cut_N hs]
      exact bo_mono (by omega) (by omega) ih
    · have hx := bo_cut_ex hT hs
      rw [← bo_cut_up hs]
      exact bo_sF h (q_cut_T hT) hC (by omega) (by omega) hx.1 hx.2 (hT.2.2.2.2 (i + 1) (by omega) (by omega) hs) (by omega) (by omega) ih
theorem bo_T2T (h : bo_gd n w) {sp' : Nat → Bool} (hT : q_T n sp) (hT' : q_T n sp') (hC : q_DC n w A) {b : Int} (hb0 : 0 ≤ b) (hb : b + 784 ≤ bo_B) (hN : bo_nz n w sp (bo_zD A) ≤ (bo_sg w * b) * (bo_sg w * b)) : bo_nz n w sp' (bo_zD A) ≤ (bo_sg w * (b + 784)) * (bo_sg w * (b + 784)) := by
  have d := bo_dw7 h hT hC hb0 (by omega) hN 7 0 rfl
  rw [q_cut_0 hT] at d
  have u := bo_up7 h hT' hC (b := b + 56 * (7 : Nat)) (by omega) (by omega) d 7 (Nat.le_refl _)
  rw [q_cut_7 hT'] at u
  have e : b + 56 * ((7 : Nat) : Int) + 56 * ((7 : Nat) : Int) = b + 784 := by omega
  rw [e] at u
  exact u
/-- the tree that has a node as a leaf, and no more than that asks -/
def bo_pa (j : Nat) : Nat → Bool := fun m => decide (1 ≤ m) && (decide (m = j / 2) || decide (m = j / 4) || decide (m = j / 8))
theorem bo_pa_T (hn : n = 4 ∨ n = 8 ∨ n = 16 ∨ n = 32) {j : Nat} (h1 : 1 ≤ j) (h16 : j < 16) (hw : 1 ≤ q_wd n j) : q_T n (bo_pa j) ∧ bo_lf (bo_pa j) j = true := by
  have key : ∀ k : Fin 4, ∀ j : Fin 16, j.val = 0 ∨ q_wd (4 * 2 ^ k.val) j.val = 0 ∨ ((∀ i : Fin 8, (i.val < 2 ∨ bo_pa j.val i.val = false ∨ bo_pa j.val (i.val / 2) = true) ∧ (i.val = 0 ∨ bo_pa j.val i.val = false ∨ 2 ≤ q_wd (4 * 2 ^ k.val) i.val)) ∧ bo_pa j.val 0 = false ∧ bo_lf (bo_pa j.val) j.val = true) := by decide +kernel
  obtain ⟨k, rfl⟩ := q_nfin hn
  rcases key k ⟨j, h16⟩ with z | z | ⟨z1, z2, z3⟩
  · exact absurd z (by dsimp only; omega)
  · exact absurd z (by dsimp only; omega)
  · dsimp only at z1 z2 z3
    refine ⟨⟨hn, z2, fun i hi => ?_, fun i i2 i8 hi => ?_, fun i i1 i8 hi => ?_⟩, z3⟩
    · unfold bo_pa
      rw [decide_eq_false (show ¬ i = j / 2 by omega), decide_eq_false (show ¬ i = j / 4 by omega), decide_eq_false (show ¬ i = j / 8 by omega)]
      simp
    · rcases (z1 ⟨i, i8⟩).1 with y | y | y
      · exact absurd y (by dsimp only; omega)
      · dsimp only at y; rw [hi] at y; exact absurd y.symm Bool.false_ne_true
      · exact y
    · rcases (z1 ⟨i, i8⟩).2 with y | y | y
      · exact absurd y (by dsimp only; omega)
      · dsimp only at y; rw [hi] at y; exact absurd y.symm Bool.false_ne_true
      · exact y
/-- all numbers of a decomposition are small -/
theorem bo_all_small (h : bo_gd n w) (hT : q_T n sp) (hC : q_DC n w A) {b : Int} (hb0 : 0 ≤ b) (hb : b + 784 ≤ bo_B) (hN : bo_nz n w sp (bo_zD A) ≤ (bo_sg w * b) * (bo_sg w * b)) {j k : Nat} (h1 : 1 ≤ j) (h16 : j < 16) (hk : k < q_wd n j) : q_sz (A (32 * j + k)) := by
  have hp := bo_pa_T hT.1 h1 h16 (by omega)
  have u := bo_T2T h hT hp.1 hC hb0 hb hN
  have hw := q_wdle n j
  have hn := hT.n32
  have hin : bo_in n (bo_pa j) (32 * j + k) := by
    unfold bo_in
    rw [show (32 * j + k) / 32 = j by omega, show (32 * j + k) % 32 = k by omega]
    exact ⟨h16, hp.2, hk⟩
  have s := bo_small h hp.1 (by omega) hb u hin
  have hLm : bo_Lm w ≤ 2 ^ 52 := by unfold bo_Lm; split <;> decide
  have e : bo_zD A (32 * j + k) = (A (32 * j + k)).toInt := rfl
  rw [e] at s
  exact ⟨by omega, by omega⟩
end Ch
/-! OVER ROWS -/
def bo_zx (n : Nat) (x : Nat → Int64) (a : Nat) : Int := (x (q_so n (a / 32) + a % 32)).toInt
theorem bo_zx_D {n w : Nat} {sp : Nat → Bool} {A x : Nat → Int64} (hn : n ≤ 32) (h : q_RR n sp A x) : bo_nz n w sp (bo_zx n x) = bo_nz n w sp (bo_zD A) := by
  refine bo_nz_cg hn fun a ha => ?_
  have hl := ha.2.1
  unfold bo_lf at hl
  rw [Bool.and_eq_true] at hl
  have hs : sp (a / 32) = false := by simpa using hl.2
  have e := h (a / 32) ha.1 hl.1 hs (a % 32) ha.2.2
  unfold bo_zx bo_zD
  rw [← e, show 32 * (a / 32) + a % 32 = a by omega]
/-- a call that changes the tree alone -/
theorem bo_tree {n w : Nat} {sp sp' : Nat → Bool} {x x' : Nat → Int64} (h : bo_gd n w) (hT : q_T n sp) (hT' : q_T n sp') (hR : q_RR n sp' (q_DA n w (q_un n w sp 1 7 x)) x') {b : Int} (hb0 : 0 ≤ b) (hb : b + 784 ≤ bo_B) (hN : bo_nz n w sp (bo_zx n x) ≤ (bo_sg w * b) * (bo_sg w * b)) : bo_nz n w sp' (bo_zx n x') ≤ (bo_sg w * (b + 784)) * (bo_sg w * (b + 784)) := by
  rw [bo_zx_D hT.n32 (q_RR_D (wv := w) hT)] at hN
  rw [bo_zx_D hT.n32 hR]
  exact bo_T2T h hT hT' (q_DA_C hT.n32) hb0 hb hN
theorem bo_safe {n w : Nat} {sp : Nat → Bool} {x : Nat → Int64} (h : bo_gd n w) (hT : q_T n sp) {b : Int} (hb0 : 0 ≤ b) (hb : b + 784 ≤ bo_B) (hN : bo_nz n w sp (bo_zx n x) ≤ (bo_sg w * b) * (bo_sg w * b)) : q_safe (n, w, sp, x) := by
  rw [bo_zx_D hT.n32 (q_RR_D (wv := w) hT)] at hN
  intro i i1 i16 k hk
  exact bo_all_small h hT (q_DA_C hT.n32) hb0 hb hN i1 i16 hk
