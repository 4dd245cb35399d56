/-! THE METHODS OF THE CLASS TREE -/
def q_lv (k : Nat) : Nat := if k < 2 then 0 else if k < 4 then 1 else if k < 8 then 2 else 3
def q_wd (n k : Nat) : Nat := n / 2 ^ q_lv k
def q_so (n k : Nat) : Nat := (k - 2 ^ q_lv k) * q_wd n k
def q_in (node top : Nat) : Bool := decide (q_lv top ≤ q_lv node) && decide (node / 2 ^ (q_lv node - q_lv top) = top)
def q_ex (sp : Nat → Bool) (k : Nat) : Bool := decide (k = 1) || (decide (1 < k) && decide (k < 16) && sp (k / 2))
/-- the tree of a world: its length, its wavelet, which nodes have children -/
def q_C (n wv : Nat) (sp : Nat → Bool) (w : pW) : Prop := w.1 1 1 = nI n ∧ w.1 2 1 = nI wv ∧ n < 2 ^ 20 ∧ wv < 2 ^ 20 ∧ (∀ i, i < 8 → w.2.2 18 i = nI (sp i).toNat) ∧ ∀ i, 8 ≤ i → sp i = false
theorem q_lv3 (k : Nat) : q_lv k ≤ 3 := by unfold q_lv; split; omega; split; omega; split <;> omega
theorem q_lvp {k : Nat} (h : 1 ≤ k) : 2 ^ q_lv k ≤ k := by
  unfold q_lv; split
  · omega
  · split
    · omega
    · split <;> omega
theorem q_wdle (n k : Nat) : q_wd n k ≤ n := Nat.div_le_self _ _
section T
variable {n wv k : Nat} {sp : Nat → Bool} {w : pW}
theorem q_width (h : q_C n wv sp w) : p_ev none 30 0 [.ref 1] [] w = some (.inl (some (.int (nI n))), w, 0) := by
  simp only [M30, h.1]
theorem q_levelOf (hk : k < 2 ^ 31) : p_ev none 38 0 [.ref 1, .int (nI k)] [] w = some (.inl (some (.int (nI (q_lv k)))), w, 0) := by
  by_cases h2 : k < 2
  · (conv => lhs; simp (disch := first | assumption | omega | (rw [nI_leI] <;> omega) | (rw [nI_ltI] <;> omega) | (rw [nI_eq] <;> omega) | (apply q_out <;> omega) | (apply q_nb; omega) | (apply q_n0 <;> omega)) only [M38, ↓if_pos, ↓if_neg, nI_add, q_sub, q_cl, p_bnd_s, p_bnd_v])
    simp only [q_lv, h2, if_true]
  · by_cases h4 : k < 4
    · (conv => lhs; simp (disch := first | assumption | omega | (rw [nI_leI] <;> omega) | (rw [nI_ltI] <;> omega) | (rw [nI_eq] <;> omega) | (apply q_out <;> omega) | (apply q_nb; omega) | (apply q_n0 <;> omega)) only [M38, ↓if_pos, ↓if_neg, nI_add, q_sub, q_cl, p_bnd_s, p_bnd_v])
      simp only [q_lv, h2, h4, if_true, if_false]
    · by_cases h8 : k < 8
      · (conv => lhs; simp (disch := first | assumption | omega | (rw [nI_leI] <;> omega) | (rw [nI_ltI] <;> omega) | (rw [nI_eq] <;> omega) | (apply q_out <;> omega) | (apply q_nb; omega) | (apply q_n0 <;> omega)) only [M38, ↓if_pos, ↓if_neg, nI_add, q_sub, q_cl, p_bnd_s, p_bnd_v])
        simp only [q_lv, h2, h4, h8, if_true, if_false]
      · (conv => lhs; simp (disch := first | assumption | omega | (rw [nI_leI] <;> omega) | (rw [nI_ltI] <;> omega) | (rw [nI_eq] <;> omega) | (apply q_out <;> omega) | (apply q_nb; omega) | (apply q_n0 <;> omega)) only [M38, ↓if_pos, ↓if_neg, nI_add, q_sub, q_cl, p_bnd_s, p_bnd_v])
        simp only [q_lv, h2, h4, h8, if_false]
theorem q_widthOf (h : q_C n wv sp w) (hk : k < 2 ^ 31) : p_ev none 39 0 [.ref 1, .int (nI k)] [] w = some (.inl (some (.int (nI (q_wd n k)))), w, 0) := by
  have h3 := q_lv3 k
  have hn := h.2.2.1
  (conv => lhs; simp (disch := first | assumption | omega | (rw [nI_leI] <;> omega) | (rw [nI_ltI] <;> omega) | (rw [nI_eq] <;> omega) | (apply q_out <;> omega) | (apply q_nb; omega) | (apply q_n0 <;> omega)) only [M39, q_levelOf, h.1, q_shr, ↓if_pos, ↓if_neg, nI_add, q_sub, q_cl, p_bnd_s, p_bnd_v])
  rfl
theorem q_startOf (h : q_C n wv sp w) (h1 : 1 ≤ k) (hk : k < 2 ^ 20) : p_ev none 40 0 [.ref 1, .int (nI k)] [] w = some (.inl (some (.int (nI (q_so n k)))), w, 0) := by
  have h3 := q_lv3 k
  have h4 := q_lvp h1
  have h5 : 1 * 2 ^ q_lv k < 2 ^ 32 := by omega
  have h6 : 1 * 2 ^ q_lv k ≤ k := by omega
  (conv => lhs; simp (disch := first | assumption | omega | (rw [nI_leI] <;> omega) | (rw [nI_ltI] <;> omega) | (rw [nI_eq] <;> omega) | (apply q_out <;> omega) | (apply q_nb; omega) | (apply q_n0 <;> omega)) only [M40, q_levelOf, q_widthOf h, q_shl, pk_mul, Nat.one_mul, ↓if_pos, ↓if_neg, nI_add, q_sub, q_cl, p_bnd_s, p_bnd_v])
  simp only [q_so]
theorem q_isWithin {node top : Nat} (hk : node < 2 ^ 31) (hk2 : top < 2 ^ 31) : p_ev none 37 0 [.ref 1, .int (nI node), .int (nI top), p_U] [] w = some (.inl (some (.int (nI (q_in node top).toNat))), w, 0) := by
  have h3 := q_lv3 node
  have h4 := q_lv3 top
  unfold q_in
  by_cases hle : q_lv top ≤ q_lv node
  · have hdv : node / 2 ^ (q_lv node - q_lv top) ≤ node := Nat.div_le_self _ _
    by_cases he : node / 2 ^ (q_lv node - q_lv top) = top
    · (conv => lhs; simp (disch := first | assumption | omega | (rw [nI_leI] <;> omega) | (rw [nI_ltI] <;> omega) | (rw [nI_eq] <;> omega) | (apply q_out <;> omega) | (apply q_nb; omega) | (apply q_n0 <;> omega)) only [M37, q_levelOf, q_shr, ↓if_pos, ↓if_neg, nI_add, q_sub, q_cl, p_bnd_s, p_bnd_v])
      simp [hle, he]
    · (conv => lhs; simp (disch := first | assumption | omega | (rw [nI_leI] <;> omega) | (rw [nI_ltI] <;> omega) | (rw [nI_eq] <;> omega) | (apply q_out <;> omega) | (apply q_nb; omega) | (apply q_n0 <;> omega)) only [M37, q_levelOf, q_shr, ↓if_pos, ↓if_neg, nI_add, q_sub, q_cl, p_bnd_s, p_bnd_v])
      simp [hle, he]
  · have hneg : nI (q_lv node) - nI (q_lv top) < nI 0 := pk_sneg (by omega) (by omega)
    (conv => lhs; simp (disch := first | assumption | omega | (rw [nI_leI] <;> omega) | (rw [nI_ltI] <;> omega) | (rw [nI_eq] <;> omega) | (apply q_out <;> omega) | (apply q_nb; omega) | (apply q_n0 <;> omega)) only [M37, q_levelOf, hneg, ↓if_pos, ↓if_neg, nI_add, q_sub, q_cl, p_bnd_s, p_bnd_v])
    simp [hle]
theorem q_hasChildren (h : q_C n wv sp w) (hk : k < 2 ^ 31) : p_ev none 33 0 [.ref 1, .int (nI k)] [] w = some (.inl (some (.int (nI (sp k).toNat))), w, 0) := by
  by_cases h8 : k < 8
  · cases hs : sp k
    · (conv => lhs; simp (disch := first | assumption | omega | (rw [nI_leI] <;> omega) | (rw [nI_ltI] <;> omega) | (rw [nI_eq] <;> omega) | (apply q_out <;> omega) | (apply q_nb; omega) | (apply q_n0 <;> omega)) only [M33, h.2.2.2.2.1, hs, Bool.toNat_false, ↓if_pos, ↓if_neg, nI_add, q_sub, q_cl, p_bnd_s, p_bnd_v])
      rfl
    · (conv => lhs; simp (disch := first | assumption | omega | (rw [nI_leI] <;> omega) | (rw [nI_ltI] <;> omega) | (rw [nI_eq] <;> omega) | (apply q_out <;> omega) | (apply q_nb; omega) | (apply q_n0 <;> omega)) only [M33, h.2.2.2.2.1, hs, Bool.toNat_true, ↓if_pos, ↓if_neg, nI_add, q_sub, q_cl, p_bnd_s, p_bnd_v])
      rfl
  · rw [h.2.2.2.2.2 k (by omega)]
    (conv => lhs; simp (disch := first | assumption | omega | (rw [nI_leI] <;> omega) | (rw [nI_ltI] <;> omega) | (rw [nI_eq] <;> omega) | (apply q_out <;> omega) | (apply q_nb; omega) | (apply q_n0 <;> omega)) only [M33, ↓if_pos, ↓if_neg, nI_add, q_sub, q_cl, p_bnd_s, p_bnd_v])
    rfl
theorem q_exists (h : q_C n wv sp w) (h1 : 1 ≤ k) (hk : k < 16) : p_ev none 32 0 [.ref 1, .int (nI k)] [] w = some (.inl (some (.int (nI (q_ex sp k).toNat))), w, 0) := by
  by_cases hk1 : k = 1
  · subst hk1
    (conv => lhs; simp (disch := first | assumption | omega | (rw [nI_leI] <;> omega) | (rw [nI_ltI] <;> omega) | (rw [nI_eq] <;> omega) | (apply q_out <;> omega) | (apply q_nb; omega) | (apply q_n0 <;> omega)) only [M32, ↓if_pos, ↓if_neg, nI_add, q_sub, q_cl, p_bnd_s, p_bnd_v])
    rfl
  · cases hs : sp (k / 2)
    · have e : q_ex sp k = false := by simp [q_ex, hk1, hs]
      (conv => lhs; simp (disch := first | assumption | omega | (rw [nI_leI] <;> omega) | (rw [nI_ltI] <;> omega) | (rw [nI_eq] <;> omega) | (apply q_out <;> omega) | (apply q_nb; omega) | (apply q_n0 <;> omega)) only [M32, q_div, q_hasChildren h, hs, Bool.toNat_false, ↓if_pos, ↓if_neg, nI_add, q_sub, q_cl, p_bnd_s, p_bnd_v])
      rw [e]
      rfl
    · have e : q_ex sp k = true := by simp [q_ex, hk1, hs, show 1 < k by omega, hk]
      (conv => lhs; simp (disch := first | assumption | omega | (rw [nI_leI] <;> omega) | (rw [nI_ltI] <;> omega) | (rw [nI_eq] <;> omega) | (apply q_out <;> omega) | (apply q_nb; omega) | (apply q_n0 <;> omega)) only [M32, q_div, q_hasChildren h, hs, Bool.toNat_true, ↓if_pos, ↓if_neg, nI_add, q_sub, q_cl, p_bnd_s, p_bnd_v])
      rw [e]
      rfl
theorem q_exists_x {x : Int32} (hx : x < nI 1 ∨ nI 16 ≤ x) : p_ev none 32 0 [.ref 1, .int x] [] w = some (.inl (some (.int (nI 0))), w, 0) := by
  rcases hx with hx | hx
  · have h1 : ¬ x = nI 1 := fun z => by rw [z] at hx; exact absurd hx (by decide)
    have h2 : x ≤ nI 1 := Int32.le_of_lt hx
    have h3 : ¬ nI 1 < x := Int32.not_lt.mpr h2
    (conv => lhs; simp (disch := first | assumption | omega | (rw [nI_leI] <;> omega) | (rw [nI_ltI] <;> omega) | (rw [nI_eq] <;> omega) | (apply q_out <;> omega) | (apply q_nb; omega) | (apply q_n0 <;> omega)) only [M32, ↓if_pos, ↓if_neg, nI_add, q_sub, q_cl, p_bnd_s, p_bnd_v])
  · have h1 : ¬ x = nI 1 := fun z => by rw [z] at hx; exact absurd hx (by decide)
    have h2 : nI 1 < x := Int32.lt_of_lt_of_le (by decide) hx
    have h3 : ¬ x ≤ nI 1 := Int32.not_le.mpr h2
    have h4 : ¬ x < nI 16 := Int32.not_lt.mpr hx
    (conv => lhs; simp (disch := first | assumption | omega | (rw [nI_leI] <;> omega) | (rw [nI_ltI] <;> omega) | (rw [nI_eq] <;> omega) | (apply q_out <;> omega) | (apply q_nb; omega) | (apply q_n0 <;> omega)) only [M32, ↓if_pos, ↓if_neg, nI_add, q_sub, q_cl, p_bnd_s, p_bnd_v])
theorem q_canBeSplit (h : q_C n wv sp w) (h1 : 1 ≤ k) (hk : k < 16) : p_ev none 34 0 [.ref 1, .int (nI k)] [] w = some (.inl (some (.int (nI (q_ex sp k && !(sp k) && decide (k < 8) && decide (2 ≤ q_wd n k)).toNat))), w, 0) := by
  have hw := q_wdle n k
  have hn := h.2.2.1
  cases he : q_ex sp k
  · (conv => lhs; simp (disch := first | assumption | omega | (rw [nI_leI] <;> omega) | (rw [nI_ltI] <;> omega) | (rw [nI_eq] <;> omega) | (apply q_out <;> omega) | (apply q_nb; omega) | (apply q_n0 <;> omega)) only [M34, q_exists h, he, Bool.toNat_false, ↓if_pos, ↓if_neg, nI_add, q_sub, q_cl, p_bnd_s, p_bnd_v])
    rfl
  · cases hs : sp k
    · by_cases h8 : k < 8
      · by_cases h2 : 2 ≤ q_wd n k
        · (conv => lhs; simp (disch := first | assumption | omega | (rw [nI_leI] <;> omega) | (rw [nI_ltI] <;> omega) | (rw [nI_eq] <;> omega) | (apply q_out <;> omega) | (apply q_nb; omega) | (apply q_n0 <;> omega)) only [M34, q_exists h, q_hasChildren h, q_widthOf h, he, hs, Bool.toNat_true, Bool.toNat_false, ↓if_pos, ↓if_neg, nI_add, q_sub, q_cl, p_bnd_s, p_bnd_v])
          simp [h8, h2]
        · (conv => lhs; simp (disch := first | assumption | omega | (rw [nI_leI] <;> omega) | (rw [nI_ltI] <;> omega) | (rw [nI_eq] <;> omega) | (apply q_out <;> omega) | (apply q_nb; omega) | (apply q_n0 <;> omega)) only [M34, q_exists h, q_hasChildren h, q_widthOf h, he, hs, Bool.toNat_true, Bool.toNat_false, ↓if_pos, ↓if_neg, nI_add, q_sub, q_cl, p_bnd_s, p_bnd_v])
          simp [h8, h2]
      · (conv => lhs; simp (disch := first | assumption | omega | (rw [nI_leI] <;> omega) | (rw [nI_ltI] <;> omega) | (rw [nI_eq] <;> omega) | (apply q_out <;> omega) | (apply q_nb; omega) | (apply q_n0 <;> omega)) only [M34, q_exists h, q_hasChildren h, q_widthOf h, he, hs, Bool.toNat_true, Bool.toNat_false, ↓if_pos, ↓if_neg, nI_add, q_sub, q_cl, p_bnd_s, p_bnd_v])
        simp [h8]
    · (conv => lhs; simp (disch := first | assumption | omega | (rw [nI_leI] <;> omega) | (rw [nI_ltI] <;> omega) | (rw [nI_eq] <;> omega) | (apply q_out <;> omega) | (apply q_nb; omega) | (apply q_n0 <;> omega)) only [M34, q_exists h, q_hasChildren h, he, hs, Bool.toNat_true, Bool.toNat_false, ↓if_pos, ↓if_neg, nI_add, q_sub, q_cl, p_bnd_s, p_bnd_v])
      rfl
theorem q_giveChildren (hk : k < 8) : p_ev none 35 0 [.ref 1, .int (nI k)] [] w = some (.inl none, (w.1, w.2.1, q_r w.2.2 18 (fun j => if j = k then nI 1 else w.2.2 18 j)), 0) := by
  (conv => lhs; simp (disch := first | assumption | omega | (rw [nI_leI] <;> omega) | (rw [nI_ltI] <;> omega) | (rw [nI_eq] <;> omega) | (apply q_out <;> omega) | (apply q_nb; omega) | (apply q_n0 <;> omega)) only [M35, q_pu, ↓if_pos, ↓if_neg, nI_add, q_sub, q_cl, p_bnd_s, p_bnd_v])
  rw [q_vb (by omega)]
theorem q_take_l {top : Nat} (ht : top < 2 ^ 31) : ∀ (d k : Nat) (w : pW), 1 ≤ k → k + d = 8 → p_ev none 36 2 [.ref 1, .int (nI top), .int (nI k)] [] w = some (.inl none, (w.1, w.2.1, q_r w.2.2 18 (fun j => if k ≤ j ∧ j < 8 ∧ q_in j top = true then nI 0 else w.2.2 18 j)), 0) := by
  intro d
  induction d with
  | zero =>
    intro k w h1 hk
    have e : (fun j => if k ≤ j ∧ j < 8 ∧ q_in j top = true then nI 0 else w.2.2 18 j) = w.2.2 18 := by
      funext j; rw [if_neg (by omega)]
    (conv => lhs; simp (disch := first | assumption | omega | (rw [nI_leI] <;> omega) | (rw [nI_ltI] <;> omega) | (rw [nI_eq] <;> omega) | (apply q_out <;> omega) | (apply q_nb; omega) | (apply q_n0 <;> omega)) only [H36_2, M36, ↓if_pos, ↓if_neg, nI_add, q_sub, q_cl, p_bnd_s, p_bnd_v])
    rw [e, q_r_id]
  | succ d ih =>
    intro k w h1 hk
    rw [H36_2]
    cases hq : q_in k top
    · (conv => lhs; simp (disch := first | assumption | omega | (rw [nI_leI] <;> omega) | (rw [nI_ltI] <;> omega) | (rw [nI_eq] <;> omega) | (apply q_out <;> omega) | (apply q_nb; omega) | (apply q_n0 <;> omega)) only [M36, q_isWithin, hq, Bool.toNat_false, ih, ↓if_pos, ↓if_neg, nI_add, q_sub, q_cl, p_bnd_s, p_bnd_v])
      refine congrArg some (congrArg (Prod.mk _) (congrArg (fun z => (z, 0)) (congrArg (fun z => (w.1, w.2.1, q_r w.2.2 18 z)) ?_)))
      funext j
      by_cases hj : j = k
      · subst hj; rw [if_neg (by omega), if_neg (by rw [hq]; simp)]
      · by_cases h2 : k + 1 ≤ j ∧ j < 8 ∧ q_in j top = true
        · rw [if_pos h2, if_pos ⟨by omega, h2.2⟩]
        · rw [if_neg h2, if_neg (fun z => h2 ⟨by omega, z.2⟩)]
    · (conv => lhs; simp (disch := first | assumption | omega | (rw [nI_leI] <;> omega) | (rw [nI_ltI] <;> omega) | (rw [nI_eq] <;> omega) | (apply q_out <;> omega) | (apply q_nb; omega) | (apply q_n0 <;> omega)) only [M36, q_isWithin, hq, Bool.toNat_true, q_vb, ih, q_pu, q_r_s, q_r_r, ↓if_pos, ↓if_neg, nI_add, q_sub, q_cl, p_bnd_s, p_bnd_v])
      refine congrArg some (congrArg (Prod.mk _) (congrArg (fun z => (z, 0)) (congrArg (fun z => (w.1, w.2.1, q_r w.2.2 18 z)) ?_)))
      funext j
      by_cases hj : j = k
      · subst hj; rw [if_neg (by omega), if_pos rfl, if_pos ⟨Nat.le_refl _, by omega, hq⟩]
      · by_cases h2 : k + 1 ≤ j ∧ j < 8 ∧ q_in j top = true
        · rw [if_pos h2, if_pos ⟨by omega, h2.2⟩]
        · rw [if_neg h2, if_neg hj, if_neg (fun z => h2 ⟨by omega, z.2⟩)]
theorem q_take {top : Nat} {w : pW} (ht : top < 2 ^ 31) : p_ev none 36 0 [.ref 1, .int (nI top), p_U] [] w = some (.inl none, (w.1, w.2.1, q_r w.2.2 18 (fun j => if 1 ≤ j ∧ j < 8 ∧ q_in j top = true then nI 0 else w.2.2 18 j)), 0) := by
  (conv => lhs; simp (disch := first | assumption | omega | (rw [nI_leI] <;> omega) | (rw [nI_ltI] <;> omega) | (rw [nI_eq] <;> omega) | (apply q_out <;> omega) | (apply q_nb; omega) | (apply q_n0 <;> omega)) only [M36, q_take_l ht 7 1, ↓if_pos, ↓if_neg, nI_add, q_sub, q_cl, p_bnd_s, p_bnd_v])
theorem q_leafCount_l : ∀ (d k c : Nat), q_C n wv sp w → 1 ≤ k → k + d = 8 → c + d < 100 → p_ev none 42 4 [.ref 1, .int (nI c), .int (nI k)] [] w = some (.inl (some (.int (nI (c + ((List.range d).map (fun i => (sp (k + i)).toNat)).sum)))), w, 0) := by
  intro d
  induction d with
  | zero =>
    intro k c h h1 hk hc
    (conv => lhs; simp (disch := first | assumption | omega | (rw [nI_leI] <;> omega) | (rw [nI_ltI] <;> omega) | (rw [nI_eq] <;> omega) | (apply q_out <;> omega) | (apply q_nb; omega) | (apply q_n0 <;> omega)) only [H42_4, M42, ↓if_pos, ↓if_neg, nI_add, q_sub, q_cl, p_bnd_s, p_bnd_v])
    rfl
  | succ d ih =>
    intro k c h h1 hk hc
    rw [H42_4]
    have e : ((List.range (d + 1)).map (fun i => (sp (k + i)).toNat)).sum = (sp k).toNat + ((List.range d).map (fun i => (sp (k + 1 + i)).toNat)).sum := by
      rw [List.range_succ_eq_map]
      simp only [List.map_cons, List.map_map, List.sum_cons, Nat.add_zero]
      refine congrArg (fun z => _ + z) (congrArg List.sum (List.map_congr_left (fun i _ => ?_)))
      simp only [Function.comp]
      rw [show k + Nat.succ i = k + 1 + i by omega]
    rw [e]
    cases hs : sp k
    · (conv => lhs; simp (disch := first | assumption | omega | (rw [nI_leI] <;> omega) | (rw [nI_ltI] <;> omega) | (rw [nI_eq] <;> omega) | (apply q_out <;> omega) | (apply q_nb; omega) | (apply q_n0 <;> omega)) only [M42, h.2.2.2.2.1, hs, Bool.toNat_false, ih, ↓if_pos, ↓if_neg, nI_add, q_sub, q_cl, p_bnd_s, p_bnd_v])
      simp
    · (conv => lhs; simp (disch := first | assumption | omega | (rw [nI_leI] <;> omega) | (rw [nI_ltI] <;> omega) | (rw [nI_eq] <;> omega) | (apply q_out <;> omega) | (apply q_nb; omega) | (apply q_n0 <;> omega)) only [M42, h.2.2.2.2.1, hs, Bool.toNat_true, ih, ↓if_pos, ↓if_neg, nI_add, q_sub, q_cl, p_bnd_s, p_bnd_v])
      rw [Nat.add_assoc]
      rfl
theorem q_leafCount (h : q_C n wv sp w) : p_ev none 42 0 [.ref 1, p_U, p_U] [] w = some (.inl (some (.int (nI (1 + ((List.range 7).map (fun i => (sp (1 + i)).toNat)).sum)))), w, 0) := by
  (conv => lhs; simp (disch := first | assumption | omega | (rw [nI_leI] <;> omega) | (rw [nI_ltI] <;> omega) | (rw [nI_eq] <;> omega) | (apply q_out <;> omega) | (apply q_nb; omega) | (apply q_n0 <;> omega)) only [M42, q_leafCount_l 7 1 1 h, ↓if_pos, ↓if_neg, nI_add, q_sub, q_cl, p_bnd_s, p_bnd_v])
end T
