/-! P30: THE LEAVES OF A TREE STAND FROM LEFT TO RIGHT, AND HOW MANY THERE ARE -/
def ts_b7 (b1 b2 b3 b4 b5 b6 b7 : Bool) : Nat → Bool := fun j => match j with
  | 1 => b1
  | 2 => b2
  | 3 => b3
  | 4 => b4
  | 5 => b5
  | 6 => b6
  | 7 => b7
  | _ => false
theorem ts_b7_of {n : Nat} {sp : Nat → Bool} (hT : q_T n sp) : sp = ts_b7 (sp 1) (sp 2) (sp 3) (sp 4) (sp 5) (sp 6) (sp 7) := by
  funext j
  match j with
  | 0 => exact hT.2.1
  | 1 => rfl
  | 2 => rfl
  | 3 => rfl
  | 4 => rfl
  | 5 => rfl
  | 6 => rfl
  | 7 => rfl
  | j + 8 => exact hT.2.2.1 _ (by omega)
/-- a tree that there may be, as the kernel checks it -/
def ts_ok (n : Nat) (sp : Nat → Bool) : Bool := (List.range 8).all (fun i => !(sp i) || (decide (1 ≤ i) && decide (2 ≤ q_wd n i) && (decide (i < 2) || sp (i / 2))))
theorem ts_ok_of {n : Nat} {sp : Nat → Bool} (hT : q_T n sp) : ts_ok n sp = true := by
  unfold ts_ok
  rw [List.all_eq_true]
  intro i hi
  have h8 : i < 8 := List.mem_range.mp hi
  cases hs : sp i
  · rfl
  · have h1 : 1 ≤ i := by
      rcases Nat.eq_zero_or_pos i with z | z
      · rw [z, hT.2.1] at hs; exact absurd hs Bool.false_ne_true
      · exact z
    rw [decide_eq_true h1, decide_eq_true (hT.2.2.2.2 i h1 h8 hs)]
    rcases Nat.lt_or_ge i 2 with z | z
    · rw [decide_eq_true z]; rfl
    · rw [hT.2.2.2.1 i z h8 hs]; simp
/-- the leaves from left to right, as the kernel checks them -/
def ts_lf (n : Nat) (sp : Nat → Bool) : Bool := (List.range 8).all (fun k => !(decide (k < q_lc sp)) || (q_ex sp (q_lo n sp (q_lp n sp k) 3 1) && !(sp (q_lo n sp (q_lp n sp k) 3 1)) && decide (q_so n (q_lo n sp (q_lp n sp k) 3 1) = q_lp n sp k))) && decide (q_lp n sp (q_lc sp) = n)
theorem ts_lf_key : ∀ m : Fin 4, ∀ b1 b2 b3 b4 b5 b6 b7 : Bool, (!(ts_ok (4 * 2 ^ m.val) (ts_b7 b1 b2 b3 b4 b5 b6 b7)) || ts_lf (4 * 2 ^ m.val) (ts_b7 b1 b2 b3 b4 b5 b6 b7)) = true := by decide +kernel
theorem ts_lf_of {n : Nat} {sp : Nat → Bool} (hT : q_T n sp) : ts_lf n sp = true := by
  obtain ⟨m, rfl⟩ := q_nfin hT.1
  have h := ts_lf_key m (sp 1) (sp 2) (sp 3) (sp 4) (sp 5) (sp 6) (sp 7)
  rw [← ts_b7_of hT, ts_ok_of hT] at h
  exact h
theorem ts_leaf {n k : Nat} {sp : Nat → Bool} (hT : q_T n sp) (hk : k < q_lc sp) : q_ex sp (q_lo n sp (q_lp n sp k) 3 1) = true ∧ sp (q_lo n sp (q_lp n sp k) 3 1) = false ∧ q_so n (q_lo n sp (q_lp n sp k) 3 1) = q_lp n sp k := by
  have h := ts_lf_of hT
  have h8 := q_lc_le (sp := sp)
  unfold ts_lf at h
  rw [Bool.and_eq_true, List.all_eq_true] at h
  have h1 := h.1 k (List.mem_range.mpr (by omega))
  rw [decide_eq_true hk] at h1
  simp only [Bool.not_true, Bool.false_or, Bool.and_eq_true, decide_eq_true_eq, Bool.not_eq_true'] at h1
  exact ⟨h1.1.1, h1.1.2, h1.2⟩
theorem ts_all {n : Nat} {sp : Nat → Bool} (hT : q_T n sp) : q_lp n sp (q_lc sp) = n := by
  have h := ts_lf_of hT
  unfold ts_lf at h
  rw [Bool.and_eq_true, decide_eq_true_eq] at h
  exact h.2
theorem ts_cn_key : ∀ b1 b2 b3 b4 b5 b6 b7 : Bool, q_cn (ts_b7 b1 b2 b3 b4 b5 b6 b7) 1 7 + 1 = q_lc (ts_b7 b1 b2 b3 b4 b5 b6 b7) := by decide +kernel
theorem ts_cn {n : Nat} {sp : Nat → Bool} (hT : q_T n sp) : q_cn sp 1 7 + 1 = q_lc sp := by
  have h := ts_cn_key (sp 1) (sp 2) (sp 3) (sp 4) (sp 5) (sp 6) (sp 7)
  rw [← ts_b7_of hT] at h
  exact h
theorem ts_st_key : ∀ k : Fin 8, ∀ b1 b2 b3 b4 b5 b6 b7 : Bool, k.val = 0 ∨ ts_b7 b1 b2 b3 b4 b5 b6 b7 k.val = true ∨ q_lc (q_st (ts_b7 b1 b2 b3 b4 b5 b6 b7) k.val true) = q_lc (ts_b7 b1 b2 b3 b4 b5 b6 b7) + 1 := by decide +kernel
theorem ts_st {n k : Nat} {sp : Nat → Bool} (hT : q_T n sp) (h1 : 1 ≤ k) (h8 : k < 8) (hs : sp k = false) : q_lc (q_st sp k true) = q_lc sp + 1 := by
  have h := ts_st_key ⟨k, h8⟩ (sp 1) (sp 2) (sp 3) (sp 4) (sp 5) (sp 6) (sp 7)
  rw [← ts_b7_of hT] at h
  rcases h with z | z | z
  · exact absurd z (by dsimp only; omega)
  · rw [hs] at z; exact absurd z Bool.false_ne_true
  · exact z
theorem ts_rt_key : ∀ m : Fin 4, ∀ b1 b2 b3 b4 b5 b6 b7 : Bool, (!(ts_ok (4 * 2 ^ m.val) (ts_b7 b1 b2 b3 b4 b5 b6 b7)) || (b1 == decide (1 < q_lc (ts_b7 b1 b2 b3 b4 b5 b6 b7)))) = true := by decide +kernel
/-- the root has children just when there is more than one leaf -/
theorem ts_rt {n : Nat} {sp : Nat → Bool} (hT : q_T n sp) : sp 1 = decide (1 < q_lc sp) := by
  obtain ⟨m, rfl⟩ := q_nfin hT.1
  have h := ts_rt_key m (sp 1) (sp 2) (sp 3) (sp 4) (sp 5) (sp 6) (sp 7)
  rw [← ts_b7_of hT, ts_ok_of hT] at h
  exact eq_of_beq h
theorem ts_jn {n : Nat} {sp : Nat → Bool} (hT : q_T n sp) : q_jn sp 1 = fun _ => false := by
  funext j
  unfold q_jn
  by_cases h : 1 ≤ j ∧ j < 8
  · rw [if_pos ⟨h.1, h.2, q_inT j h.1 h.2⟩]
  · rw [if_neg (fun z => h ⟨z.1, z.2.1⟩)]
    rcases Nat.eq_zero_or_pos j with z | z
    · rw [z]; exact hT.2.1
    · exact hT.2.2.1 j (by omega)
theorem ts_lc0 : q_lc (fun _ => false) = 1 := by decide
theorem ts_so1 (n : Nat) : q_so n 1 = 0 := by unfold q_so; rw [show 1 - 2 ^ q_lv 1 = 0 from rfl, Nat.zero_mul]
theorem ts_wd1 (n : Nat) : q_wd n 1 = n := Nat.div_one n
