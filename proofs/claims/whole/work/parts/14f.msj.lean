/-! THE REFERENCE: SPLIT AND JOIN OF THE TREE -/
/-- the tree when the nodes above i that are below k are joined -/
def q_jk (sp : Nat → Bool) (k i : Nat) : Nat → Bool := fun j => if i < j ∧ j < 8 ∧ q_in j k = true then false else sp j
theorem q_jk_7 {sp : Nat → Bool} {k : Nat} : q_jk sp k 7 = sp := by
  funext j; unfold q_jk; rw [if_neg (by omega)]
theorem q_jk_0 {sp : Nat → Bool} {k : Nat} : q_jk sp k 0 = q_jn sp k := by
  funext j; unfold q_jk q_jn
  by_cases h : 0 < j ∧ j < 8 ∧ q_in j k = true
  · rw [if_pos h, if_pos (by exact h)]
  · rw [if_neg h, if_neg (by exact h)]
theorem q_jk_S {sp : Nat → Bool} {k i : Nat} (h : q_in (i + 1) k = true) (h7 : i < 7) : q_st (q_jk sp k (i + 1)) (i + 1) false = q_jk sp k i := by
  funext j; unfold q_st q_jk
  by_cases h1 : j = i + 1
  · rw [if_pos h1, h1, if_pos ⟨by omega, by omega, h⟩]
  · rw [if_neg h1]
    by_cases h2 : i < j ∧ j < 8 ∧ q_in j k = true
    · rw [if_pos h2, if_pos ⟨by omega, h2.2.1, h2.2.2⟩]
    · rw [if_neg h2, if_neg (fun z => h2 ⟨by omega, z.2.1, z.2.2⟩)]
theorem q_jk_N {sp : Nat → Bool} {k i : Nat} (h : q_in (i + 1) k = false ∨ sp (i + 1) = false) : q_jk sp k (i + 1) = q_jk sp k i := by
  funext j; unfold q_jk
  by_cases h1 : j = i + 1
  · subst h1
    rw [if_neg (by omega)]
    by_cases h2 : i < i + 1 ∧ i + 1 < 8 ∧ q_in (i + 1) k = true
    · rw [if_pos h2]
      rcases h with z | z
      · rw [z] at h2; exact absurd h2.2.2 Bool.false_ne_true
      · exact z
    · rw [if_neg h2]
  · by_cases h2 : i < j ∧ j < 8 ∧ q_in j k = true
    · rw [if_pos h2, if_pos ⟨by omega, h2.2.1, h2.2.2⟩]
    · rw [if_neg h2, if_neg (fun z => h2 ⟨by omega, z.2.1, z.2.2⟩)]
theorem q_jk_T {n : Nat} {sp : Nat → Bool} (hT : q_T n sp) {k i : Nat} (hk : k < 16) : q_T n (q_jk sp k i) := by
  have key : ∀ j, q_jk sp k i j = true → sp j = true ∧ ¬ (i < j ∧ j < 8 ∧ q_in j k = true) := by
    intro j hj; unfold q_jk at hj
    by_cases h : i < j ∧ j < 8 ∧ q_in j k = true
    · rw [if_pos h] at hj; exact absurd hj Bool.false_ne_true
    · rw [if_neg h] at hj; exact ⟨hj, h⟩
  refine ⟨hT.1, ?_, fun j hj => ?_, fun j j2 j8 hj => ?_, fun j j1 j8 hj => hT.2.2.2.2 j j1 j8 (key j hj).1⟩
  · unfold q_jk; rw [if_neg (by omega)]; exact hT.2.1
  · unfold q_jk; rw [if_neg (by omega)]; exact hT.2.2.1 j hj
  · have h := key j hj
    unfold q_jk
    rw [if_neg (fun z => h.2 ⟨by omega, j8, q_in_half j2 j8 hk z.2.2⟩)]
    exact hT.2.2.2.1 j j2 j8 h.1
theorem q_jk_kids {sp : Nat → Bool} {n k i : Nat} (hT : q_T n sp) (hk : k < 16) (h1 : 1 ≤ i) (h8 : i < 8) (h : q_in i k = true) : q_jk sp k i (2 * i) = false ∧ q_jk sp k i (2 * i + 1) = false := by
  refine ⟨?_, ?_⟩
  · unfold q_jk
    by_cases hh : 2 * i < 8
    · rw [if_pos ⟨by omega, hh, q_in_half (by omega) hh hk (by rw [show 2 * i / 2 = i by omega]; exact h)⟩]
    · rw [if_neg (by omega)]; exact hT.2.2.1 _ (by omega)
  · unfold q_jk
    by_cases hh : 2 * i + 1 < 8
    · rw [if_pos ⟨by omega, hh, q_in_half (by omega) hh hk (by rw [show (2 * i + 1) / 2 = i by omega]; exact h)⟩]
    · rw [if_neg (by omega)]; exact hT.2.2.1 _ (by omega)
/-- kinds when a node is joined -/
theorem q_kd_joi {sp : Nat → Bool} {n k : Nat} (hT : q_T n sp) (hs : sp k = true) (hc : sp (2 * k) = false ∧ sp (2 * k + 1) = false) {i : Nat} (hi : i < 16) : nI (q_kd (q_st sp k false) i) = if i = 2 * k + 1 then nI 0 else if i = 2 * k then nI 0 else if i = k then nI 1 else nI (q_kd sp i) := by
  have hk := hT.sp1 hs
  have hT' := q_T_joi hT hc
  by_cases h1 : i = 2 * k + 1
  · rw [if_pos h1, (q_kd_0 hT').mpr]
    rw [q_ex_kid (k := k) (by omega) hi (by omega), q_st_s]; exact Bool.false_ne_true
  · by_cases h2 : i = 2 * k
    · rw [if_neg h1, if_pos h2, (q_kd_0 hT').mpr]
      rw [q_ex_kid (k := k) (by omega) hi (by omega), q_st_s]; exact Bool.false_ne_true
    · rw [if_neg h1, if_neg h2]
      by_cases h3 : i = k
      · rw [if_pos h3, h3]
        exact (q_kd_1 hT').mpr ⟨by rw [q_ex_st (by omega)]; exact hT.ex hk.1 hs, q_st_s⟩
      · rw [if_neg h3]
        unfold q_kd
        rw [q_st_n h3, q_ex_st (by omega)]
theorem q_kd_spl {sp : Nat → Bool} {n k : Nat} (hT : q_T n sp) (h1 : 1 ≤ k) (h8 : k < 8) (hs : sp k = false) {i : Nat} (hi : i < 16) : nI (q_kd (q_st sp k true) i) = if i = 2 * k + 1 then nI 1 else if i = 2 * k then nI 1 else if i = k then nI 2 else nI (q_kd sp i) := by
  have hc : ∀ j, 2 ≤ j → j / 2 = k → sp j = false := by
    intro j j2 hj
    cases hsj : sp j
    · rfl
    · have := hT.2.2.2.1 j j2 (hT.sp1 hsj).2 hsj
      rw [hj, hs] at this; exact absurd this Bool.false_ne_true
  by_cases e1 : i = 2 * k + 1
  · rw [if_pos e1]
    unfold q_kd
    rw [q_st_n (by omega), hc i (by omega) (by omega), if_neg Bool.false_ne_true, q_ex_kid (k := k) (by omega) hi (by omega), q_st_s, if_pos rfl]
  · by_cases e2 : i = 2 * k
    · rw [if_neg e1, if_pos e2]
      unfold q_kd
      rw [q_st_n (by omega), hc i (by omega) (by omega), if_neg Bool.false_ne_true, q_ex_kid (k := k) (by omega) hi (by omega), q_st_s, if_pos rfl]
    · rw [if_neg e1, if_neg e2]
      by_cases e3 : i = k
      · rw [if_pos e3, e3]
        exact q_kd_2.mpr q_st_s
      · rw [if_neg e3]
        unfold q_kd
        rw [q_st_n e3, q_ex_st (by omega)]
section Ms
variable {n wv : Nat} {sp : Nat → Bool} {x : Nat → Int64} {w : pW}
/-- what joins and splits of the reference leave alone -/
def q_kK (w w' : pW) : Prop := w'.1 = w.1 ∧ (∀ b, b ≠ 26 → b ≠ 27 → b ≠ 28 → w'.2.1 b = w.2.1 b) ∧ ∀ b, b ≠ 25 → w'.2.2 b = w.2.2 b
theorem q_kK.rf : q_kK w w := ⟨rfl, fun _ _ _ _ => rfl, fun _ _ => rfl⟩
theorem q_kK.tr {a b c : pW} (h : q_kK a b) (g : q_kK b c) : q_kK a c := ⟨g.1.trans h.1, fun o h1 h2 h3 => (g.2.1 o h1 h2 h3).trans (h.2.1 o h1 h2 h3), fun o ho => (g.2.2 o ho).trans (h.2.2 o ho)⟩
theorem q_kK.fm {a b : pW} (h : q_kK a b) : q_FM a b := ⟨fun o _ => congrFun h.1 o, fun o ho => h.2.1 o (by omega) (by omega) (by omega), fun o ho => h.2.2 o (by omega)⟩
theorem q_kK.M {a b : pW} (h : q_kK a b) (g : q_Mw n wv a) : q_Mw n wv b := ⟨by rw [h.1]; exact g.1, by rw [h.1]; exact g.2.1, g.2.2.1, g.2.2.2⟩
theorem q_mJoinNode_l {k : Nat} (hk1 : 1 ≤ k) (hk : k < 16) (hT : q_T n sp) : ∀ (i c : Nat) (w : pW) (y : Nat → Int64), i ≤ 7 → q_Mw n wv w → q_Mk (q_jk sp k i) w → q_RR n (q_jk sp k i) (w.2.1 26) y → ∃ w', p_ev none 119 5 [.ref 24, .int (nI k), .int (nI c), .int (nI i)] [] w = some (.inl (some (.int (nI (c + q_cn sp k i)))), w', 0) ∧ q_kK w w' ∧ q_Mk (q_jn sp k) w' ∧ q_RR n (q_jn sp k) (w'.2.1 26) (q_un n wv sp k i y) := by
  have done : ∀ (i c : Nat) (w : pW) (y : Nat → Int64), i < k → i ≤ 7 → q_Mk (q_jk sp k i) w → q_RR n (q_jk sp k i) (w.2.1 26) y → ∃ w', p_ev none 119 5 [.ref 24, .int (nI k), .int (nI c), .int (nI i)] [] w = some (.inl (some (.int (nI (c + q_cn sp k i)))), w', 0) ∧ q_kK w w' ∧ q_Mk (q_jn sp k) w' ∧ q_RR n (q_jn sp k) (w'.2.1 26) (q_un n wv sp k i y) := by
    intro i c w y hik hi hMk hRR
    have hz : ∀ j, j ≤ i → q_cn sp k j = 0 ∧ (∀ z, q_un n wv sp k j z = z) ∧ q_jk sp k j = q_jk sp k 0 := by
      intro j
      induction j with
      | zero => intro _; exact ⟨rfl, fun _ => rfl, rfl⟩
      | succ j ihj =>
        intro hj
        have hin : q_in (j + 1) k = false := by
          cases hh : q_in (j + 1) k
          · rfl
          · have := q_in_le (j + 1) (by omega) k hk hh; omega
        have i1 := ihj (by omega)
        refine ⟨?_, fun z => ?_, ?_⟩
        · rw [q_cn, i1.1, hin, Bool.and_false]; rfl
        · rw [q_un_S, hin, Bool.and_false, if_neg Bool.false_ne_true, i1.2.1]
        · rw [q_jk_N (Or.inl hin), i1.2.2]
    have hzi := hz i (Nat.le_refl _)
    rw [hzi.2.2, q_jk_0] at hMk hRR
    refine ⟨w, ?_, q_kK.rf, hMk, by rw [hzi.2.1]; exact hRR⟩
    rw [H119_5, hzi.1]
    (conv => lhs; simp (disch := first | assumption | omega | (rw [nI_leI] <;> omega) | (rw [nI_ltI] <;> omega) | (rw [nI_eq] <;> omega) | (apply q_out <;> omega) | (apply q_nb; omega) | (apply q_n0 <;> omega)) only [M119, ↓if_pos, ↓if_neg, nI_add, q_sub, q_cl, p_bnd_s, p_bnd_v])
    rfl
  intro i
  induction i with
  | zero =>
    intro c w y hi hM hMk hRR
    exact done 0 c w y (by omega) (by omega) hMk hRR
  | succ i ih =>
    intro c w y hi hM hMk hRR
    rcases Nat.lt_or_ge (i + 1) k with hlt | hge
    · exact done (i + 1) c w y hlt hi hMk hRR
    · have hki := hMk (i + 1) (by omega)
      have hsame : q_jk sp k (i + 1) (i + 1) = sp (i + 1) := by unfold q_jk; rw [if_neg (by omega)]
      rw [q_un_S, q_cn]
      have e1 : ¬ nI 1 = nI 0 := by decide
      cases hs : sp (i + 1)
      · have hz : ¬ nI (q_kd (q_jk sp k (i + 1)) (i + 1)) = nI 2 := fun z => by have := q_kd_2.mp z; rw [hsame, hs] at this; exact Bool.false_ne_true this
        rw [q_jk_N (Or.inr hs)] at hMk hRR
        obtain ⟨w', h1, h2, h3, h4⟩ := ih c w y (by omega) hM hMk hRR
        refine ⟨w', ?_, h2, h3, ?_⟩
        · rw [H119_5]
          (conv => lhs; simp (disch := first | assumption | omega | (rw [nI_leI] <;> omega) | (rw [nI_ltI] <;> omega) | (rw [nI_eq] <;> omega) | (apply q_out <;> omega) | (apply q_nb; omega) | (apply q_n0 <;> omega)) only [M119, hki, q_m1, Nat.add_sub_cancel, ↓if_pos, ↓if_neg, nI_add, q_sub, q_cl, p_bnd_s, p_bnd_v])
          exact h1
        · rw [Bool.false_and, if_neg Bool.false_ne_true]; exact h4
      · have hz : nI (q_kd (q_jk sp k (i + 1)) (i + 1)) = nI 2 := q_kd_2.mpr (by rw [hsame]; exact hs)
        have hz2 : ¬ ¬ nI (q_kd (q_jk sp k (i + 1)) (i + 1)) = nI 2 := fun z => z hz
        have hB := q_mIsBelow (w := w) (show i + 1 < 16 by omega) hk hk1
        cases hin : q_in (i + 1) k
        · rw [hin, Bool.toNat_false] at hB
          rw [q_jk_N (Or.inl hin)] at hMk hRR
          obtain ⟨w', h1, h2, h3, h4⟩ := ih c w y (by omega) hM hMk hRR
          refine ⟨w', ?_, h2, h3, ?_⟩
          · rw [H119_5]
            (conv => lhs; simp (disch := first | assumption | omega | (rw [nI_leI] <;> omega) | (rw [nI_ltI] <;> omega) | (rw [nI_eq] <;> omega) | (apply q_out <;> omega) | (apply q_nb; omega) | (apply q_n0 <;> omega)) only [M119, hki, hB, q_m1, Nat.add_sub_cancel, ↓if_pos, ↓if_neg, nI_add, q_sub, q_cl, p_bnd_s, p_bnd_v])
            exact h1
          · rw [Bool.and_false, if_neg Bool.false_ne_true]; exact h4
        · rw [hin, Bool.toNat_true] at hB
          have hT1 := q_jk_T (i := i + 1) hT hk
          have hs1 : q_jk sp k (i + 1) (i + 1) = true := by rw [hsame]; exact hs
          have hkids := q_jk_kids hT hk (show 1 ≤ i + 1 by omega) (by omega) hin
          have h2 := hT.2.2.2.2 (i + 1) (by omega) (by omega) hs
          have h26 : p_lg 26 := rfl
          obtain ⟨w1, b1, b2, b3, b4⟩ := q_joinRow (w0 := w) (a := 26) (node := i + 1) h26 (by decide) (by decide) (by omega) hM hT.n32 h2
          have hR1 := q_RR_joi (wv := wv) hT1 hs1 hkids hRR b3 b4
          rw [q_jk_S hin (by omega)] at hR1
          have hkd := fun j (hj : j < 16) => q_kd_joi hT1 hs1 hkids hj
          rw [q_jk_S hin (by omega)] at hkd
          obtain ⟨w', h1, h3, h4, h5⟩ := ih (c + 1) (w1.1, w1.2.1, q_r w1.2.2 25 (fun j => if j = 2 * (i + 1) + 1 then nI 0 else if j = 2 * (i + 1) then nI 0 else if j = i + 1 then nI 1 else w1.2.2 25 j)) _ (by omega) (b2.M hM) (fun j hj => by
            dsimp only
            rw [q_r_s, hkd j hj, b2.2.1, hMk j hj]) hR1
          refine ⟨w', ?_, ?_, h4, ?_⟩
          · rw [H119_5]
            (conv => lhs; simp (disch := first | assumption | omega | (rw [nI_leI] <;> omega) | (rw [nI_ltI] <;> omega) | (rw [nI_eq] <;> omega) | (apply q_out <;> omega) | (apply q_nb; omega) | (apply q_n0 <;> omega)) only [M119, hki, hB, b1, pk_mul, q_pu, q_r_s, q_r_r, q_m1, Nat.add_sub_cancel, ↓if_pos, ↓if_neg, nI_add, q_sub, q_cl, p_bnd_s, p_bnd_v])
            rw [h1, Bool.true_and, Bool.toNat_true, show c + 1 + q_cn sp k i = c + (q_cn sp k i + 1) by omega]
          · refine q_kK.tr ?_ h3
            refine ⟨b2.1, fun b g1 g2 g3 => b2.2.2 b (by simp; omega), fun b hb => ?_⟩
            exact (q_r_n hb).trans (by rw [b2.2.1])
          · rw [Bool.true_and, if_pos rfl]; exact h5
theorem q_mJoinNode (h : q_R n wv sp x w) {k : Nat} (hk1 : 1 ≤ k) (hk : k < 16) : ∃ w', p_ev none 119 0 [.ref 24, .int (nI k), p_U, p_U] [] w = some (.inl (some (.int (nI (q_cn sp k 7)))), w', 0) ∧ q_kK w w' ∧ q_R n wv (q_jn sp k) (q_un n wv sp k 7 x) w' := by
  obtain ⟨w', h1, h2, h3, h4⟩ := q_mJoinNode_l hk1 hk h.2.1 7 0 w x (by omega) h.1 (by rw [q_jk_7]; exact h.2.2.1) (by rw [q_jk_7]; exact h.2.2.2)
  refine ⟨w', ?_, h2, h2.M h.1, by rw [← q_jk_0]; exact q_jk_T h.2.1 hk, h3, h4⟩
  (conv => lhs; simp (disch := first | assumption | omega | (rw [nI_leI] <;> omega) | (rw [nI_ltI] <;> omega) | (rw [nI_eq] <;> omega) | (apply q_out <;> omega) | (apply q_nb; omega) | (apply q_n0 <;> omega)) only [M119, ↓if_pos, ↓if_neg, nI_add, q_sub, q_cl, p_bnd_s, p_bnd_v])
  rw [Nat.zero_add] at h1
  exact h1
theorem q_mJoin_x (h : q_R n wv sp x w) {a : Int32} (hx : ¬ q_ex sp (q_nt a) = true) : q_ZTi w n wv sp x (p_ev none 120 0 [.ref 24, .int a] [] w) 1 := by
  have hh := q_mHas (w := q_th (nI 0) w) h.th.2.2.1 h.2.1 a
  rw [Bool.eq_false_iff.mpr hx, Bool.toNat_false] at hh
  refine q_ZTi0 h ?_
  (conv => lhs; simp (disch := first | assumption | omega | (rw [nI_leI] <;> omega) | (rw [nI_ltI] <;> omega) | (rw [nI_eq] <;> omega) | (apply q_out <;> omega) | (apply q_nb; omega) | (apply q_n0 <;> omega)) only [M120, ↓q_th_r, hh, q_mFails, q_th_th, ↓if_pos, ↓if_neg, nI_add, q_sub, q_cl, p_bnd_s, p_bnd_v])
theorem q_mJoin_s (h : q_R n wv sp x w) {k : Nat} (h2 : k < 16) (hx : q_ex sp k = true) (hs : sp k = false) : q_ZTi w n wv sp x (p_ev none 120 0 [.ref 24, .int (nI k)] [] w) 2 := by
  have hh := q_mHas (w := q_th (nI 0) w) h.th.2.2.1 h.2.1 (nI k)
  rw [q_nt_n h2, hx, Bool.toNat_true] at hh
  have e1 : ¬ nI 1 = nI 0 := by decide
  have hk := h.2.2.1 k h2
  have hz : ¬ nI (q_kd sp k) = nI 2 := fun z => by have := q_kd_2.mp z; rw [hs] at this; exact Bool.false_ne_true this
  refine q_ZTi0 h ?_
  (conv => lhs; simp (disch := first | assumption | omega | (rw [nI_leI] <;> omega) | (rw [nI_ltI] <;> omega) | (rw [nI_eq] <;> omega) | (apply q_out <;> omega) | (apply q_nb; omega) | (apply q_n0 <;> omega)) only [M120, ↓q_th_r, q_th_2, hh, hk, q_mFails, q_th_th, ↓if_pos, ↓if_neg, nI_add, q_sub, q_cl, p_bnd_s, p_bnd_v])
theorem q_mJoin (h : q_R n wv sp x w) {k : Nat} (h2 : k < 16) (hx : q_ex sp k = true) (hs : sp k = true) : q_ZM w n wv (q_jn sp k) (q_un n wv sp k 7 x) (p_ev none 120 0 [.ref 24, .int (nI k)] [] w) (.int (nI (q_cn sp k 7))) 0 := by
  have hh := q_mHas (w := q_th (nI 0) w) h.th.2.2.1 h.2.1 (nI k)
  rw [q_nt_n h2, hx, Bool.toNat_true] at hh
  have e1 : ¬ nI 1 = nI 0 := by decide
  have hk := h.2.2.1 k h2
  have hz : nI (q_kd sp k) = nI 2 := q_kd_2.mpr hs
  obtain ⟨w', a1, a2, a3⟩ := q_mJoinNode (w := q_th (nI 0) w) h.th (h.2.1.sp1 hs).1 h2
  refine ⟨w', ?_, a3, by rw [a2.1]; rfl, q_th_FM.tr a2.fm⟩
  (conv => lhs; simp (disch := first | assumption | omega | (rw [nI_leI] <;> omega) | (rw [nI_ltI] <;> omega) | (rw [nI_eq] <;> omega) | (apply q_out <;> omega) | (apply q_nb; omega) | (apply q_n0 <;> omega)) only [M120, ↓q_th_r, q_th_2, hh, hk, a1, ↓if_pos, ↓if_neg, nI_add, q_sub, q_cl, p_bnd_s, p_bnd_v])
theorem q_mSplit_x (h : q_R n wv sp x w) {a : Int32} (hx : ¬ q_ex sp (q_nt a) = true) : q_ZTi w n wv sp x (p_ev none 117 0 [.ref 24, .int a] [] w) 1 := by
  have hh := q_mHas (w := q_th (nI 0) w) h.th.2.2.1 h.2.1 a
  rw [Bool.eq_false_iff.mpr hx, Bool.toNat_false] at hh
  refine q_ZTi0 h ?_
  (conv => lhs; simp (disch := first | assumption | omega | (rw [nI_leI] <;> omega) | (rw [nI_ltI] <;> omega) | (rw [nI_eq] <;> omega) | (apply q_out <;> omega) | (apply q_nb; omega) | (apply q_n0 <;> omega)) only [M117, ↓q_th_r, hh, q_mFails, q_th_th, ↓if_pos, ↓if_neg, nI_add, q_sub, q_cl, p_bnd_s, p_bnd_v])
theorem q_mSplit_s (h : q_R n wv sp x w) {k : Nat} (h2 : k < 16) (hx : q_ex sp k = true) (hs : (q_ex sp k && !(sp k) && decide (k < 8) && decide (2 ≤ q_wd n k)) = false) : q_ZTi w n wv sp x (p_ev none 117 0 [.ref 24, .int (nI k)] [] w) 2 := by
  have hh := q_mHas (w := q_th (nI 0) w) h.th.2.2.1 h.2.1 (nI k)
  rw [q_nt_n h2, hx, Bool.toNat_true] at hh
  have e1 : ¬ nI 1 = nI 0 := by decide
  have hn := h.2.1.n32
  have hw := q_wdle n k
  have hk := h.2.2.1 k h2
  refine q_ZTi0 h ?_
  by_cases hsk : sp k = true
  · have hz : ¬ nI (q_kd sp k) = nI 1 := fun z => by have := ((q_kd_1 h.2.1).mp z).2; rw [hsk] at this; exact Bool.false_ne_true this.symm
    (conv => lhs; simp (disch := first | assumption | omega | (rw [nI_leI] <;> omega) | (rw [nI_ltI] <;> omega) | (rw [nI_eq] <;> omega) | (apply q_out <;> omega) | (apply q_nb; omega) | (apply q_n0 <;> omega)) only [M117, ↓q_th_r, q_th_2, hh, hk, q_mFails, q_th_th, ↓if_pos, ↓if_neg, nI_add, q_sub, q_cl, p_bnd_s, p_bnd_v])
  · have hsk' := Bool.eq_false_iff.mpr hsk
    have hz : nI (q_kd sp k) = nI 1 := (q_kd_1 h.2.1).mpr ⟨hx, hsk'⟩
    have hz2 : ¬ ¬ nI (q_kd sp k) = nI 1 := fun z => z hz
    by_cases h8 : k < 8
    · have h3 : ¬ 2 ≤ q_wd n k := by
        intro z
        rw [hx, hsk', decide_eq_true h8, decide_eq_true z] at hs
        exact absurd hs (by decide)
      (conv => lhs; simp (disch := first | assumption | omega | (rw [nI_leI] <;> omega) | (rw [nI_ltI] <;> omega) | (rw [nI_eq] <;> omega) | (apply q_out <;> omega) | (apply q_nb; omega) | (apply q_n0 <;> omega)) only [M117, ↓q_th_r, q_th_2, hh, hk, q_sizeAt h.th.1, q_mFails, q_th_th, ↓if_pos, ↓if_neg, nI_add, q_sub, q_cl, p_bnd_s, p_bnd_v])
    · (conv => lhs; simp (disch := first | assumption | omega | (rw [nI_leI] <;> omega) | (rw [nI_ltI] <;> omega) | (rw [nI_eq] <;> omega) | (apply q_out <;> omega) | (apply q_nb; omega) | (apply q_n0 <;> omega)) only [M117, ↓q_th_r, q_th_2, hh, hk, q_mFails, q_th_th, ↓if_pos, ↓if_neg, nI_add, q_sub, q_cl, p_bnd_s, p_bnd_v])
theorem q_mSplit (h : q_R n wv sp x w) {k : Nat} (h1 : 1 ≤ k) (hx : q_ex sp k = true) (hs : sp k = false) (h8 : k < 8) (h2 : 2 ≤ q_wd n k) : q_ZM w n wv (q_st sp k true) (q_spl n wv k x) (p_ev none 117 0 [.ref 24, .int (nI k)] [] w) (.int (nI (q_wd n k / 2))) 0 := by
  have hh := q_mHas (w := q_th (nI 0) w) h.th.2.2.1 h.2.1 (nI k)
  rw [q_nt_n (by omega), hx, Bool.toNat_true] at hh
  have e1 : ¬ nI 1 = nI 0 := by decide
  have hn := h.2.1.n32
  have hw := q_wdle n k
  have hk := h.2.2.1 k (by omega)
  have hz : nI (q_kd sp k) = nI 1 := (q_kd_1 h.2.1).mpr ⟨hx, hs⟩
  have hz2 : ¬ ¬ nI (q_kd sp k) = nI 1 := fun z => z hz
  have h26 : p_lg 26 := rfl
  obtain ⟨w1, b1, b2, b3, b4⟩ := q_splitRow (w0 := q_th (nI 0) w) (a := 26) (node := k) h26 (by decide) (by decide) h8 (h.th (k := nI 0)).1 hn h2
  have hR1 := q_RR_spl (wv := wv) h.2.1 h1 h8 hx hs h2 h.2.2.2 b3 b4
  have hM1 := b2.M (h.th (k := nI 0)).1
  have hS : q_Mw n wv (w1.1, w1.2.1, q_r w1.2.2 25 (fun j => if j = 2 * k + 1 then nI 1 else if j = 2 * k then nI 1 else if j = k then nI 2 else w1.2.2 25 j)) := hM1
  refine ⟨(w1.1, w1.2.1, q_r w1.2.2 25 (fun j => if j = 2 * k + 1 then nI 1 else if j = 2 * k then nI 1 else if j = k then nI 2 else w1.2.2 25 j)), ?_, ⟨hS, q_T_spl h.2.1 h1 h8 hx h2, fun j hj => ?_, hR1⟩, ?_, ?_⟩
  · (conv => lhs; simp (disch := first | assumption | omega | (rw [nI_leI] <;> omega) | (rw [nI_ltI] <;> omega) | (rw [nI_eq] <;> omega) | (apply q_out <;> omega) | (apply q_nb; omega) | (apply q_n0 <;> omega)) only [M117, ↓q_th_r, q_th_2, hh, hk, q_sizeAt (h.th (k := nI 0)).1, b1, pk_mul, q_pu, q_r_s, q_r_r, q_sizeAt hS, q_div, ↓if_pos, ↓if_neg, nI_add, q_sub, q_cl, p_bnd_s, p_bnd_v])
  · dsimp only
    rw [q_r_s, q_kd_spl h.2.1 h1 h8 hs hj, b2.2.1]
    rw [show (q_th (nI 0) w).2.2 25 j = w.2.2 25 j from rfl, h.2.2.1 j hj]
  · dsimp only
    rw [b2.1]; rfl
  · refine q_th_FM.tr ⟨fun o _ => congrFun b2.1 o, fun o ho => b2.2.2 o (by simp; omega), fun o ho => ?_⟩
    exact (q_r_n (by omega)).trans (by rw [b2.2.1])
end Ms
