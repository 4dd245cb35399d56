/-! THE REFERENCE: SPLIT, JOIN, SAMPLE -/
theorem q_kJ.fm {S : List Nat} {w w' : pW} (h : q_kJ w w' S) (hS : ∀ b ∈ S, 24 ≤ b) : q_FM w w' := ⟨fun o _ => congrFun h.1 o, fun a ha => h.2.2 a (fun z => by have := hS a z; omega), fun a _ => congrFun h.2.1 a⟩
def q_isb : Nat → Nat → Nat → Bool
  | 0, i, t => decide (i = t)
  | f + 1, i, t => if i ≤ t then decide (i = t) else q_isb f (i / 2) t
theorem q_isb_in : ∀ i, i < 16 → ∀ t, t < 16 → 1 ≤ t → q_isb 4 i t = q_in i t := by
  have key : ∀ i t : Fin 16, t.val = 0 ∨ q_isb 4 i.val t.val = q_in i.val t.val := by decide +kernel
  intro i hi t ht h1
  rcases key ⟨i, hi⟩ ⟨t, ht⟩ with z | z
  · exact absurd z (by dsimp only; omega)
  · exact z
theorem q_in_le : ∀ i, i < 16 → ∀ t, t < 16 → q_in i t = true → t ≤ i := by
  have key : ∀ i t : Fin 16, q_in i.val t.val = false ∨ t.val ≤ i.val := by decide +kernel
  intro i hi t ht h
  rcases key ⟨i, hi⟩ ⟨t, ht⟩ with z | z
  · rw [z] at h; exact absurd h Bool.false_ne_true
  · exact z
/-- the tree without what is above i -/
def q_cut (sp : Nat → Bool) (i : Nat) : Nat → Bool := fun j => if j ≤ i then sp j else false
theorem q_cut_7 {n : Nat} {sp : Nat → Bool} (hT : q_T n sp) : q_cut sp 7 = sp := by
  funext j; unfold q_cut
  by_cases h : j ≤ 7
  · rw [if_pos h]
  · rw [if_neg h, hT.2.2.1 j (by omega)]
theorem q_cut_0 {n : Nat} {sp : Nat → Bool} (hT : q_T n sp) : q_cut sp 0 = fun _ => false := by
  funext j; unfold q_cut
  by_cases h : j ≤ 0
  · rw [if_pos h, Nat.le_zero.mp h, hT.2.1]
  · rw [if_neg h]
theorem q_cut_S {sp : Nat → Bool} {i : Nat} : q_st (q_cut sp (i + 1)) (i + 1) false = q_cut sp i := by
  funext j; unfold q_st q_cut
  by_cases h : j = i + 1
  · rw [if_pos h, if_neg (by omega)]
  · rw [if_neg h]
    by_cases h2 : j ≤ i
    · rw [if_pos h2, if_pos (by omega)]
    · rw [if_neg h2, if_neg (by omega)]
theorem q_cut_N {sp : Nat → Bool} {i : Nat} (h : sp (i + 1) = false) : q_cut sp (i + 1) = q_cut sp i := by
  funext j; unfold q_cut
  by_cases h1 : j = i + 1
  · rw [h1, if_pos (Nat.le_refl _), if_neg (by omega), h]
  · by_cases h2 : j ≤ i
    · rw [if_pos h2, if_pos (by omega)]
    · rw [if_neg h2, if_neg (by omega)]
theorem q_cut_T {n : Nat} {sp : Nat → Bool} (hT : q_T n sp) {i : Nat} : q_T n (q_cut sp i) := by
  have key : ∀ j, q_cut sp i j = true → sp j = true ∧ j ≤ i := by
    intro j hj; unfold q_cut at hj
    by_cases h : j ≤ i
    · rw [if_pos h] at hj; exact ⟨hj, h⟩
    · rw [if_neg h] at hj; exact absurd hj Bool.false_ne_true
  refine ⟨hT.1, ?_, fun j hj => ?_, fun j j2 j8 hj => ?_, fun j j1 j8 hj => hT.2.2.2.2 j j1 j8 (key j hj).1⟩
  · unfold q_cut; rw [if_pos (Nat.zero_le _)]; exact hT.2.1
  · unfold q_cut; split
    · exact hT.2.2.1 j hj
    · rfl
  · have := key j hj
    unfold q_cut; rw [if_pos (by omega)]; exact hT.2.2.2.1 j j2 j8 this.1
theorem q_un_S {n wv top k : Nat} {sp : Nat → Bool} {x : Nat → Int64} : q_un n wv sp top (k + 1) x = q_un n wv sp top k (if (sp (k + 1) && q_in (k + 1) top) = true then q_joi n wv (k + 1) x else x) := rfl
section Mt
variable {n wv : Nat} {sp : Nat → Bool} {x : Nat → Int64} {w : pW}
theorem q_mJoinAll_l {a : Nat} (ha : p_lg a) (ha27 : a ≠ 27) (ha28 : a ≠ 28) (hT : q_T n sp) : ∀ (i : Nat) (w : pW) (y : Nat → Int64), i ≤ 7 → q_Mw n wv w → q_Mk sp w → q_RR n (q_cut sp i) (w.2.1 a) y → ∃ w', p_ev none 112 3 [.ref 24, .ref a, .int (nI i)] [] w = some (.inl none, w', 0) ∧ q_kJ w w' [27, 28, a] ∧ q_RR n (fun _ => false) (w'.2.1 a) (q_un n wv sp 1 i y) := by
  intro i
  induction i with
  | zero =>
    intro w y hi hM hk hR
    refine ⟨w, ?_, q_kJ.rf, ?_⟩
    · rw [H112_3 a ha]
      (conv => lhs; simp (disch := first | assumption | omega | (rw [nI_leI] <;> omega) | (rw [nI_ltI] <;> omega) | (rw [nI_eq] <;> omega) | (apply q_out <;> omega) | (apply q_nb; omega) | (apply q_n0 <;> omega)) only [M112 a ha, ↓if_pos, ↓if_neg, nI_add, q_sub, q_cl, p_bnd_s, p_bnd_v])
    · rw [q_cut_0 hT] at hR; exact hR
  | succ i ih =>
    intro w y hi hM hk hR
    have hki := hk (i + 1) (by omega)
    have hne : ¬ nI (i + 1) ≤ nI 0 := by rw [nI_leI (by omega) (by omega)]; omega
    rw [q_un_S]
    cases hs : sp (i + 1)
    · have hz : ¬ nI (q_kd sp (i + 1)) = nI 2 := fun z => by have := q_kd_2.mp z; rw [hs] at this; exact Bool.false_ne_true this
      rw [q_cut_N hs] at hR
      obtain ⟨w', h1, h2, h3⟩ := ih w y (by omega) hM hk hR
      refine ⟨w', ?_, h2, ?_⟩
      · rw [H112_3 a ha]
        (conv => lhs; simp (disch := first | assumption | omega | (rw [nI_leI] <;> omega) | (rw [nI_ltI] <;> omega) | (rw [nI_eq] <;> omega) | (apply q_out <;> omega) | (apply q_nb; omega) | (apply q_n0 <;> omega)) only [M112 a ha, hki, q_m1, Nat.add_sub_cancel, ↓if_pos, ↓if_neg, nI_add, q_sub, q_cl, p_bnd_s, p_bnd_v])
        exact h1
      · rw [Bool.false_and, if_neg Bool.false_ne_true]; exact h3
    · have hz : nI (q_kd sp (i + 1)) = nI 2 := q_kd_2.mpr hs
      have hz2 : ¬ ¬ nI (q_kd sp (i + 1)) = nI 2 := fun z => z hz
      have h2 := hT.2.2.2.2 (i + 1) (by omega) (by omega) hs
      obtain ⟨w1, b1, b2, b3, b4⟩ := q_joinRow (w0 := w) (node := i + 1) ha ha27 ha28 (by omega) hM hT.n32 h2
      have hc1 : q_cut sp (i + 1) (i + 1) = true := by unfold q_cut; rw [if_pos (Nat.le_refl _)]; exact hs
      have hR1 := q_RR_joi (wv := wv) (q_cut_T hT) hc1 ⟨by unfold q_cut; rw [if_neg (by omega)], by unfold q_cut; rw [if_neg (by omega)]⟩ hR b3 b4
      rw [q_cut_S] at hR1
      obtain ⟨w', h1, h3, h4⟩ := ih w1 _ (by omega) (b2.M hM) (fun j hj => by rw [b2.2.1]; exact hk j hj) hR1
      refine ⟨w', ?_, (b2.tr h3).mono (fun b hb => by simp at hb ⊢; omega), ?_⟩
      · rw [H112_3 a ha]
        (conv => lhs; simp (disch := first | assumption | omega | (rw [nI_leI] <;> omega) | (rw [nI_ltI] <;> omega) | (rw [nI_eq] <;> omega) | (apply q_out <;> omega) | (apply q_nb; omega) | (apply q_n0 <;> omega)) only [M112 a ha, hki, b1, q_m1, Nat.add_sub_cancel, ↓if_pos, ↓if_neg, nI_add, q_sub, q_cl, p_bnd_s, p_bnd_v])
        exact h1
      · rw [q_inT (i + 1) (by omega) (by omega), Bool.true_and, if_pos rfl]; exact h4
theorem q_mJoinAll {a : Nat} (ha : p_lg a) (ha27 : a ≠ 27) (ha28 : a ≠ 28) (hT : q_T n sp) {y : Nat → Int64} (hM : q_Mw n wv w) (hk : q_Mk sp w) (hR : q_RR n sp (w.2.1 a) y) : ∃ w', p_ev none 112 0 [.ref 24, .ref a, p_U] [] w = some (.inl none, w', 0) ∧ q_kJ w w' [27, 28, a] ∧ ∀ j, j < n → w'.2.1 a (32 + j) = q_un n wv sp 1 7 y j := by
  rw [← q_cut_7 hT] at hR
  obtain ⟨w', h1, h2, h3⟩ := q_mJoinAll_l ha ha27 ha28 hT 7 w y (by omega) hM hk hR
  refine ⟨w', ?_, h2, fun j hj => ?_⟩
  · (conv => lhs; simp (disch := first | assumption | omega | (rw [nI_leI] <;> omega) | (rw [nI_ltI] <;> omega) | (rw [nI_eq] <;> omega) | (apply q_out <;> omega) | (apply q_nb; omega) | (apply q_n0 <;> omega)) only [M112 a ha, ↓if_pos, ↓if_neg, nI_add, q_sub, q_cl, p_bnd_s, p_bnd_v])
    exact h1
  · have hw1 : q_wd n 1 = n := Nat.div_one n
    have hs1 : q_so n 1 = 0 := by unfold q_so; rw [show 1 - 2 ^ q_lv 1 = 0 from rfl, Nat.zero_mul]
    have := h3 1 (by omega) rfl rfl j (by rw [hw1]; exact hj)
    rw [hs1, Nat.zero_add] at this
    exact this
theorem q_mLay_l : ∀ (d k : Nat) (w : pW), k + d = 512 → p_ev none 113 2 [.ref 24, .int (nI k)] [] w = p_ev none 113 2 [.ref 24, .int (nI 512)] [] (w.1, q_r w.2.1 29 (fun j => if k ≤ j ∧ j < 512 then w.2.1 26 j else w.2.1 29 j), w.2.2) := by
  intro d
  induction d with
  | zero =>
    intro k w hk
    have e : k = 512 := by omega
    subst e
    have e2 : (fun j => if 512 ≤ j ∧ j < 512 then w.2.1 26 j else w.2.1 29 j) = w.2.1 29 := by
      funext j; rw [if_neg (by omega)]
    rw [e2, q_r_id]
  | succ d ih =>
    intro k w hk
    have i1 := ih (k + 1) (w.1, q_r w.2.1 29 (fun j => if j = k then w.2.1 26 k else w.2.1 29 j), w.2.2) (by omega)
    have e26 : q_r w.2.1 29 (fun j => if j = k then w.2.1 26 k else w.2.1 29 j) 26 = w.2.1 26 := q_r_n (by decide)
    simp only [q_r_s, q_r_r, e26] at i1
    (conv => lhs; rw [H113_2])
    (conv => lhs; simp (disch := first | assumption | omega | (rw [nI_leI] <;> omega) | (rw [nI_ltI] <;> omega) | (rw [nI_eq] <;> omega) | (apply q_out <;> omega) | (apply q_nb; omega) | (apply q_n0 <;> omega)) only [M113, q_pu, ↓if_pos, ↓if_neg, nI_add, q_sub, q_cl, p_bnd_s, p_bnd_v])
    rw [i1]
    refine congrArg (p_ev none 113 2 _ []) (congrArg (fun z => (w.1, z, w.2.2)) (congrArg (q_r w.2.1 29) ?_))
    funext j
    by_cases h1 : j = k
    · subst h1; rw [if_neg (by omega), if_pos rfl, if_pos (by omega)]
    · by_cases h2 : k + 1 ≤ j ∧ j < 512
      · rw [if_pos h2, if_pos (by omega)]
      · rw [if_neg h2, if_neg h1, if_neg (by omega)]
theorem q_mLaySamples (h : q_R n wv sp x w) : ∃ w', p_ev none 113 0 [.ref 24, p_U] [] w = some (.inl none, w', 0) ∧ q_kJ w w' [27, 28, 29] ∧ ∀ j, j < n → w'.2.1 29 (32 + j) = q_un n wv sp 1 7 x j := by
  have hn := h.2.1.n32
  have h29 : p_lg 29 := rfl
  have l1 := q_mLay_l 512 0 w rfl
  obtain ⟨w', a1, a2, a3⟩ := q_mJoinAll (a := 29) (wv := wv) (w := (w.1, q_r w.2.1 29 (fun j => if 0 ≤ j ∧ j < 512 then w.2.1 26 j else w.2.1 29 j), w.2.2)) (y := x) h29 (by decide) (by decide) h.2.1 ⟨h.1.1, h.1.2.1, h.1.2.2.1, h.1.2.2.2⟩ h.2.2.1 (by
    dsimp only
    rw [q_r_s]
    intro i hi ei li k hk
    have hwl := q_wdle n i
    dsimp only
    rw [if_pos (by omega)]
    exact h.2.2.2 i hi ei li k hk)
  refine ⟨w', ?_, ⟨a2.1, a2.2.1, fun b hb => ?_⟩, a3⟩
  · (conv => lhs; simp (disch := first | assumption | omega | (rw [nI_leI] <;> omega) | (rw [nI_ltI] <;> omega) | (rw [nI_eq] <;> omega) | (apply q_out <;> omega) | (apply q_nb; omega) | (apply q_n0 <;> omega)) only [M113, ↓if_pos, ↓if_neg, nI_add, q_sub, q_cl, p_bnd_s, p_bnd_v])
    rw [l1, H113_2]
    (conv => lhs; simp (disch := first | assumption | omega | (rw [nI_leI] <;> omega) | (rw [nI_ltI] <;> omega) | (rw [nI_eq] <;> omega) | (apply q_out <;> omega) | (apply q_nb; omega) | (apply q_n0 <;> omega)) only [M113, a1, ↓if_pos, ↓if_neg, nI_add, q_sub, q_cl, p_bnd_s, p_bnd_v])
  · rw [a2.2.2 b hb]
    simp at hb
    exact q_r_n (by omega)
theorem q_R.kj {S : List Nat} {w w' : pW} (h : q_R n wv sp x w) (g : q_kJ w w' S) (h26 : 26 ∉ S) : q_R n wv sp x w' := ⟨g.M h.1, h.2.1, fun i hi => by rw [g.2.1]; exact h.2.2.1 i hi, by rw [g.2.2 26 h26]; exact h.2.2.2⟩
theorem q_mSample (h : q_R n wv sp x w) (a : Int32) : if q_pt n a < n then q_ZM w n wv sp x (p_ev none 114 0 [.ref 24, .int a] [] w) (.long (q_un n wv sp 1 7 x (q_pt n a))) 0 else q_ZTl w n wv sp x (p_ev none 114 0 [.ref 24, .int a] [] w) 1 := by
  have e1 : ¬ nI 1 = nI 0 := by decide
  have e2 : ¬ ¬ nI 0 = nI 0 := by decide
  have hn := h.2.1.n32
  have hn1 : 1 ≤ n := by rcases h.2.1.1 with z | z | z | z <;> omega
  have hl := (h.th (k := nI 0)).1.1
  have hp := q_in_pt hn1 (show n < 2 ^ 31 by omega) a
  by_cases ha : q_pt n a < n
  · rw [if_pos ha]
    have hd := decide_eq_true (hp.mpr ha)
    obtain ⟨w', b1, b2, b3⟩ := q_mLaySamples (w := q_th (nI 0) w) h.th
    rcases q_pt_c (m := n) (by omega) a with ⟨h5, h6⟩ | ⟨j, h5, rfl, h6⟩
    · omega
    · rw [h6]
      refine ⟨w', ?_, (h.th (k := nI 0)).kj b2 (by simp), ?_, q_th_FM.tr (b2.fm (by simp))⟩
      · (conv => lhs; simp (disch := first | assumption | omega | (rw [nI_leI] <;> omega) | (rw [nI_ltI] <;> omega) | (rw [nI_eq] <;> omega) | (apply q_out <;> omega) | (apply q_nb; omega) | (apply q_n0 <;> omega)) only [M114, ↓q_th_r, q_th_2, hl, q_mIn, hd, Bool.toNat_true, b1, ↓if_pos, ↓if_neg, nI_add, q_sub, q_cl, p_bnd_s, p_bnd_v])
        rw [b3 j h5]
      · rw [b2.1]; rfl
  · rw [if_neg ha]
    have hd := decide_eq_false (fun z => ha (hp.mp z))
    refine q_ZTl0 h ?_
    (conv => lhs; simp (disch := first | assumption | omega | (rw [nI_leI] <;> omega) | (rw [nI_ltI] <;> omega) | (rw [nI_eq] <;> omega) | (apply q_out <;> omega) | (apply q_nb; omega) | (apply q_n0 <;> omega)) only [M114, ↓q_th_r, q_th_2, hl, q_mIn, hd, Bool.toNat_false, q_mFails, q_th_th, ↓if_pos, ↓if_neg, nI_add, q_sub, q_cl, p_bnd_s, p_bnd_v])
theorem q_mIsBelow_l {x1 : Int32} {t : Nat} (ht : t < 16) : ∀ (f i : Nat), i < 2 ^ f → i < 16 → p_ev none 118 2 [.ref 24, .int x1, .int (nI t), .int (nI i)] [] w = some (.inl (some (.int (nI (q_isb f i t).toNat))), w, 0) := by
  have e2 : ∀ {a : Nat}, ¬ ¬ a = a := fun z => z rfl
  have h20 : ¬ nI 2 = 0 := by decide
  have fin : ∀ i, i < 16 → i ≤ t → p_ev none 118 2 [.ref 24, .int x1, .int (nI t), .int (nI i)] [] w = some (.inl (some (.int (nI (decide (i = t)).toNat))), w, 0) := by
    intro i hi hle
    rw [H118_2]
    by_cases he : i = t
    · rw [decide_eq_true he]
      subst he
      have e3 : ¬ ¬ nI i = nI i := fun z => z rfl
      (conv => lhs; simp (disch := first | assumption | omega | (rw [nI_leI] <;> omega) | (rw [nI_ltI] <;> omega) | (rw [nI_eq] <;> omega) | (apply q_out <;> omega) | (apply q_nb; omega) | (apply q_n0 <;> omega)) only [M118, ↓if_pos, ↓if_neg, nI_add, q_sub, q_cl, p_bnd_s, p_bnd_v]); rfl
    · rw [decide_eq_false he]
      (conv => lhs; simp (disch := first | assumption | omega | (rw [nI_leI] <;> omega) | (rw [nI_ltI] <;> omega) | (rw [nI_eq] <;> omega) | (apply q_out <;> omega) | (apply q_nb; omega) | (apply q_n0 <;> omega)) only [M118, ↓if_pos, ↓if_neg, nI_add, q_sub, q_cl, p_bnd_s, p_bnd_v]); rfl
  intro f
  induction f with
  | zero =>
    intro i hi hi2
    exact fin i hi2 (by omega)
  | succ f ih =>
    intro i hi hi2
    rw [q_isb]
    by_cases hle : i ≤ t
    · rw [if_pos hle]
      exact fin i hi2 hle
    · rw [if_neg hle, H118_2]
      have h3 := ih (i / 2) (by rw [Nat.pow_succ] at hi; omega) (by omega)
      (conv => lhs; simp (disch := first | assumption | omega | (rw [nI_leI] <;> omega) | (rw [nI_ltI] <;> omega) | (rw [nI_eq] <;> omega) | (apply q_out <;> omega) | (apply q_nb; omega) | (apply q_n0 <;> omega)) only [M118, q_div, ↓if_pos, ↓if_neg, nI_add, q_sub, q_cl, p_bnd_s, p_bnd_v])
      exact h3
theorem q_mIsBelow {i t : Nat} (hi : i < 16) (ht : t < 16) (h1 : 1 ≤ t) : p_ev none 118 0 [.ref 24, .int (nI i), .int (nI t), p_U] [] w = some (.inl (some (.int (nI (q_in i t).toNat))), w, 0) := by
  (conv => lhs; simp (disch := first | assumption | omega | (rw [nI_leI] <;> omega) | (rw [nI_ltI] <;> omega) | (rw [nI_eq] <;> omega) | (apply q_out <;> omega) | (apply q_nb; omega) | (apply q_n0 <;> omega)) only [M118, ↓if_pos, ↓if_neg, nI_add, q_sub, q_cl, p_bnd_s, p_bnd_v])
  rw [q_mIsBelow_l ht 4 i (by omega) hi, q_isb_in i hi t ht h1]
end Mt
