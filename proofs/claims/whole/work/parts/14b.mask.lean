/-! THE REFERENCE: CALLS THAT ASK -/
/-- how many of the nodes 1 to m are leaves -/
def q_ml (sp : Nat → Bool) : Nat → Nat
  | 0 => 0
  | m + 1 => q_ml sp m + (q_ex sp (m + 1) && !(sp (m + 1))).toNat
theorem q_ml_le {sp : Nat → Bool} : ∀ m, q_ml sp m ≤ m
  | 0 => Nat.le_refl _
  | m + 1 => by have := q_ml_le (sp := sp) m; have := Bool.toNat_le (q_ex sp (m + 1) && !(sp (m + 1))); rw [q_ml]; omega
theorem q_lf_n {a b : Bool} (h : b = true → a = true) : (a && !b).toNat = a.toNat - b.toNat := by
  cases a <;> cases b <;> simp at h ⊢
theorem q_ml_lc {n : Nat} {sp : Nat → Bool} (hT : q_T n sp) : q_ml sp 15 = q_lc sp := by
  have hx : ∀ i, 1 ≤ i → sp i = true → q_ex sp i = true := fun i h1 h => hT.ex h1 h
  have he : ∀ i, 1 < i → i < 16 → q_ex sp i = sp (i / 2) := by
    intro i h1 h2
    have e1 : decide (i = 1) = false := decide_eq_false (by omega)
    have e2 : decide (1 < i) = true := decide_eq_true h1
    have e3 : decide (i < 16) = true := decide_eq_true h2
    unfold q_ex
    rw [e1, e2, e3]; simp
  have h1 : q_ex sp 1 = true := rfl
  have h8 : ∀ i, 8 ≤ i → sp i = false := hT.2.2.1
  have t : ∀ i, 1 < i → i < 8 → (q_ex sp i && !(sp i)).toNat = (sp (i / 2)).toNat - (sp i).toNat ∧ (sp i).toNat ≤ (sp (i / 2)).toNat := by
    intro i g1 g2
    refine ⟨?_, ?_⟩
    · rw [q_lf_n (hx i (by omega)), he i g1 (by omega)]
    · cases hs : sp i
      · exact Nat.zero_le _
      · rw [hT.2.2.2.1 i (by omega) g2 hs]; exact Nat.le_refl _
  have u : ∀ i, 8 ≤ i → i < 16 → (q_ex sp i && !(sp i)).toNat = (sp (i / 2)).toNat := by
    intro i g1 g2
    rw [h8 i g1, he i (by omega) g2]; simp
  have t1 : (q_ex sp 1 && !(sp 1)).toNat = 1 - (sp 1).toNat := by rw [q_lf_n (hx 1 (by omega)), h1]; rfl
  have b1 := Bool.toNat_le (sp 1)
  have t2 := t 2 (by omega) (by omega); have t3 := t 3 (by omega) (by omega); have t4 := t 4 (by omega) (by omega); have t5 := t 5 (by omega) (by omega); have t6 := t 6 (by omega) (by omega); have t7 := t 7 (by omega) (by omega)
  have u8 := u 8 (by omega) (by omega); have u9 := u 9 (by omega) (by omega); have u10 := u 10 (by omega) (by omega); have u11 := u 11 (by omega) (by omega); have u12 := u 12 (by omega) (by omega); have u13 := u 13 (by omega) (by omega); have u14 := u 14 (by omega) (by omega); have u15 := u 15 (by omega) (by omega)
  have e : ((List.range 7).map (fun i => (sp (1 + i)).toNat)).sum = (sp 1).toNat + ((sp 2).toNat + ((sp 3).toNat + ((sp 4).toNat + ((sp 5).toNat + ((sp 6).toNat + ((sp 7).toNat + 0)))))) := rfl
  unfold q_lc
  rw [e]
  simp only [q_ml, Nat.zero_add, Nat.reduceAdd]
  simp only [Nat.reduceDiv] at t2 t3 t4 t5 t6 t7 u8 u9 u10 u11 u12 u13 u14 u15
  omega
/-- leaves have places of their own -/
theorem q_disj0 : ∀ n, (n = 4 ∨ n = 8 ∨ n = 16 ∨ n = 32) → ∀ i, i < 16 → ∀ k, k < 16 → 1 ≤ i → 1 ≤ k → i ≠ k → q_so n i + q_wd n i ≤ q_so n k ∨ q_so n k + q_wd n k ≤ q_so n i ∨ (k / 2 = i ∨ k / 4 = i ∨ k / 8 = i) ∨ (i / 2 = k ∨ i / 4 = k ∨ i / 8 = k) := by
  have key : ∀ n : Fin 4, ∀ i k : Fin 16, i.val = 0 ∨ k.val = 0 ∨ i.val = k.val ∨ q_so (4 * 2 ^ n.val) i.val + q_wd (4 * 2 ^ n.val) i.val ≤ q_so (4 * 2 ^ n.val) k.val ∨ q_so (4 * 2 ^ n.val) k.val + q_wd (4 * 2 ^ n.val) k.val ≤ q_so (4 * 2 ^ n.val) i.val ∨ (k.val / 2 = i.val ∨ k.val / 4 = i.val ∨ k.val / 8 = i.val) ∨ (i.val / 2 = k.val ∨ i.val / 4 = k.val ∨ i.val / 8 = k.val) := by decide +kernel
  intro n hn i hi k hk i1 k1 hne
  have e : ∃ m : Fin 4, n = 4 * 2 ^ m.val := by
    rcases hn with rfl | rfl | rfl | rfl
    · exact ⟨0, rfl⟩
    · exact ⟨1, rfl⟩
    · exact ⟨2, rfl⟩
    · exact ⟨3, rfl⟩
  obtain ⟨m, rfl⟩ := e
  rcases key m ⟨i, hi⟩ ⟨k, hk⟩ with z | z | z | z
  · exact absurd z (by dsimp only; omega)
  · exact absurd z (by dsimp only; omega)
  · exact absurd z hne
  · exact z
theorem q_T.anc {n : Nat} {sp : Nat → Bool} (hT : q_T n sp) {k : Nat} (hx : q_ex sp k = true) : (2 ≤ k → sp (k / 2) = true) ∧ (4 ≤ k → sp (k / 4) = true) ∧ (8 ≤ k → sp (k / 8) = true) := by
  have up : ∀ k, 2 ≤ k → q_ex sp k = true → sp (k / 2) = true := by
    intro k h2 h
    unfold q_ex at h
    simp only [Bool.or_eq_true, Bool.and_eq_true, decide_eq_true_eq] at h
    rcases h with z | ⟨_, z⟩
    · omega
    · exact z
  have up2 : ∀ k, 2 ≤ k → sp k = true → sp (k / 2) = true := fun k h2 h => hT.2.2.2.1 k h2 (hT.sp1 h).2 h
  refine ⟨fun h => up k h hx, fun h => ?_, fun h => ?_⟩
  · have := up2 (k / 2) (by omega) (up k (by omega) hx)
    rw [Nat.div_div_eq_div_mul] at this; exact this
  · have h1 := up2 (k / 2) (by omega) (up k (by omega) hx)
    have h2 := up2 (k / 2 / 2) (by omega) h1
    rw [Nat.div_div_eq_div_mul, Nat.div_div_eq_div_mul] at h2; exact h2
theorem q_disj {n i k : Nat} {sp : Nat → Bool} (hT : q_T n sp) (hi : q_ex sp i = true) (hk : q_ex sp k = true) (li : sp i = false) (lk : sp k = false) (hne : i ≠ k) (i1 : 1 ≤ i) (i2 : i < 16) (k1 : 1 ≤ k) (k2 : k < 16) : q_so n i + q_wd n i ≤ q_so n k ∨ q_so n k + q_wd n k ≤ q_so n i := by
  have ai := hT.anc hi
  have ak := hT.anc hk
  rcases q_disj0 n hT.1 i i2 k k2 i1 k1 hne with z | z | z | z
  · exact Or.inl z
  · exact Or.inr z
  · exfalso
    rcases z with z | z | z
    · have := ak.1 (by omega); rw [z, li] at this; exact Bool.false_ne_true this
    · have := ak.2.1 (by omega); rw [z, li] at this; exact Bool.false_ne_true this
    · have := ak.2.2 (by omega); rw [z, li] at this; exact Bool.false_ne_true this
  · exfalso
    rcases z with z | z | z
    · have := ai.1 (by omega); rw [z, lk] at this; exact Bool.false_ne_true this
    · have := ai.2.1 (by omega); rw [z, lk] at this; exact Bool.false_ne_true this
    · have := ai.2.2 (by omega); rw [z, lk] at this; exact Bool.false_ne_true this
theorem q_ex_b {sp : Nat → Bool} {k : Nat} (hx : q_ex sp k = true) : 1 ≤ k ∧ k < 16 := by
  unfold q_ex at hx
  simp only [Bool.or_eq_true, Bool.and_eq_true, decide_eq_true_eq] at hx
  rcases hx with z | ⟨⟨z1, z2⟩, _⟩ <;> omega
/-- the leaves' rows when a number of leaf k changes -/
theorem q_RR_set {n k p : Nat} {sp : Nat → Bool} {A x : Nat → Int64} {v : Int64} (hT : q_T n sp) (hk : q_ex sp k = true) (lk : sp k = false) (hp : p < q_wd n k) (hn : n ≤ 32) (h : q_RR n sp A x) : q_RR n sp (fun j => if j = 32 * k + p then v else A j) (fun j => if j = q_so n k + p then v else x j) := by
  intro i hi ei li j hj
  have hb := q_ex_b ei
  have hb2 := q_ex_b hk
  have hw := q_wdle n k
  have hw2 := q_wdle n i
  dsimp only
  by_cases hik : i = k
  · subst hik
    by_cases hjp : j = p
    · subst hjp; rw [if_pos rfl, if_pos rfl]
    · rw [if_neg (by omega), if_neg (by omega)]; exact h i hi ei li j hj
  · have hd := q_disj hT ei hk li lk hik hb.1 hi hb2.1 hb2.2
    rw [if_neg (by omega), if_neg (by omega)]; exact h i hi ei li j hj
section Ma
variable {n wv : Nat} {sp : Nat → Bool} {x : Nat → Int64} {w : pW}
def q_ZTi (w : pW) (n wv : Nat) (sp : Nat → Bool) (x : Nat → Int64) (e : Option pR) (t : Nat) : Prop := q_ZM w n wv sp x e (.int (nI 0)) t
def q_ZTl (w : pW) (n wv : Nat) (sp : Nat → Bool) (x : Nat → Int64) (e : Option pR) (t : Nat) : Prop := q_ZM w n wv sp x e (.long (nI 0).toInt64) t
theorem q_ZTi0 (h : q_R n wv sp x w) {e : Option pR} {t : Nat} (he : e = some (.inl (some (.int (nI 0))), q_th (nI t) w, 0)) : q_ZTi w n wv sp x e t := q_ZM0 h he
theorem q_ZTl0 (h : q_R n wv sp x w) {e : Option pR} {t : Nat} (he : e = some (.inl (some (.long (nI 0).toInt64)), q_th (nI t) w, 0)) : q_ZTl w n wv sp x e t := q_ZM0 h he
theorem q_mThrown {t : Nat} (h : w.1 24 4 = nI t) : p_ev none 95 0 [.ref 24] [] w = some (.inl (some (.int (nI t))), w, 0) := by
  (conv => lhs; simp (disch := first | assumption | omega | (rw [nI_leI] <;> omega) | (rw [nI_ltI] <;> omega) | (rw [nI_eq] <;> omega) | (apply q_out <;> omega) | (apply q_nb; omega) | (apply q_n0 <;> omega)) only [M95, h, ↓if_pos, ↓if_neg, nI_add, q_sub, q_cl, p_bnd_s, p_bnd_v])
theorem q_mLength (h : q_R n wv sp x w) : q_ZM w n wv sp x (p_ev none 115 0 [.ref 24] [] w) (.int (nI n)) 0 := by
  refine q_ZM0 h ?_
  have e := (h.th (k := nI 0)).1.1
  (conv => lhs; simp (disch := first | assumption | omega | (rw [nI_leI] <;> omega) | (rw [nI_ltI] <;> omega) | (rw [nI_eq] <;> omega) | (apply q_out <;> omega) | (apply q_nb; omega) | (apply q_n0 <;> omega)) only [M115, q_th_r, e, ↓if_pos, ↓if_neg, nI_add, q_sub, q_cl, p_bnd_s, p_bnd_v])
theorem q_mIsNode (h : q_R n wv sp x w) (a : Int32) : q_ZM w n wv sp x (p_ev none 121 0 [.ref 24, .int a] [] w) (.int (nI (q_ex sp (q_nt a)).toNat)) 0 := by
  refine q_ZM0 h ?_
  have hh := q_mHas (w := q_th (nI 0) w) h.th.2.2.1 h.2.1 a
  have hb := Bool.toNat_lt (q_ex sp (q_nt a))
  (conv => lhs; simp (disch := first | assumption | omega | (rw [nI_leI] <;> omega) | (rw [nI_ltI] <;> omega) | (rw [nI_eq] <;> omega) | (apply q_out <;> omega) | (apply q_nb; omega) | (apply q_n0 <;> omega)) only [M121, q_th_r, hh, ↓if_pos, ↓if_neg, nI_add, q_sub, q_cl, p_bnd_s, p_bnd_v])
theorem q_mIsLeaf (h : q_R n wv sp x w) (a : Int32) : if q_ex sp (q_nt a) = true then q_ZM w n wv sp x (p_ev none 122 0 [.ref 24, .int a] [] w) (.int (nI (!(sp (q_nt a))).toNat)) 0 else q_ZTi w n wv sp x (p_ev none 122 0 [.ref 24, .int a] [] w) 1 := by
  have hh := q_mHas (w := q_th (nI 0) w) h.th.2.2.1 h.2.1 a
  have e1 : ¬ nI 1 = nI 0 := by decide
  by_cases hx : q_ex sp (q_nt a) = true
  · have h0 := hx
    obtain ⟨k, h1, h2, rfl, h3⟩ := q_ntx hx
    rw [if_pos hx]
    rw [h3] at hx hh ⊢
    rw [hx, Bool.toNat_true] at hh
    refine q_ZM0 h ?_
    have hk := h.2.2.1 k h2
    cases hs : sp k
    · have hz : nI (q_kd sp k) = nI 1 := (q_kd_1 h.2.1).mpr ⟨hx, hs⟩
      have hz2 : ¬ ¬ nI (q_kd sp k) = nI 1 := fun z => z hz
      (conv => lhs; simp (disch := first | assumption | omega | (rw [nI_leI] <;> omega) | (rw [nI_ltI] <;> omega) | (rw [nI_eq] <;> omega) | (apply q_out <;> omega) | (apply q_nb; omega) | (apply q_n0 <;> omega)) only [M122, q_th_r, hh, q_th_2, hk, ↓if_pos, ↓if_neg, nI_add, q_sub, q_cl, p_bnd_s, p_bnd_v]); rfl
    · have hz : ¬ nI (q_kd sp k) = nI 1 := fun z => by have := ((q_kd_1 h.2.1).mp z).2; rw [hs] at this; exact Bool.false_ne_true this.symm
      (conv => lhs; simp (disch := first | assumption | omega | (rw [nI_leI] <;> omega) | (rw [nI_ltI] <;> omega) | (rw [nI_eq] <;> omega) | (apply q_out <;> omega) | (apply q_nb; omega) | (apply q_n0 <;> omega)) only [M122, q_th_r, hh, q_th_2, hk, ↓if_pos, ↓if_neg, nI_add, q_sub, q_cl, p_bnd_s, p_bnd_v]); rfl
  · rw [if_neg hx]
    rw [Bool.eq_false_iff.mpr hx, Bool.toNat_false] at hh
    refine q_ZTi0 h ?_
    (conv => lhs; simp (disch := first | assumption | omega | (rw [nI_leI] <;> omega) | (rw [nI_ltI] <;> omega) | (rw [nI_eq] <;> omega) | (apply q_out <;> omega) | (apply q_nb; omega) | (apply q_n0 <;> omega)) only [M122, q_th_r, hh, q_mFails, q_th_th, ↓if_pos, ↓if_neg, nI_add, q_sub, q_cl, p_bnd_s, p_bnd_v])
theorem q_mLeaves_l (hk : q_Mk sp w) (hT : q_T n sp) : ∀ (d m : Nat), m + d = 15 → p_ev none 123 9 [.ref 24, .int (nI (q_ml sp m)), .int (nI (m + 1))] [] w = some (.inl (some (.int (nI (q_ml sp 15)))), w, 0) := by
  intro d
  induction d with
  | zero =>
    intro m hm
    have e : m = 15 := by omega
    subst e
    rw [H123_9]
    (conv => lhs; simp (disch := first | assumption | omega | (rw [nI_leI] <;> omega) | (rw [nI_ltI] <;> omega) | (rw [nI_eq] <;> omega) | (apply q_out <;> omega) | (apply q_nb; omega) | (apply q_n0 <;> omega)) only [M123, ↓if_pos, ↓if_neg, nI_add, q_sub, q_cl, p_bnd_s, p_bnd_v])
  | succ d ih =>
    intro m hm
    have hkm := hk (m + 1) (by omega)
    have i1 := ih (m + 1) (by omega)
    rw [q_ml] at i1
    rw [H123_9]
    cases hl : (q_ex sp (m + 1) && !(sp (m + 1)))
    · have hz : ¬ nI (q_kd sp (m + 1)) = nI 1 := fun z => by
        have := (q_kd_1 hT).mp z
        rw [this.1, this.2] at hl; exact absurd hl (by decide)
      rw [hl, Bool.toNat_false] at i1
      (conv => lhs; simp (disch := first | assumption | omega | (rw [nI_leI] <;> omega) | (rw [nI_ltI] <;> omega) | (rw [nI_eq] <;> omega) | (apply q_out <;> omega) | (apply q_nb; omega) | (apply q_n0 <;> omega)) only [M123, hkm, ↓if_pos, ↓if_neg, nI_add, q_sub, q_cl, p_bnd_s, p_bnd_v])
      exact i1
    · have hz : nI (q_kd sp (m + 1)) = nI 1 := (q_kd_1 hT).mpr (by
        rw [Bool.and_eq_true] at hl
        exact ⟨hl.1, by have := hl.2; cases hs : sp (m + 1); rfl; rw [hs] at this; exact absurd this (by decide)⟩)
      have hz2 : ¬ ¬ nI (q_kd sp (m + 1)) = nI 1 := fun z => z hz
      rw [hl, Bool.toNat_true] at i1
      (conv => lhs; simp (disch := first | assumption | omega | (rw [nI_leI] <;> omega) | (rw [nI_ltI] <;> omega) | (rw [nI_eq] <;> omega) | (apply q_out <;> omega) | (apply q_nb; omega) | (apply q_n0 <;> omega)) only [M123, hkm, ↓if_pos, ↓if_neg, nI_add, q_sub, q_cl, p_bnd_s, p_bnd_v])
      exact i1
theorem q_mLeaves (h : q_R n wv sp x w) : q_ZM w n wv sp x (p_ev none 123 0 [.ref 24, p_U, p_U] [] w) (.int (nI (q_lc sp))) 0 := by
  refine q_ZM0 h ?_
  have hl := q_mLeaves_l (w := q_th (nI 0) w) h.th.2.2.1 h.2.1 15 0 rfl
  (conv => lhs; simp (disch := first | assumption | omega | (rw [nI_leI] <;> omega) | (rw [nI_ltI] <;> omega) | (rw [nI_eq] <;> omega) | (apply q_out <;> omega) | (apply q_nb; omega) | (apply q_n0 <;> omega)) only [M123, q_th_r, ↓if_pos, ↓if_neg, nI_add, q_sub, q_cl, p_bnd_s, p_bnd_v])
  rw [q_ml_lc h.2.1] at hl
  exact hl
theorem q_mSizeOf (h : q_R n wv sp x w) (a : Int32) : if q_ex sp (q_nt a) = true then if sp (q_nt a) = true then q_ZTi w n wv sp x (p_ev none 130 0 [.ref 24, .int a] [] w) 2 else q_ZM w n wv sp x (p_ev none 130 0 [.ref 24, .int a] [] w) (.int (nI (q_wd n (q_nt a)))) 0 else q_ZTi w n wv sp x (p_ev none 130 0 [.ref 24, .int a] [] w) 1 := by
  have hh := q_mHas (w := q_th (nI 0) w) h.th.2.2.1 h.2.1 a
  have e1 : ¬ nI 1 = nI 0 := by decide
  by_cases hx : q_ex sp (q_nt a) = true
  · obtain ⟨k, h1, h2, rfl, h3⟩ := q_ntx hx
    rw [if_pos hx]
    rw [h3] at hx hh ⊢
    rw [hx, Bool.toNat_true] at hh
    have hk := h.2.2.1 k h2
    by_cases hs : sp k = true
    · rw [if_pos hs]
      have hz : ¬ nI (q_kd sp k) = nI 1 := fun z => by have := ((q_kd_1 h.2.1).mp z).2; rw [hs] at this; exact Bool.false_ne_true this.symm
      refine q_ZTi0 h ?_
      (conv => lhs; simp (disch := first | assumption | omega | (rw [nI_leI] <;> omega) | (rw [nI_ltI] <;> omega) | (rw [nI_eq] <;> omega) | (apply q_out <;> omega) | (apply q_nb; omega) | (apply q_n0 <;> omega)) only [M130, q_th_r, hh, q_th_2, hk, q_mFails, q_th_th, ↓if_pos, ↓if_neg, nI_add, q_sub, q_cl, p_bnd_s, p_bnd_v])
    · rw [if_neg hs]
      have hz : nI (q_kd sp k) = nI 1 := (q_kd_1 h.2.1).mpr ⟨hx, Bool.eq_false_iff.mpr hs⟩
      have hz2 : ¬ ¬ nI (q_kd sp k) = nI 1 := fun z => z hz
      refine q_ZM0 h ?_
      (conv => lhs; simp (disch := first | assumption | omega | (rw [nI_leI] <;> omega) | (rw [nI_ltI] <;> omega) | (rw [nI_eq] <;> omega) | (apply q_out <;> omega) | (apply q_nb; omega) | (apply q_n0 <;> omega)) only [M130, q_th_r, hh, q_th_2, hk, q_sizeAt h.th.1, ↓if_pos, ↓if_neg, nI_add, q_sub, q_cl, p_bnd_s, p_bnd_v])
  · rw [if_neg hx]
    rw [Bool.eq_false_iff.mpr hx, Bool.toNat_false] at hh
    refine q_ZTi0 h ?_
    (conv => lhs; simp (disch := first | assumption | omega | (rw [nI_leI] <;> omega) | (rw [nI_ltI] <;> omega) | (rw [nI_eq] <;> omega) | (apply q_out <;> omega) | (apply q_nb; omega) | (apply q_n0 <;> omega)) only [M130, q_th_r, hh, q_mFails, q_th_th, ↓if_pos, ↓if_neg, nI_add, q_sub, q_cl, p_bnd_s, p_bnd_v])
theorem q_mNumber (h : q_R n wv sp x w) (a b : Int32) : if q_ex sp (q_nt a) = true then if sp (q_nt a) = true then q_ZTl w n wv sp x (p_ev none 131 0 [.ref 24, .int a, .int b] [] w) 2 else if q_pt (q_wd n (q_nt a)) b < q_wd n (q_nt a) then q_ZM w n wv sp x (p_ev none 131 0 [.ref 24, .int a, .int b] [] w) (.long (x (q_so n (q_nt a) + q_pt (q_wd n (q_nt a)) b))) 0 else q_ZTl w n wv sp x (p_ev none 131 0 [.ref 24, .int a, .int b] [] w) 1 else q_ZTl w n wv sp x (p_ev none 131 0 [.ref 24, .int a, .int b] [] w) 1 := by
  have hh := q_mHas (w := q_th (nI 0) w) h.th.2.2.1 h.2.1 a
  have e1 : ¬ nI 1 = nI 0 := by decide
  have e2 : ¬ ¬ nI 0 = nI 0 := by decide
  have hn := h.2.1.n32
  by_cases hx : q_ex sp (q_nt a) = true
  · obtain ⟨k, h1, h2, rfl, h3⟩ := q_ntx hx
    rw [if_pos hx]
    rw [h3] at hx hh ⊢
    rw [hx, Bool.toNat_true] at hh
    have hk := h.2.2.1 k h2
    have hw := q_wdle n k
    have hwp := q_wd_pos h.2.1 hx
    by_cases hs : sp k = true
    · rw [if_pos hs]
      have hz : ¬ nI (q_kd sp k) = nI 1 := fun z => by have := ((q_kd_1 h.2.1).mp z).2; rw [hs] at this; exact Bool.false_ne_true this.symm
      refine q_ZTl0 h ?_
      (conv => lhs; simp (disch := first | assumption | omega | (rw [nI_leI] <;> omega) | (rw [nI_ltI] <;> omega) | (rw [nI_eq] <;> omega) | (apply q_out <;> omega) | (apply q_nb; omega) | (apply q_n0 <;> omega)) only [M131, q_th_r, hh, q_th_2, hk, q_mFails, q_th_th, ↓if_pos, ↓if_neg, nI_add, q_sub, q_cl, p_bnd_s, p_bnd_v])
    · rw [if_neg hs]
      have hz : nI (q_kd sp k) = nI 1 := (q_kd_1 h.2.1).mpr ⟨hx, Bool.eq_false_iff.mpr hs⟩
      have hz2 : ¬ ¬ nI (q_kd sp k) = nI 1 := fun z => z hz
      have hp := q_in_pt hwp (show q_wd n k < 2 ^ 31 by omega) b
      by_cases hb : q_pt (q_wd n k) b < q_wd n k
      · rw [if_pos hb]
        have hd := decide_eq_true (hp.mpr hb)
        refine q_ZM0 h ?_
        have hb0 := hb
        rcases q_pt_c (m := q_wd n k) (by omega) b with ⟨h5, h6⟩ | ⟨j, h5, rfl, h6⟩
        · omega
        · rw [h6]
          have hr := h.2.2.2 k h2 hx (Bool.eq_false_iff.mpr hs) j h5
          (conv => lhs; simp (disch := first | assumption | omega | (rw [nI_leI] <;> omega) | (rw [nI_ltI] <;> omega) | (rw [nI_eq] <;> omega) | (apply q_out <;> omega) | (apply q_nb; omega) | (apply q_n0 <;> omega)) only [M131, q_th_r, hh, q_th_2, hk, q_sizeAt h.th.1, q_mIn, hd, Bool.toNat_true, pk_mul, hr, ↓if_pos, ↓if_neg, nI_add, q_sub, q_cl, p_bnd_s, p_bnd_v])
      · rw [if_neg hb]
        have hd := decide_eq_false (fun z => hb (hp.mp z))
        refine q_ZTl0 h ?_
        (conv => lhs; simp (disch := first | assumption | omega | (rw [nI_leI] <;> omega) | (rw [nI_ltI] <;> omega) | (rw [nI_eq] <;> omega) | (apply q_out <;> omega) | (apply q_nb; omega) | (apply q_n0 <;> omega)) only [M131, q_th_r, hh, q_th_2, hk, q_sizeAt h.th.1, q_mIn, hd, Bool.toNat_false, q_mFails, q_th_th, ↓if_pos, ↓if_neg, nI_add, q_sub, q_cl, p_bnd_s, p_bnd_v])
  · rw [if_neg hx]
    rw [Bool.eq_false_iff.mpr hx, Bool.toNat_false] at hh
    refine q_ZTl0 h ?_
    (conv => lhs; simp (disch := first | assumption | omega | (rw [nI_leI] <;> omega) | (rw [nI_ltI] <;> omega) | (rw [nI_eq] <;> omega) | (apply q_out <;> omega) | (apply q_nb; omega) | (apply q_n0 <;> omega)) only [M131, q_th_r, hh, q_mFails, q_th_th, ↓if_pos, ↓if_neg, nI_add, q_sub, q_cl, p_bnd_s, p_bnd_v])
theorem q_mPyr_l (hk : q_Mk sp w) : ∀ (d i : Nat) (b : Bool), i + 2 * d = 17 → p_ev none 140 4 [.ref 24, .int (nI b.toNat), .int (nI i)] [] w = some (.inl (some (.int (nI (b && (List.range d).all (fun j => !(sp (i + 2 * j)))).toNat))), w, 0) := by
  intro d
  induction d with
  | zero =>
    intro i b hi
    have hb := Bool.toNat_lt b
    have e : i = 17 := by omega
    subst e
    rw [H140_4]
    (conv => lhs; simp (disch := first | assumption | omega | (rw [nI_leI] <;> omega) | (rw [nI_ltI] <;> omega) | (rw [nI_eq] <;> omega) | (apply q_out <;> omega) | (apply q_nb; omega) | (apply q_n0 <;> omega)) only [M140, ↓if_pos, ↓if_neg, nI_add, q_sub, q_cl, p_bnd_s, p_bnd_v])
    simp
  | succ d ih =>
    intro i b hi
    have hki := hk i (by omega)
    have e : (List.range (d + 1)).all (fun j => !(sp (i + 2 * j))) = (!(sp i) && (List.range d).all (fun j => !(sp (i + 2 + 2 * j)))) := by
      rw [List.range_succ_eq_map, List.all_cons, List.all_map]
      refine congr (congrArg and (by rfl)) ?_
      congr 1
      funext j
      simp only [Function.comp, Nat.succ_eq_add_one]
      rw [show i + 2 * (j + 1) = i + 2 + 2 * j by omega]
    rw [e, H140_4]
    cases hs : sp i
    · have hz : ¬ nI (q_kd sp i) = nI 2 := fun z => by have := q_kd_2.mp z; rw [hs] at this; exact Bool.false_ne_true this
      have i1 := ih (i + 2) b (by omega)
      have ea : nI b.toNat &&& nI 1 = nI b.toNat := by cases b <;> decide
      (conv => lhs; simp (disch := first | assumption | omega | (rw [nI_leI] <;> omega) | (rw [nI_ltI] <;> omega) | (rw [nI_eq] <;> omega) | (apply q_out <;> omega) | (apply q_nb; omega) | (apply q_n0 <;> omega)) only [M140, hki, ea, ↓if_pos, ↓if_neg, nI_add, q_sub, q_cl, p_bnd_s, p_bnd_v])
      rw [i1]; simp
    · have hz : nI (q_kd sp i) = nI 2 := q_kd_2.mpr hs
      have i1 := ih (i + 2) false (by omega)
      have ea : nI b.toNat &&& nI 0 = nI 0 := by cases b <;> decide
      (conv => lhs; simp (disch := first | assumption | omega | (rw [nI_leI] <;> omega) | (rw [nI_ltI] <;> omega) | (rw [nI_eq] <;> omega) | (apply q_out <;> omega) | (apply q_nb; omega) | (apply q_n0 <;> omega)) only [M140, hki, ea, ↓if_pos, ↓if_neg, nI_add, q_sub, q_cl, p_bnd_s, p_bnd_v])
      rw [show nI 0 = nI (false.toNat) from rfl, i1]; simp
theorem q_mPyr0 (h : q_R n wv sp x w) : p_ev none 140 0 [.ref 24, p_U, p_U] [] w = some (.inl (some (.int (nI (q_py sp).toNat))), w, 0) := by
  have hl := q_mPyr_l h.2.2.1 7 3 true rfl
  have e : (true && (List.range 7).all (fun j => !(sp (3 + 2 * j)))) = q_py sp := by
    have h8 := h.2.1.2.2.1
    have : (List.range 7).all (fun j => !(sp (3 + 2 * j))) = (!(sp 3) && (!(sp 5) && (!(sp 7) && (!(sp 9) && (!(sp 11) && (!(sp 13) && (!(sp 15) && true))))))) := rfl
    rw [this, h8 9 (by omega), h8 11 (by omega), h8 13 (by omega), h8 15 (by omega)]
    unfold q_py
    cases sp 3 <;> cases sp 5 <;> cases sp 7 <;> rfl
  rw [e] at hl
  (conv => lhs; simp (disch := first | assumption | omega | (rw [nI_leI] <;> omega) | (rw [nI_ltI] <;> omega) | (rw [nI_eq] <;> omega) | (apply q_out <;> omega) | (apply q_nb; omega) | (apply q_n0 <;> omega)) only [M140, ↓if_pos, ↓if_neg, nI_add, q_sub, q_cl, p_bnd_s, p_bnd_v])
  exact hl
theorem q_mIsPyr (h : q_R n wv sp x w) : q_ZM w n wv sp x (p_ev none 141 0 [.ref 24] [] w) (.int (nI (q_py sp).toNat)) 0 := by
  refine q_ZM0 h ?_
  have hb := Bool.toNat_lt (q_py sp)
  (conv => lhs; simp (disch := first | assumption | omega | (rw [nI_leI] <;> omega) | (rw [nI_ltI] <;> omega) | (rw [nI_eq] <;> omega) | (apply q_out <;> omega) | (apply q_nb; omega) | (apply q_n0 <;> omega)) only [M141, q_th_r, q_mPyr0 h.th, ↓if_pos, ↓if_neg, nI_add, q_sub, q_cl, p_bnd_s, p_bnd_v])
end Ma
