/-! THE REFERENCE: ITS STATE, AND WHAT ITS SMALL METHODS ANSWER -/
/-- the kind of a node -/
def q_kd (sp : Nat → Bool) (i : Nat) : Nat := if sp i = true then 2 else if q_ex sp i = true then 1 else 0
def q_Mk (sp : Nat → Bool) (w : pW) : Prop := ∀ i, i < 16 → w.2.2 25 i = nI (q_kd sp i)
/-- the leaves' numbers, held in rows of 32, are those of the row x -/
def q_RR (n : Nat) (sp : Nat → Bool) (A x : Nat → Int64) : Prop := ∀ i, i < 16 → q_ex sp i = true → sp i = false → ∀ k, k < q_wd n i → A (32 * i + k) = x (q_so n i + k)
/-- the reference's state -/
def q_R (n wv : Nat) (sp : Nat → Bool) (x : Nat → Int64) (w : pW) : Prop := q_Mw n wv w ∧ q_T n sp ∧ q_Mk sp w ∧ q_RR n sp (w.2.1 26) x
/-- what a call of the reference leaves alone -/
def q_FM (w w' : pW) : Prop := (∀ o, o < 24 → w'.1 o = w.1 o) ∧ (∀ a, a < 24 → w'.2.1 a = w.2.1 a) ∧ ∀ a, a < 24 → w'.2.2 a = w.2.2 a
theorem q_FM.rf {w : pW} : q_FM w w := ⟨fun _ _ => rfl, fun _ _ => rfl, fun _ _ => rfl⟩
theorem q_FM.tr {a b c : pW} (h : q_FM a b) (g : q_FM b c) : q_FM a c := ⟨fun o ho => (g.1 o ho).trans (h.1 o ho), fun o ho => (g.2.1 o ho).trans (h.2.1 o ho), fun o ho => (g.2.2 o ho).trans (h.2.2 o ho)⟩
/-- thrown becomes k -/
def q_th (k : Int32) (w : pW) : pW := (p_u w.1 24 4 k, w.2)
theorem q_th_r {k : Int32} {w : pW} : (p_u w.1 24 4 k, w.2) = q_th k w := rfl
theorem q_th_2 {k : Int32} {w : pW} : (q_th k w).2 = w.2 := rfl
theorem q_th_f {k : Int32} {w : pW} {o j : Nat} (h : ¬ (o = 24 ∧ j = 4)) : (q_th k w).1 o j = w.1 o j := if_neg h
theorem q_th_4 {k : Int32} {w : pW} : (q_th k w).1 24 4 = k := rfl
theorem q_th_23 {k : Int32} {w : pW} : (q_th k w).1 24 2 = w.1 24 2 ∧ (q_th k w).1 24 3 = w.1 24 3 := ⟨rfl, rfl⟩
theorem q_th_th {j k : Int32} {w : pW} : q_th k (q_th j w) = q_th k w := by
  unfold q_th p_u
  refine congrArg (fun z => (z, w.2)) ?_
  funext a b
  dsimp only
  by_cases h : a = 24 ∧ b = 4
  · rw [if_pos h, if_pos h]
  · rw [if_neg h, if_neg h, if_neg h]
theorem q_th_FM {k : Int32} {w : pW} : q_FM w (q_th k w) := ⟨fun o ho => funext fun j => q_th_f (fun z => by omega), fun _ _ => rfl, fun _ _ => rfl⟩
section Mb
variable {n wv : Nat} {sp : Nat → Bool} {x : Nat → Int64} {w : pW}
theorem q_R.th (h : q_R n wv sp x w) {k : Int32} : q_R n wv sp x (q_th k w) := ⟨⟨h.1.1, h.1.2.1, h.1.2.2.1, h.1.2.2.2⟩, h.2.1, h.2.2.1, h.2.2.2⟩
/-- the reference answers v, thrown is t -/
def q_ZM (w : pW) (n wv : Nat) (sp : Nat → Bool) (x : Nat → Int64) (e : Option pR) (v : Value) (t : Nat) : Prop := ∃ w', e = some (.inl (some v), w', 0) ∧ q_R n wv sp x w' ∧ w'.1 24 4 = nI t ∧ q_FM w w'
theorem q_ZM0 (h : q_R n wv sp x w) {e : Option pR} {v : Value} {t : Nat} (he : e = some (.inl (some v), q_th (nI t) w, 0)) : q_ZM w n wv sp x e v t := ⟨_, he, h.th, q_th_4, q_th_FM⟩
theorem q_ZM1 (h : q_R n wv sp x w) {e : Option pR} {v : Value} (he : e = some (.inl (some v), q_th 0 w, 0)) : q_ZM w n wv sp x e v 0 := ⟨_, he, h.th, q_th_4, q_th_FM⟩
theorem q_mFails {k : Int32} : p_ev none 96 0 [.ref 24, .int k] [] w = some (.inl (some (.int (nI 0))), q_th k w, 0) := by
  (conv => lhs; simp (disch := first | assumption | omega | (rw [nI_leI] <;> omega) | (rw [nI_ltI] <;> omega) | (rw [nI_eq] <;> omega) | (apply q_out <;> omega) | (apply q_nb; omega) | (apply q_n0 <;> omega)) only [M96, q_th_r, ↓if_pos, ↓if_neg, nI_add, q_sub, q_cl, p_bnd_s, p_bnd_v])
theorem q_mIn {v a b : Int32} : p_ev none 97 0 [.int v, .int a, .int b] [] w = some (.inl (some (.int (nI (decide (a ≤ v ∧ v ≤ b)).toNat))), w, 0) := by
  by_cases h1 : v < a
  · rw [decide_eq_false (fun z => absurd h1 (Int32.not_lt.mpr z.1))]
    (conv => lhs; simp (disch := first | assumption | omega | (rw [nI_leI] <;> omega) | (rw [nI_ltI] <;> omega) | (rw [nI_eq] <;> omega) | (apply q_out <;> omega) | (apply q_nb; omega) | (apply q_n0 <;> omega)) only [M97, ↓if_pos, ↓if_neg, nI_add, q_sub, q_cl, p_bnd_s, p_bnd_v]); rfl
  · by_cases h2 : b < v
    · rw [decide_eq_false (fun z => absurd h2 (Int32.not_lt.mpr z.2))]
      (conv => lhs; simp (disch := first | assumption | omega | (rw [nI_leI] <;> omega) | (rw [nI_ltI] <;> omega) | (rw [nI_eq] <;> omega) | (apply q_out <;> omega) | (apply q_nb; omega) | (apply q_n0 <;> omega)) only [M97, ↓if_pos, ↓if_neg, nI_add, q_sub, q_cl, p_bnd_s, p_bnd_v]); rfl
    · rw [decide_eq_true ⟨Int32.not_lt.mp h1, Int32.not_lt.mp h2⟩]
      (conv => lhs; simp (disch := first | assumption | omega | (rw [nI_leI] <;> omega) | (rw [nI_ltI] <;> omega) | (rw [nI_eq] <;> omega) | (apply q_out <;> omega) | (apply q_nb; omega) | (apply q_n0 <;> omega)) only [M97, ↓if_pos, ↓if_neg, nI_add, q_sub, q_cl, p_bnd_s, p_bnd_v]); rfl
theorem q_inN {a b v : Nat} (ha : a < 2 ^ 31) (hb : b < 2 ^ 31) (hv : v < 2 ^ 31) : (nI a ≤ nI v ∧ nI v ≤ nI b) ↔ (a ≤ v ∧ v ≤ b) := by
  rw [nI_leI ha hv, nI_leI hv hb]
/-- a place in 0 to m - 1 -/
theorem q_in_pt {m : Nat} (h0 : 1 ≤ m) (hm : m < 2 ^ 31) (v : Int32) : (nI 0 ≤ v ∧ v ≤ nI (m - 1)) ↔ q_pt m v < m := by
  rcases q_pt_c hm v with ⟨h1, h2⟩ | ⟨k, h1, rfl, h2⟩
  · rw [h1]
    refine ⟨fun z => ?_, fun z => absurd z (Nat.lt_irrefl m)⟩
    rcases h2 with h2 | ⟨h2, h3⟩
    · exact absurd h2 (Int32.not_lt.mpr z.1)
    · exfalso
      obtain ⟨j, j1, rfl⟩ := nI_of (x := v) h2
      have := (nI_leI j1 (by omega)).mp z.2
      rw [nI_ltI j1 hm] at h3
      omega
  · rw [h2, q_inN (by omega) (by omega) (by omega)]
    omega
theorem q_kd_2 {i : Nat} : nI (q_kd sp i) = nI 2 ↔ sp i = true := by
  unfold q_kd
  by_cases h : sp i = true
  · rw [if_pos h]; exact ⟨fun _ => h, fun _ => rfl⟩
  · rw [if_neg h]
    refine ⟨fun z => ?_, fun z => absurd z h⟩
    split at z
    · exact absurd z (by decide)
    · exact absurd z (by decide)
theorem q_T.ex (hT : q_T n sp) {i : Nat} (h1 : 1 ≤ i) (h : sp i = true) : q_ex sp i = true := by
  have h8 : i < 8 := by
    rcases Nat.lt_or_ge i 8 with z | z
    · exact z
    · rw [hT.2.2.1 i z] at h; exact absurd h Bool.false_ne_true
  unfold q_ex
  by_cases hi : i = 1
  · simp [hi]
  · have := hT.2.2.2.1 i (by omega) h8 h
    simp [this]; omega
theorem q_T.sp1 (hT : q_T n sp) {i : Nat} (h : sp i = true) : 1 ≤ i ∧ i < 8 := by
  refine ⟨?_, ?_⟩
  · rcases Nat.eq_zero_or_pos i with z | z
    · rw [z, hT.2.1] at h; exact absurd h Bool.false_ne_true
    · exact z
  · rcases Nat.lt_or_ge i 8 with z | z
    · exact z
    · rw [hT.2.2.1 i z] at h; exact absurd h Bool.false_ne_true
theorem q_kd_1 (hT : q_T n sp) {i : Nat} : nI (q_kd sp i) = nI 1 ↔ (q_ex sp i = true ∧ sp i = false) := by
  unfold q_kd
  by_cases h : sp i = true
  · rw [if_pos h]; exact ⟨fun z => absurd z (by decide), fun z => by rw [h] at z; exact absurd z.2.symm Bool.false_ne_true⟩
  · rw [if_neg h]
    by_cases h2 : q_ex sp i = true
    · rw [if_pos h2]; exact ⟨fun _ => ⟨h2, Bool.eq_false_iff.mpr h⟩, fun _ => rfl⟩
    · rw [if_neg h2]; exact ⟨fun z => absurd z (by decide), fun z => absurd z.1 h2⟩
theorem q_kd_0 (hT : q_T n sp) {i : Nat} : nI (q_kd sp i) = nI 0 ↔ ¬ q_ex sp i = true := by
  unfold q_kd
  by_cases h : sp i = true
  · rw [if_pos h]; exact ⟨fun z => absurd z (by decide), fun z => absurd (hT.ex (hT.sp1 h).1 h) z⟩
  · rw [if_neg h]
    by_cases h2 : q_ex sp i = true
    · rw [if_pos h2]; exact ⟨fun z => absurd z (by decide), fun z => absurd h2 z⟩
    · rw [if_neg h2]; exact ⟨fun _ => h2, fun _ => rfl⟩
theorem q_mHas (hk : q_Mk sp w) (hT : q_T n sp) (a : Int32) : p_ev none 102 0 [.ref 24, .int a] [] w = some (.inl (some (.int (nI (q_ex sp (q_nt a)).toNat))), w, 0) := by
  rcases q_nt_c a with ⟨h1, h2⟩ | ⟨k, h1, h2, rfl, h3⟩
  · rw [h1]
    have hf : ¬ (nI 1 ≤ a ∧ a ≤ nI 15) := by
      intro z
      rcases h2 with h2 | h2
      · exact absurd h2 (Int32.not_lt.mpr z.1)
      · exact absurd (Int32.le_trans h2 z.2) (by decide)
    have hd := decide_eq_false hf
    (conv => lhs; simp (disch := first | assumption | omega | (rw [nI_leI] <;> omega) | (rw [nI_ltI] <;> omega) | (rw [nI_eq] <;> omega) | (apply q_out <;> omega) | (apply q_nb; omega) | (apply q_n0 <;> omega)) only [M102, q_mIn, hd, Bool.toNat_false, ↓if_pos, ↓if_neg, nI_add, q_sub, q_cl, p_bnd_s, p_bnd_v])
    rfl
  · rw [h3]
    have hf : nI 1 ≤ nI k ∧ nI k ≤ nI 15 := (q_inN (by omega) (by omega) (by omega)).mpr ⟨h1, by omega⟩
    have hd := decide_eq_true hf
    have e : ¬ nI 1 = nI 0 := by decide
    cases hx : q_ex sp k
    · have hz : nI (q_kd sp k) = nI 0 := (q_kd_0 hT).mpr (by rw [hx]; exact Bool.false_ne_true)
      (conv => lhs; simp (disch := first | assumption | omega | (rw [nI_leI] <;> omega) | (rw [nI_ltI] <;> omega) | (rw [nI_eq] <;> omega) | (apply q_out <;> omega) | (apply q_nb; omega) | (apply q_n0 <;> omega)) only [M102, q_mIn, hd, Bool.toNat_true, hk k, hz, ↓if_pos, ↓if_neg, nI_add, q_sub, q_cl, p_bnd_s, p_bnd_v])
      rfl
    · have hz : ¬ nI (q_kd sp k) = nI 0 := fun z => absurd hx ((q_kd_0 hT).mp z)
      (conv => lhs; simp (disch := first | assumption | omega | (rw [nI_leI] <;> omega) | (rw [nI_ltI] <;> omega) | (rw [nI_eq] <;> omega) | (apply q_out <;> omega) | (apply q_nb; omega) | (apply q_n0 <;> omega)) only [M102, q_mIn, hd, Bool.toNat_true, hk k, ↓if_pos, ↓if_neg, nI_add, q_sub, q_cl, p_bnd_s, p_bnd_v])
      rfl
theorem q_mSize {v : Int64} : p_ev none 98 0 [.long v, p_U] [] w = some (.inl (some (.long (p_abs v))), w, 0) := by
  by_cases h : v < lN 0
  · have h1 : ¬ nI 0 ≤ lg_cmp v (lN 0) := fun z => absurd h (Int64.not_lt.mpr (q_cmpG.mp z))
    (conv => lhs; simp (disch := first | assumption | omega | (rw [nI_leI] <;> omega) | (rw [nI_ltI] <;> omega) | (rw [nI_eq] <;> omega) | (apply q_out <;> omega) | (apply q_nb; omega) | (apply q_n0 <;> omega)) only [M98, ↓if_pos, ↓if_neg, nI_add, q_sub, q_cl, p_bnd_s, p_bnd_v])
    unfold p_abs
    have h2 : ¬ (0 : Int64) < v := fun z => absurd (Int64.lt_trans z h) (Int64.lt_irrefl)
    rw [if_neg h2]
  · have h1 : nI 0 ≤ lg_cmp v (lN 0) := q_cmpG.mpr (Int64.not_lt.mp h)
    (conv => lhs; simp (disch := first | assumption | omega | (rw [nI_leI] <;> omega) | (rw [nI_ltI] <;> omega) | (rw [nI_eq] <;> omega) | (apply q_out <;> omega) | (apply q_nb; omega) | (apply q_n0 <;> omega)) only [M98, ↓if_pos, ↓if_neg, nI_add, q_sub, q_cl, p_bnd_s, p_bnd_v])
    unfold p_abs
    by_cases h0 : 0 < v
    · rw [if_pos h0]
    · have : v = 0 := Int64.le_antisymm (Int64.not_lt.mp h0) (Int64.not_lt.mp h)
      rw [if_neg h0, this]; rfl
theorem q_shN {a k : Nat} (ha : a < 2 ^ 63) (hk : k < 63) : q_sh (lN a) k = lN (a / 2 ^ k) := by
  apply Int64.toInt_inj.mp
  have hd : a / 2 ^ k ≤ a := Nat.div_le_self _ _
  rw [q_shI hk, pk_lT ha, pk_lT (by omega)]
  exact (Int.natCast_ediv a (2 ^ k)).symm ▸ by simp
/-- no number whose size is no number -/
def q_nm (v : Int64) : Prop := ¬ p_abs v < 0
theorem q_nm_of {v : Int64} (h : q_nm v) : ∃ a, a < 2 ^ 63 ∧ p_abs v = lN a := pk_lOf h
theorem q_digits_m {a : Nat} (ha : a < 2 ^ 63) {v : Int64} : ∀ (r d : Nat), d + r = 63 → p_ev none 100 7 [.long v, p_U, .int (nI d), .long (lN (a / 2 ^ d)), p_U] [] w = some (.inl (some (.int (nI (q_dgl (lN a) r d)))), w, 0) := by
  intro r
  induction r with
  | zero =>
    intro d hd
    have e : d = 63 := by omega
    have ez : a / 2 ^ d = 0 := by rw [e]; exact Nat.div_eq_of_lt ha
    rw [ez, H100_7]
    have h1 : lg_cmp (lN 0) (lN 0) ≤ nI 0 := by decide
    (conv => lhs; simp (disch := first | assumption | omega | (rw [nI_leI] <;> omega) | (rw [nI_ltI] <;> omega) | (rw [nI_eq] <;> omega) | (apply q_out <;> omega) | (apply q_nb; omega) | (apply q_n0 <;> omega)) only [M100, ↓if_pos, ↓if_neg, nI_add, q_sub, q_cl, p_bnd_s, p_bnd_v])
    rfl
  | succ r ih =>
    intro d hd
    have hdv : a / 2 ^ d ≤ a := Nat.div_le_self _ _
    rw [H100_7, q_dgl]
    by_cases hz : a / 2 ^ d = 0
    · have h1 : lg_cmp (lN 0) (lN 0) ≤ nI 0 := by decide
      rw [if_pos (by rw [q_shN ha (by omega), hz]), hz]
      (conv => lhs; simp (disch := first | assumption | omega | (rw [nI_leI] <;> omega) | (rw [nI_ltI] <;> omega) | (rw [nI_eq] <;> omega) | (apply q_out <;> omega) | (apply q_nb; omega) | (apply q_n0 <;> omega)) only [M100, ↓if_pos, ↓if_neg, nI_add, q_sub, q_cl, p_bnd_s, p_bnd_v])
    · have h1 : ¬ lg_cmp (lN (a / 2 ^ d)) (lN 0) ≤ nI 0 := fun z => by
        exact hz (Nat.le_zero.mp ((pk_lLE (by omega) (by omega)).mp (q_cmpE.mp z)))
      have h2 : ¬ q_sh (lN a) d = lN 0 := fun z => by
        rw [q_shN ha (by omega)] at z
        exact hz ((pk_lEQ (by omega) (by omega)).mp z)
      have hdiv : lN (a / 2 ^ d) / lN 2 = lN (a / 2 ^ (d + 1)) := by
        rw [pk_lDiv (by omega) (by omega) (by omega), Nat.div_div_eq_div_mul, Nat.pow_succ]
      have hne : ¬ lN 2 = 0 := by decide
      rw [if_neg h2]
      (conv => lhs; simp (disch := first | assumption | omega | (rw [nI_leI] <;> omega) | (rw [nI_ltI] <;> omega) | (rw [nI_eq] <;> omega) | (apply q_out <;> omega) | (apply q_nb; omega) | (apply q_n0 <;> omega)) only [M100, hdiv, ih, ↓if_pos, ↓if_neg, nI_add, q_sub, q_cl, p_bnd_s, p_bnd_v])
theorem q_mDigits {v : Int64} (h : q_nm v) : p_ev none 100 0 [.long v, p_U, p_U, p_U, p_U] [] w = some (.inl (some (.int (nI (q_dg (p_abs v))))), w, 0) := by
  obtain ⟨a, ha, he⟩ := q_nm_of h
  have h0 := q_digits_m (w := w) ha (v := v) 63 0 rfl
  rw [Nat.pow_zero, Nat.div_one, ← he] at h0
  (conv => lhs; simp (disch := first | assumption | omega | (rw [nI_leI] <;> omega) | (rw [nI_ltI] <;> omega) | (rw [nI_eq] <;> omega) | (apply q_out <;> omega) | (apply q_nb; omega) | (apply q_n0 <;> omega)) only [M100, q_mSize, h0, ↓if_pos, ↓if_neg, nI_add, q_sub, q_cl, p_bnd_s, p_bnd_v])
  rfl
end Mb
