/-! THE REFERENCE: COSTS -/
theorem q_cs_cg {x y : Nat → Int64} {s t : Nat} : ∀ m, (∀ j, j < m → x (s + j) = y (t + j)) → q_cs x s m = q_cs y t m
  | 0, _ => rfl
  | m + 1, h => by rw [q_cs, q_cs, q_cs_cg m (fun j hj => h j (by omega)), h m (by omega)]
theorem q_cs_add {x : Nat → Int64} {s m : Nat} : ∀ k, q_cs x s (m + k) = q_cs x s m + q_cs x (s + m) k
  | 0 => rfl
  | k + 1 => by rw [show m + (k + 1) = (m + k) + 1 by omega, q_cs, q_cs, q_cs_add k, show s + (m + k) = s + m + k by omega]; omega
/-- the cost of the leaves among the nodes below m that are below node t -/
def q_sm (sp : Nat → Bool) (F : Nat → Nat) (t : Nat) : Nat → Nat
  | 0 => 0
  | m + 1 => q_sm sp F t m + (if (q_ex sp m && !(sp m) && q_in m t) = true then F m else 0)
theorem q_sm_low {sp : Nat → Bool} {F : Nat → Nat} {t : Nat} (ht : t < 16) : ∀ m, m ≤ t → q_sm sp F t m = 0
  | 0, _ => rfl
  | m + 1, h => by
    rw [q_sm, q_sm_low ht m (by omega)]
    have : q_in m t = false := by
      cases hh : q_in m t
      · rfl
      · have := q_in_le m (by omega) t ht hh; omega
    rw [this, Bool.and_false, if_neg Bool.false_ne_true]
def q_s1m (sp : Nat → Bool) (F : Nat → Nat) (t : Nat) : Nat → Nat
  | 0 => 0
  | m + 1 => q_s1m sp F t m + (if (q_ex sp m && !(sp m) && decide (m = t)) = true then F m else 0)
theorem q_s1m_v {sp : Nat → Bool} {F : Nat → Nat} {t : Nat} : ∀ m, q_s1m sp F t m = if t < m ∧ (q_ex sp t && !(sp t)) = true then F t else 0
  | 0 => by rw [if_neg (by omega)]; rfl
  | m + 1 => by
    rw [q_s1m, q_s1m_v m]
    by_cases h : m = t
    · subst h
      rw [if_neg (by omega), decide_eq_true rfl, Bool.and_true, Nat.zero_add]
      by_cases h2 : (q_ex sp m && !(sp m)) = true
      · rw [if_pos h2, if_pos ⟨by omega, h2⟩]
      · rw [if_neg h2, if_neg (fun z => h2 z.2)]
    · rw [decide_eq_false h, Bool.and_false, if_neg Bool.false_ne_true, Nat.add_zero]
      by_cases h2 : t < m ∧ (q_ex sp t && !(sp t)) = true
      · rw [if_pos h2, if_pos ⟨by omega, h2.2⟩]
      · rw [if_neg h2, if_neg (fun z => h2 ⟨by omega, z.2⟩)]
theorem q_in_kids : ∀ i, i < 16 → ∀ t, t < 8 → 1 ≤ t → (q_in i t = (decide (i = t) || q_in i (2 * t) || q_in i (2 * t + 1))) ∧ (decide (i = t) = true → q_in i (2 * t) = false ∧ q_in i (2 * t + 1) = false) ∧ (q_in i (2 * t) = true → q_in i (2 * t + 1) = false) ∧ (q_in i (2 * t) = true ∨ q_in i (2 * t + 1) = true → (2 ≤ i ∧ i / 2 = t) ∨ (4 ≤ i ∧ i / 4 = t) ∨ (8 ≤ i ∧ i / 8 = t)) := by
  have key : ∀ i : Fin 16, ∀ t : Fin 8, t.val = 0 ∨ ((q_in i.val t.val = (decide (i.val = t.val) || q_in i.val (2 * t.val) || q_in i.val (2 * t.val + 1))) ∧ (decide (i.val = t.val) = true → q_in i.val (2 * t.val) = false ∧ q_in i.val (2 * t.val + 1) = false) ∧ (q_in i.val (2 * t.val) = true → q_in i.val (2 * t.val + 1) = false) ∧ (q_in i.val (2 * t.val) = true ∨ q_in i.val (2 * t.val + 1) = true → (2 ≤ i.val ∧ i.val / 2 = t.val) ∨ (4 ≤ i.val ∧ i.val / 4 = t.val) ∨ (8 ≤ i.val ∧ i.val / 8 = t.val))) := by decide +kernel
  intro i hi t ht h1
  rcases key ⟨i, hi⟩ ⟨t, ht⟩ with z | z
  · exact absurd z (by dsimp only; omega)
  · exact z
theorem q_sm_kids {sp : Nat → Bool} {F : Nat → Nat} {t : Nat} (ht : t < 8) (h1 : 1 ≤ t) : ∀ m, m ≤ 16 → q_sm sp F t m = q_s1m sp F t m + (q_sm sp F (2 * t) m + q_sm sp F (2 * t + 1) m)
  | 0, _ => rfl
  | m + 1, hm => by
    have hk := q_in_kids m (by omega) t ht h1
    rw [q_sm, q_sm, q_sm, q_s1m, q_sm_kids ht h1 m (by omega), hk.1]
    cases hl : (q_ex sp m && !(sp m))
    · simp
    · simp only [Bool.true_and]
      cases ha : decide (m = t)
      · cases hb : q_in m (2 * t)
        · cases hc : q_in m (2 * t + 1)
          · simp
          · simp; omega
        · rw [hk.2.2.1 hb]; simp; omega
      · rw [(hk.2.1 ha).1, (hk.2.1 ha).2]; simp; omega
theorem q_sm_none {sp : Nat → Bool} {F : Nat → Nat} {n t : Nat} (hT : q_T n sp) (ht : t < 8) (h1 : 1 ≤ t) (hs : sp t = false) : ∀ m, m ≤ 16 → q_sm sp F (2 * t) m = 0 ∧ q_sm sp F (2 * t + 1) m = 0
  | 0, _ => ⟨rfl, rfl⟩
  | m + 1, hm => by
    have i1 := q_sm_none (F := F) hT ht h1 hs m (by omega)
    have hk := q_in_kids m (by omega) t ht h1
    have key : q_in m (2 * t) = true ∨ q_in m (2 * t + 1) = true → q_ex sp m = false := by
      intro z
      cases hx : q_ex sp m
      · rfl
      · exfalso
        have ha := hT.anc hx
        rcases hk.2.2.2 z with y | y | y
        · have := ha.1 y.1; rw [y.2, hs] at this; exact Bool.false_ne_true this
        · have := ha.2.1 y.1; rw [y.2, hs] at this; exact Bool.false_ne_true this
        · have := ha.2.2 y.1; rw [y.2, hs] at this; exact Bool.false_ne_true this
    rw [q_sm, q_sm, i1.1, i1.2]
    refine ⟨?_, ?_⟩
    · by_cases hz : (q_ex sp m && !(sp m) && q_in m (2 * t)) = true
      · rw [Bool.and_eq_true] at hz
        rw [key (Or.inl hz.2)] at hz; exact absurd hz.1 (by simp)
      · rw [if_neg hz]
    · by_cases hz : (q_ex sp m && !(sp m) && q_in m (2 * t + 1)) = true
      · rw [Bool.and_eq_true] at hz
        rw [key (Or.inr hz.2)] at hz; exact absurd hz.1 (by simp)
      · rw [if_neg hz]
/-- the leaves below a node have the whole stretch -/
theorem q_sm_cs {sp : Nat → Bool} {n : Nat} {x : Nat → Int64} (hT : q_T n sp) : ∀ (f t : Nat), t * 2 ^ f ≥ 8 → 1 ≤ t → t < 16 → q_ex sp t = true → q_sm sp (fun i => q_cs x (q_so n i) (q_wd n i)) t 16 = q_cs x (q_so n t) (q_wd n t) := by
  have top : ∀ t, t < 16 → 8 ≤ t → q_ex sp t = true → q_sm sp (fun i => q_cs x (q_so n i) (q_wd n i)) t 16 = q_cs x (q_so n t) (q_wd n t) := by
    intro t ht h8 hx
    have key : ∀ i t : Fin 16, t.val < 8 ∨ q_in i.val t.val = decide (i.val = t.val) := by decide +kernel
    have hin : ∀ m, m ≤ 16 → q_sm sp (fun i => q_cs x (q_so n i) (q_wd n i)) t m = q_s1m sp (fun i => q_cs x (q_so n i) (q_wd n i)) t m := by
      intro m
      induction m with
      | zero => intro _; rfl
      | succ m ihm =>
        intro hm
        rcases key ⟨m, by omega⟩ ⟨t, ht⟩ with z | z
        · exact absurd z (by dsimp only; omega)
        · dsimp only at z
          rw [q_sm, q_s1m, ihm (by omega), z]
    rw [hin 16 (Nat.le_refl _), q_s1m_v, if_pos ⟨ht, by rw [hx, hT.2.2.1 t h8]; rfl⟩]
  intro f
  induction f with
  | zero => intro t h1 h2 h3 hx; exact top t h3 (by omega) hx
  | succ f ih =>
    intro t h1 h2 h3 hx
    rcases Nat.lt_or_ge t 8 with h8 | h8
    · rw [q_sm_kids h8 h2 16 (Nat.le_refl _), q_s1m_v]
      cases hs : sp t
      · have hz := q_sm_none (F := fun i => q_cs x (q_so n i) (q_wd n i)) hT h8 h2 hs 16 (Nat.le_refl _)
        rw [hz.1, hz.2, if_pos ⟨by omega, by rw [hx]; rfl⟩, Nat.add_zero]
      · have hw := hT.2.2.2.2 t h2 h8 hs
        have hg := q_geo1 n hT.1 t h8 h2 hw
        have hp : 2 * t * 2 ^ f ≥ 8 := by rw [Nat.pow_succ] at h1; rw [Nat.mul_comm 2 t, Nat.mul_assoc, Nat.mul_comm 2]; exact h1
        have hp2 : (2 * t + 1) * 2 ^ f ≥ 8 := by rw [Nat.add_mul]; omega
        rw [ih (2 * t) hp (by omega) (by omega) (by rw [q_ex_kid (k := t) (by omega) (by omega) (by omega)]; exact hs), ih (2 * t + 1) hp2 (by omega) (by omega) (by rw [q_ex_kid (k := t) (by omega) (by omega) (by omega)]; exact hs)]
        rw [if_neg (by simp), hg.1, hg.2.1, hg.2.2.1, hg.2.2.2.1, Nat.zero_add]
        have := q_cs_add (x := x) (s := q_so n t) (m := q_wd n t / 2) (q_wd n t / 2)
        rw [← this, show q_wd n t / 2 + q_wd n t / 2 = q_wd n t by omega]
    · exact top t h3 h8 hx
section Mc
variable {n wv : Nat} {sp : Nat → Bool} {x : Nat → Int64} {w : pW}
/-- no number of the row is the least long -/
def q_ns (n : Nat) (x : Nat → Int64) : Prop := ∀ j, j < n → q_nm (x j)
theorem q_mCostIn_l {a k m : Nat} (ha : p_lg a) (hk : k < 16) (hm : m = q_wd n k) (hn : n ≤ 32) (hM : q_Mw n wv w) (hq : ∀ j, j < m → q_nm (w.2.1 a (32 * k + j))) : ∀ (d i : Nat), i + d = m → p_ev none 125 5 [.ref 24, .ref a, .int (nI k), .int (nI (q_cs (w.2.1 a) (32 * k) i)), .int (nI i)] [] w = some (.inl (some (.int (nI (q_cs (w.2.1 a) (32 * k) m)))), w, 0) := by
  have hw := q_wdle n k
  intro d
  induction d with
  | zero =>
    intro i hi
    have e : i = q_wd n k := by omega
    rw [H125_5 a ha, hm, e]
    (conv => lhs; simp (disch := first | assumption | omega | (rw [nI_leI] <;> omega) | (rw [nI_ltI] <;> omega) | (rw [nI_eq] <;> omega) | (apply q_out <;> omega) | (apply q_nb; omega) | (apply q_n0 <;> omega)) only [M125 a ha, q_sizeAt hM, ↓if_pos, ↓if_neg, nI_add, q_sub, q_cl, p_bnd_s, p_bnd_v])
  | succ d ih =>
    intro i hi
    have h1 := ih (i + 1) (by omega)
    rw [q_cs] at h1
    have hD := q_mDigits (w := w) (hq i (by omega))
    rw [H125_5 a ha]
    (conv => lhs; simp (disch := first | assumption | omega | (rw [nI_leI] <;> omega) | (rw [nI_ltI] <;> omega) | (rw [nI_eq] <;> omega) | (apply q_out <;> omega) | (apply q_nb; omega) | (apply q_n0 <;> omega)) only [M125 a ha, q_sizeAt hM, pk_mul, hD, ↓if_pos, ↓if_neg, nI_add, q_sub, q_cl, p_bnd_s, p_bnd_v])
    exact h1
theorem q_mCostIn {a k : Nat} (ha : p_lg a) (hk : k < 16) (hn : n ≤ 32) (hM : q_Mw n wv w) (hq : ∀ j, j < q_wd n k → q_nm (w.2.1 a (32 * k + j))) : p_ev none 125 0 [.ref 24, .ref a, .int (nI k), p_U, p_U] [] w = some (.inl (some (.int (nI (q_cs (w.2.1 a) (32 * k) (q_wd n k))))), w, 0) := by
  have h := q_mCostIn_l ha hk rfl hn hM hq (q_wd n k) 0 (by omega)
  (conv => lhs; simp (disch := first | assumption | omega | (rw [nI_leI] <;> omega) | (rw [nI_ltI] <;> omega) | (rw [nI_eq] <;> omega) | (apply q_out <;> omega) | (apply q_nb; omega) | (apply q_n0 <;> omega)) only [M125 a ha, ↓if_pos, ↓if_neg, nI_add, q_sub, q_cl, p_bnd_s, p_bnd_v])
  exact h
theorem q_mCostLeaf (h : q_R n wv sp x w) (hns : q_ns n x) {k : Nat} (hx : q_ex sp k = true) (hs : sp k = false) : p_ev none 125 0 [.ref 24, .ref 26, .int (nI k), p_U, p_U] [] w = some (.inl (some (.int (nI (q_cs x (q_so n k) (q_wd n k))))), w, 0) := by
  have hb := q_ex_b hx
  have hg := q_geo0 k hb.1 hb.2 n h.2.1.1
  have hr := h.2.2.2 k hb.2 hx hs
  have h26 : p_lg 26 := rfl
  rw [q_mCostIn h26 hb.2 h.2.1.n32 h.1 (fun j hj => by rw [hr j hj]; exact hns _ (by omega)), q_cs_cg _ hr]
theorem q_mCostBelow_l (h : q_R n wv sp x w) (hns : q_ns n x) {t : Nat} (h1 : 1 ≤ t) (h2 : t < 16) : ∀ (d i : Nat), i + d = 16 → p_ev none 126 4 [.ref 24, .int (nI t), .int (nI (q_sm sp (fun i => q_cs x (q_so n i) (q_wd n i)) t i)), .int (nI i)] [] w = some (.inl (some (.int (nI (q_sm sp (fun i => q_cs x (q_so n i) (q_wd n i)) t 16)))), w, 0) := by
  intro d
  induction d with
  | zero =>
    intro i hi
    have e : i = 16 := by omega
    subst e
    rw [H126_4]
    (conv => lhs; simp (disch := first | assumption | omega | (rw [nI_leI] <;> omega) | (rw [nI_ltI] <;> omega) | (rw [nI_eq] <;> omega) | (apply q_out <;> omega) | (apply q_nb; omega) | (apply q_n0 <;> omega)) only [M126, ↓if_pos, ↓if_neg, nI_add, q_sub, q_cl, p_bnd_s, p_bnd_v])
  | succ d ih =>
    intro i hi
    have i1 := ih (i + 1) (by omega)
    rw [q_sm] at i1
    have hk := h.2.2.1 i (by omega)
    have hB := q_mIsBelow (w := w) (show i < 16 by omega) h2 h1
    have e1 : ¬ nI 1 = nI 0 := by decide
    rw [H126_4]
    cases hl : (q_ex sp i && !(sp i))
    · have hz : ¬ nI (q_kd sp i) = nI 1 := fun z => by
        have := (q_kd_1 h.2.1).mp z
        rw [this.1, this.2] at hl; exact absurd hl (by decide)
      rw [hl, Bool.false_and, if_neg Bool.false_ne_true] at i1
      (conv => lhs; simp (disch := first | assumption | omega | (rw [nI_leI] <;> omega) | (rw [nI_ltI] <;> omega) | (rw [nI_eq] <;> omega) | (apply q_out <;> omega) | (apply q_nb; omega) | (apply q_n0 <;> omega)) only [M126, hk, ↓if_pos, ↓if_neg, nI_add, q_sub, q_cl, p_bnd_s, p_bnd_v])
      exact i1
    · rw [Bool.and_eq_true] at hl
      have hs : sp i = false := by have := hl.2; cases hs : sp i; rfl; rw [hs] at this; exact absurd this (by decide)
      have hz : nI (q_kd sp i) = nI 1 := (q_kd_1 h.2.1).mpr ⟨hl.1, hs⟩
      have hz2 : ¬ ¬ nI (q_kd sp i) = nI 1 := fun z => z hz
      rw [hl.1, hl.2, Bool.true_and, Bool.true_and] at i1
      have hC := q_mCostLeaf h hns hl.1 hs
      cases hin : q_in i t
      · rw [hin, Bool.toNat_false] at hB
        rw [hin, if_neg Bool.false_ne_true] at i1
        (conv => lhs; simp (disch := first | assumption | omega | (rw [nI_leI] <;> omega) | (rw [nI_ltI] <;> omega) | (rw [nI_eq] <;> omega) | (apply q_out <;> omega) | (apply q_nb; omega) | (apply q_n0 <;> omega)) only [M126, hk, hB, ↓if_pos, ↓if_neg, nI_add, q_sub, q_cl, p_bnd_s, p_bnd_v])
        exact i1
      · rw [hin, Bool.toNat_true] at hB
        rw [hin, if_pos rfl] at i1
        (conv => lhs; simp (disch := first | assumption | omega | (rw [nI_leI] <;> omega) | (rw [nI_ltI] <;> omega) | (rw [nI_eq] <;> omega) | (apply q_out <;> omega) | (apply q_nb; omega) | (apply q_n0 <;> omega)) only [M126, hk, hB, hC, ↓if_pos, ↓if_neg, nI_add, q_sub, q_cl, p_bnd_s, p_bnd_v])
        exact i1
theorem q_mCostBelow (h : q_R n wv sp x w) (hns : q_ns n x) {t : Nat} (hx : q_ex sp t = true) : p_ev none 126 0 [.ref 24, .int (nI t), p_U, p_U] [] w = some (.inl (some (.int (nI (q_cs x (q_so n t) (q_wd n t))))), w, 0) := by
  have hb := q_ex_b hx
  have hl := q_mCostBelow_l h hns hb.1 hb.2 (16 - t) t (by omega)
  rw [q_sm_low hb.2 t (Nat.le_refl _), q_sm_cs h.2.1 3 t (by omega) hb.1 hb.2 hx] at hl
  (conv => lhs; simp (disch := first | assumption | omega | (rw [nI_leI] <;> omega) | (rw [nI_ltI] <;> omega) | (rw [nI_eq] <;> omega) | (apply q_out <;> omega) | (apply q_nb; omega) | (apply q_n0 <;> omega)) only [M126, ↓if_pos, ↓if_neg, nI_add, q_sub, q_cl, p_bnd_s, p_bnd_v])
  exact hl
theorem q_R.ns_th (hns : q_ns n x) : q_ns n x := hns
theorem q_mCostOf (h : q_R n wv sp x w) (hns : q_ns n x) (a : Int32) : if q_ex sp (q_nt a) = true then q_ZM w n wv sp x (p_ev none 127 0 [.ref 24, .int a] [] w) (.int (nI (q_cs x (q_so n (q_nt a)) (q_wd n (q_nt a))))) 0 else q_ZTi w n wv sp x (p_ev none 127 0 [.ref 24, .int a] [] w) 1 := by
  have hh := q_mHas (w := q_th (nI 0) w) h.th.2.2.1 h.2.1 a
  have e1 : ¬ nI 1 = nI 0 := by decide
  by_cases hx : q_ex sp (q_nt a) = true
  · obtain ⟨k, h1, h2, rfl, h3⟩ := q_ntx hx
    rw [if_pos hx]
    rw [h3] at hx hh ⊢
    rw [hx, Bool.toNat_true] at hh
    have hC := q_mCostBelow (h.th (k := nI 0)) hns hx
    refine q_ZM0 h ?_
    (conv => lhs; simp (disch := first | assumption | omega | (rw [nI_leI] <;> omega) | (rw [nI_ltI] <;> omega) | (rw [nI_eq] <;> omega) | (apply q_out <;> omega) | (apply q_nb; omega) | (apply q_n0 <;> omega)) only [M127, ↓q_th_r, q_th_2, hh, hC, ↓if_pos, ↓if_neg, nI_add, q_sub, q_cl, p_bnd_s, p_bnd_v])
  · rw [if_neg hx]
    rw [Bool.eq_false_iff.mpr hx, Bool.toNat_false] at hh
    refine q_ZTi0 h ?_
    (conv => lhs; simp (disch := first | assumption | omega | (rw [nI_leI] <;> omega) | (rw [nI_ltI] <;> omega) | (rw [nI_eq] <;> omega) | (apply q_out <;> omega) | (apply q_nb; omega) | (apply q_n0 <;> omega)) only [M127, ↓q_th_r, q_th_2, hh, q_mFails, q_th_th, ↓if_pos, ↓if_neg, nI_add, q_sub, q_cl, p_bnd_s, p_bnd_v])
end Mc
