/-! THE REFERENCE: COSTS -/
theorem q_cs_cg {x y : Nat → Int64} {s t : Nat} : ∀ m, (∀ j, j < m → x (s + j) = y (t + j)) → q_cs x s m = q_cs y t m
  | 0, _ => rfl
  | m + 1, h => by rw [q_cs, q_cs, q_cs_cg m (fun j hj => h j (by omega)), h m (by omega)]
theorem q_cs_add {x : Nat → Int64} {s m : Nat} : ∀ k, q_cs x s (m + k) = q_cs x s m + q_cs x (s + m) k
  | 0 => rfl
  | k + 1 => by rw [show m + (k + 1) = (m + k) + 1 by omega, q_cs, q_cs, q_cs_add k, show s + (m + k) = s + m + k by omega]; omega
/-- the cost of the leaves among the nodes below m that are below node t -/
def q_sm (sp : Nat → Bool) (F : Nat → Nat) (t : Nat) : Nat → Nat
  | 0 => 0
  | m + 1 => q_sm sp F t m + (if (q_ex sp m && !(sp m) && q_in m t) = true then F m else 0)
def q_s1m (sp : Nat → Bool) (F : Nat → Nat) (t : Nat) : Nat → Nat
  | 0 => 0
  | m + 1 => q_s1m sp F t m + (if (q_ex sp m && !(sp m) && decide (m = t)) = true then F m else 0)
theorem q_s1m_v {sp : Nat → Bool} {F : Nat → Nat} {t : Nat} : ∀ m, q_s1m sp F t m = if t < m ∧ (q_ex sp t && !(sp t)) = true then F t else 0
  | 0 => by rw [if_neg (by omega)]; rfl
  | m + 1 => by
    rw [q_s1m, q_s1m_v m]
    by_cases h : m = t
    · subst h
      rw [if_neg (by omega), decide_eq_true rfl, Bool.and_true, Nat.zero_add]
      by_cases h2 : (q_ex sp m && !(sp m)) = true
      · rw [if_pos h2, if_pos ⟨by omega, h2⟩]
      · rw [if_neg h2, if_neg (fun z => h2 z.2)]
    · rw [decide_eq_false h, Bool.and_false, if_neg Bool.false_ne_true, Nat.add_zero]
      by_cases h2 : t < m ∧ (q_ex sp t && !(sp t)) = true
      · rw [if_pos h2, if_pos ⟨by omega, h2.2⟩]
      · rw [if_neg h2, if_neg (fun z => h2 ⟨by omega, z.2⟩)]
theorem q_in_kids : ∀ i, i < 16 → ∀ t, t < 8 → 1 ≤ t → (q_in i t = (decide (i = t) || q_in i (2 * t) || q_in i (2 * t + 1))) ∧ (decide (i = t) = true → q_in i (2 * t) = false ∧ q_in i (2 * t + 1) = false) ∧ (q_in i (2 * t) = true → q_in i (2 * t + 1) = false) ∧ (q_in i (2 * t) = true ∨ q_in i (2 * t + 1) = true → (2 ≤ i ∧ i / 2 = t) ∨ (4 ≤ i ∧ i / 4 = t) ∨ (8 ≤ i ∧ i / 8 = t)) := by
  have key : ∀ i : Fin 16, ∀ t : Fin 8, t.val = 0 ∨ ((q_in i.val t.val = (decide (i.val = t.val) || q_in i.val (2 * t.val) || q_in i.val (2 * t.val + 1))) ∧ (decide (i.val = t.val) = true → q_in i.val (2 * t.val) = false ∧ q_in i.val (2 * t.val + 1) = false) ∧ (q_in i.val (2 * t.val) = true → q_in i.val (2 * t.val + 1) = false) ∧ (q_in i.val (2 * t.val) = true ∨ q_in i.val (2 * t.val + 1) = true → (2 ≤ i.val ∧ i.val / 2 = t.val) ∨ (4 ≤ i.val ∧ i.val / 4 = t.val) ∨ (8 ≤ i.val ∧ i.val / 8 = t.val))) := by decide +kernel
  intro i hi t ht h1
  rcases key ⟨i, hi⟩ ⟨t, ht⟩ with z | z
  · exact absurd z (by dsimp only; omega)
  · exact z
theorem q_sm_kids {sp : Nat → Bool} {F : Nat → Nat} {t : Nat} (ht : t < 8) (h1 : 1 ≤ t) : ∀ m, m ≤ 16 → q_sm sp F t m = q_s1m sp F t m + (q_sm sp F (2 * t) m + q_sm sp F (2 * t + 1) m)
  | 0, _ => rfl
  | m + 1, hm => by
    have hk := q_in_kids m (by omega) t ht h1
    rw [q_sm, q_sm, q_sm, q_s1m, q_sm_kids ht h1 m (by omega), hk.1]
    cases hl : (q_ex sp m && !(sp m))
    · simp
    · simp only [Bool.true_and]
      cases ha : decide (m = t)
      · cases hb : q_in m (2 * t)
        · cases hc : q_in m (2 * t + 1)
          · simp
          · simp; omega
        · rw [hk.2.2.1 hb]; simp; omega
      · rw [(hk.2.1 ha).1, (hk.2.1 ha).2]; simp; omega
theorem q_sm_none {sp : Nat → Bool} {F : Nat → Nat} {n t : Nat} (hT : q_T n sp) (ht : t < 8) (h1 : 1 ≤ t) (hs : sp t = false) : ∀ m, m ≤ 16 → q_sm sp F (2 * t) m = 0 ∧ q_sm sp F (2 * t + 1) m = 0
  | 0, _ => ⟨rfl, rfl⟩
  | m + 1, hm => by
    have i1 := q_sm_none (F := F) hT ht h1 hs m (by omega)
    have hk := q_in_kids m (by omega) t ht h1
    have key : q_in m (2 * t) = true ∨ q_in m (2 * t + 1) = true → q_ex sp m = false := by
      intro z
      cases hx : q_ex sp m
      · rfl
      · exfalso
        have ha := hT.anc hx
        rcases hk.2.2.2 z with y | y | y
        · have := ha.1 y.1; rw [y.2, hs] at this; exact Bool.false_ne_true this
        · have := ha.2.1 y.1; rw [y.2, hs] at this; exact Bool.false_ne_true this
        · have := ha.2.2 y.1; rw [y.2, hs] at this; exact Bool.false_ne_true this
    rw [q_sm, q_sm, i1.1, i1.2]
    refine ⟨?_, ?_⟩
    · by_cases hz : (q_ex sp m && !(sp m) && q_in m (2 * t)) = true
      · rw [Bool.and_eq_true] at hz
        rw [key (Or.inl hz.2)] at hz; exact absurd hz.1 (by simp)
      · rw [if_neg hz]
    · by_cases hz : (q_ex sp m && !(sp m) && q_in m (2 * t + 1)) = true
      · rw [Bool.and_eq_true] at hz
        rw [key (Or.inr hz.2)] at hz; exact absurd hz.1 (by simp)
      · rw [if_neg hz]
/-- the leaves below a node have the whole stretch -/
theorem q_sm_cs {sp : Nat → Bool} {n : Nat} {x : Nat → Int64} (hT : q_T n sp) : ∀ (f t : Nat), t * 2 ^ f ≥ 8 → 1 ≤ t → t < 16 → q_ex sp t = true → q_sm sp (fun i => q_cs x (q_so n i) (q_wd n i)) t 16 = q_cs x (q_so n t) (q_wd n t) := by
  have top : ∀ t, t < 16 → 8 ≤ t → q_ex sp t = true → q_sm sp (fun i => q_cs x (q_so n i) (q_wd n i)) t 16 = q_cs x (q_so n t) (q_wd n t) := by
    intro t ht h8 hx
    have key : ∀ i t : Fin 16, t.val < 8 ∨ q_in i.val t.val = decide (i.val = t.val) := by decide +kernel
    have hin : ∀ m, m ≤ 16 → q_sm sp (fun i => q_cs x (q_so n i) (q_wd n i)) t m = q_s1m sp (fun i => q_cs x (q_so n i) (q_wd n i)) t m := by
      intro m
      induction m with
      | zero => intro _; rfl
      | succ m ihm =>
        intro hm
        rcases key ⟨m, by omega⟩ ⟨t, ht⟩ with z | z
        · exact absurd z (by dsimp only; omega)
        · dsimp only at z
          rw [q_sm, q_s1m, ihm (by omega), z]
    rw [hin 16 (Nat.le_refl _), q_s1m_v, if_pos ⟨ht, by rw [hx, hT.2.2.1 t h8]; rfl⟩]
  intro f
  induction f with
  | zero => intro t h1 h2 h3 hx; exact top t h3 (by omega) hx
  | succ f ih =>
    intro t h1 h2 h3 hx
    rcases Nat.lt_or_ge t 8 with h8 | h8
    · rw [q_sm_kids h8 h2 16 (Nat.le_refl _), q_s1m_v]
      cases hs : sp t
      · have hz := q_sm_none (F := fun i => q_cs x (q_so n i) (q_wd n i)) hT h8 h2 hs 16 (Nat.le_refl _)
        rw [hz.1, hz.2, if_pos ⟨by omega, by rw [hx]; rfl⟩, Nat.add_zero]
      · have hw := hT.2.2.2.2 t h2 h8 hs
        have hg := q_geo1 n hT.1 t h8 h2 hw
        have hp : 2 * t * 2 ^ f ≥ 8 := by rw [Nat.pow_succ] at h1; rw [Nat.mul_comm 2 t, Nat.mul_assoc, Nat.mul_comm 2]; exact h1
        have hp2 : (2 * t + 1) * 2 ^ f ≥ 8 := by rw [Nat.add_mul]; omega
        rw [ih (2 * t) hp (by omega) (by omega) (by rw [q_ex_kid (k := t) (by omega) (by omega) (by omega)]; exact hs), ih (2 * t + 1) hp2 (by omega) (by omega) (by rw [q_ex_kid (k := t) (by omega) (by omega) (by omega)]; exact hs)]
        rw [if_neg (by simp), hg.1, hg.2.1, hg.2.2.1, hg.2.2.2.1, Nat.zero_add]
        have := q_cs_add (x := x) (s := q_so n t) (m := q_wd n t / 2) (q_wd n t / 2)
        rw [← this, show q_wd n t / 2 + q_wd n t / 2 = q_wd n t by omega]
    · exact top t h3 h8 hx
