/-! WHAT IS LEFT OUT, told both ways -/
def q_rdN (lo : Nat) : Nat → (Nat → Nat) → (Nat → Nat)
  | 0, R => R
  | k + 1, R => if lo ≤ k then q_rdN lo k (fun j => if j = q_pa lo k then max (R (q_pa lo k)) (R k) else R j) else R
theorem q_maxN {a b : Nat} (ha : a < 2 ^ 63) (hb : b < 2 ^ 63) : p_max (lN a) (lN b) = lN (max a b) := by
  unfold p_max
  by_cases h : b < a
  · rw [if_pos ((pk_lLT hb ha).mpr h), Nat.max_eq_left (by omega)]
  · rw [if_neg (fun z => h ((pk_lLT hb ha).mp z)), Nat.max_eq_right (by omega)]
theorem q_rd_N {n lo : Nat} (hlo : 1 ≤ lo) : ∀ (k : Nat) (R : Nat → Int64) (r : Nat → Nat), k ≤ n → (∀ j, j < n → R j = lN (r j) ∧ r j < 2 ^ 63) → ∀ j, j < n → q_rd lo k R j = lN (q_rdN lo k r j) ∧ q_rdN lo k r j < 2 ^ 63
  | 0, _, _, _, h => h
  | k + 1, R, r, hk, h => by
    rw [q_rd, q_rdN]
    by_cases hc : lo ≤ k
    · rw [if_pos hc, if_pos hc]
      refine q_rd_N hlo k _ _ (by omega) (fun j hj => ?_)
      have hp := q_pa_n hlo (show k < n by omega)
      have a := h _ hp
      have b := h k (by omega)
      by_cases e : j = q_pa lo k
      · rw [if_pos e, if_pos e, a.1, b.1, q_maxN a.2 b.2]
        exact ⟨rfl, by omega⟩
      · rw [if_neg e, if_neg e]; exact h j hj
    · rw [if_neg hc, if_neg hc]; exact h
section Un
variable {lo : Nat}
theorem q_iu_u (hlo : 1 ≤ lo) {k p : Nat} (hk : k < 32) : q_iu lo 33 k p = if k ≤ p then decide (k = p) else if lo ≤ k then q_iu lo 33 (q_pa lo k) p else false := by
  rw [q_iu]
  by_cases h1 : k ≤ p
  · rw [if_pos h1, if_pos h1]
  · rw [if_neg h1, if_neg h1]
    by_cases h2 : lo ≤ k
    · rw [if_pos h2, if_pos h2]
      have : q_pa lo k < k := by unfold q_pa; split <;> omega
      exact q_iu_f hlo 32 33 _ (by omega) (by omega)
    · rw [if_neg h2, if_neg h2]
theorem q_pa_lt (hlo : 1 ≤ lo) {k : Nat} (h : lo ≤ k) : q_pa lo k < k := by unfold q_pa; split <;> omega
theorem q_iu_s (hlo : 1 ≤ lo) {p : Nat} (hp : p < 32) : q_iu lo 33 p p = true := by
  rw [q_iu_u hlo hp, if_pos (Nat.le_refl _)]; exact decide_eq_true rfl
theorem q_iu_le (hlo : 1 ≤ lo) {k p : Nat} (hk : k < 32) (h : q_iu lo 33 k p = true) : p ≤ k := by
  rcases Nat.lt_or_ge k p with z | z
  · rw [q_iu_u hlo hk, if_pos (by omega), decide_eq_false (by omega)] at h
    exact absurd h Bool.false_ne_true
  · exact z
theorem q_iu_up (hlo : 1 ≤ lo) {k p : Nat} (hk : k < 32) (h : p < k) : q_iu lo 33 k p = true ↔ lo ≤ k ∧ q_iu lo 33 (q_pa lo k) p = true := by
  rw [q_iu_u hlo hk, if_neg (by omega)]
  by_cases h2 : lo ≤ k
  · rw [if_pos h2]; exact ⟨fun z => ⟨h2, z⟩, fun z => z.2⟩
  · rw [if_neg h2]; exact ⟨fun z => absurd z Bool.false_ne_true, fun z => absurd z.1 h2⟩
theorem q_iu_tr (hlo : 1 ≤ lo) {q p : Nat} (hq : q_iu lo 33 q p = true) (hq2 : q < 32) : ∀ (f j : Nat), j < f → j < 32 → q_iu lo 33 j q = true → q_iu lo 33 j p = true
  | 0, _, h, _, _ => absurd h (Nat.not_lt_zero _)
  | f + 1, j, hf, hj, h => by
    have h1 := q_iu_le hlo hj h
    have h2 := q_iu_le hlo hq2 hq
    by_cases e : j = q
    · rw [e]; exact hq
    · have g := (q_iu_up hlo hj (show q < j by omega)).mp h
      have hpa := q_pa_lt hlo g.1
      exact (q_iu_up hlo hj (show p < j by omega)).mpr ⟨g.1, q_iu_tr hlo hq hq2 f _ (by omega) (by omega) g.2⟩
theorem q_rdN_s {n T : Nat} (hlo : 1 ≤ lo) (hn : n ≤ 32) (hT : 0 < T) : ∀ (k : Nat) (r : Nat → Nat), k ≤ n → ∀ p, p < n → (q_rdN lo k r p / T ≠ 0 ↔ ∃ j, j < n ∧ r j / T ≠ 0 ∧ (j = p ∨ (j < k ∧ q_iu lo 33 j p = true)))
  | 0, r, _, p, hp => by
    rw [q_rdN]
    exact ⟨fun z => ⟨p, hp, z, Or.inl rfl⟩, fun ⟨j, _, h2, h3⟩ => by
      rcases h3 with z | z
      · rw [← z]; exact h2
      · omega⟩
  | k + 1, r, hk, p, hp => by
    rw [q_rdN]
    by_cases hc : lo ≤ k
    · rw [if_pos hc, q_rdN_s hlo hn hT k _ (by omega) p hp]
      have hpa := q_pa_lt hlo hc
      have hmax : ∀ a b : Nat, (max a b / T ≠ 0) ↔ (a / T ≠ 0 ∨ b / T ≠ 0) := by
        intro a b
        rcases Nat.le_total a b with z | z
        · rw [Nat.max_eq_right z]
          refine ⟨Or.inr, fun y => y.elim (fun v => ?_) id⟩
          have := Nat.div_le_div_right (c := T) z
          exact fun hz => v (Nat.le_zero.mp (by rw [← hz]; exact this))
        · rw [Nat.max_eq_left z]
          refine ⟨Or.inl, fun y => y.elim id (fun v => ?_)⟩
          have := Nat.div_le_div_right (c := T) z
          exact fun hz => v (Nat.le_zero.mp (by rw [← hz]; exact this))
      constructor
      · rintro ⟨j, j1, j2, j3⟩
        by_cases e : j = q_pa lo k
        · rw [if_pos e, hmax] at j2
          rcases j2 with z | z
          · refine ⟨q_pa lo k, by omega, z, ?_⟩
            rw [← e]
            rcases j3 with y | y
            · exact Or.inl y
            · exact Or.inr ⟨by omega, y.2⟩
          · refine ⟨k, by omega, z, ?_⟩
            have hU : q_iu lo 33 (q_pa lo k) p = true := by
              rcases j3 with y | y
              · rw [← e, y]; exact q_iu_s hlo (by omega)
              · rw [← e]; exact y.2
            have hle := q_iu_le hlo (show q_pa lo k < 32 by omega) hU
            exact Or.inr ⟨by omega, (q_iu_up hlo (by omega) (by omega)).mpr ⟨hc, hU⟩⟩
        · rw [if_neg e] at j2
          refine ⟨j, j1, j2, ?_⟩
          rcases j3 with y | y
          · exact Or.inl y
          · exact Or.inr ⟨by omega, y.2⟩
      · rintro ⟨j, j1, j2, j3⟩
        have same : ∀ i, r i / T ≠ 0 → (if i = q_pa lo k then max (r (q_pa lo k)) (r k) else r i) / T ≠ 0 := by
          intro i hi
          by_cases e : i = q_pa lo k
          · rw [if_pos e, hmax]; exact Or.inl (by rw [← e]; exact hi)
          · rw [if_neg e]; exact hi
        rcases j3 with y | ⟨y1, y2⟩
        · exact ⟨j, j1, same j j2, Or.inl y⟩
        · by_cases ek : j = k
          · by_cases ep : j = p
            · exact ⟨j, j1, same j j2, Or.inl ep⟩
            · have hle := q_iu_le hlo (show j < 32 by omega) y2
              rw [ek] at y2 hle ep j2
              have g := (q_iu_up hlo (show k < 32 by omega) (show p < k by omega)).mp y2
              refine ⟨q_pa lo k, by omega, ?_, ?_⟩
              · rw [if_pos rfl, hmax]; exact Or.inr j2
              · exact Or.inr ⟨hpa, g.2⟩
          · exact ⟨j, j1, same j j2, Or.inr ⟨by omega, y2⟩⟩
    · rw [if_neg hc]
      constructor
      · intro z; exact ⟨p, hp, z, Or.inl rfl⟩
      · rintro ⟨j, j1, j2, j3⟩
        rcases j3 with y | ⟨y1, y2⟩
        · rw [← y]; exact j2
        · have hle := q_iu_le hlo (show j < 32 by omega) y2
          by_cases ep : j = p
          · rw [← ep]; exact j2
          · have g := (q_iu_up hlo (show j < 32 by omega) (show p < j by omega)).mp y2
            omega
end Un
section Re2
variable {n lo pl : Nat} {x R0 : Nat → Int64}
theorem q_ns_N (h : q_ns n x) : ∃ r : Nat → Nat, ∀ j, j < n → p_abs (x j) = lN (r j) ∧ r j < 2 ^ 63 := by
  have key : ∀ j, ∃ a : Nat, j < n → p_abs (x j) = lN a ∧ a < 2 ^ 63 := by
    intro j
    by_cases hj : j < n
    · obtain ⟨a, h1, h2⟩ := q_nm_of (h j hj)
      exact ⟨a, fun _ => ⟨h2, h1⟩⟩
    · exact ⟨0, fun z => absurd z hj⟩
  exact ⟨fun j => Classical.choose (key j), fun j hj => Classical.choose_spec (key j) hj⟩
theorem q_shz {a : Nat} (ha : a < 2 ^ 63) (hp : pl < 63) : q_sh (lN a) pl = lN 0 ↔ a / 2 ^ pl = 0 := by
  have hd : a / 2 ^ pl ≤ a := Nat.div_le_self _ _
  rw [q_shN ha hp, pk_lEQ (by omega) (by omega)]
theorem q_reach_sig (hns : q_ns n x) (hn : n ≤ 32) (hlo : 1 ≤ lo) (hpl : pl < 63) {p : Nat} (hp : p < n) : (¬ q_sh (q_rd lo n (q_ab x R0 n) p) pl = lN 0) ↔ ∃ j, j < n ∧ ¬ q_sh (p_abs (x j)) pl = lN 0 ∧ q_iu lo 33 j p = true := by
  obtain ⟨r, hr⟩ := q_ns_N hns
  have hN := q_rd_N hlo n (q_ab x R0 n) r (Nat.le_refl _) (fun j hj => by unfold q_ab; rw [if_pos hj]; exact hr j hj) p hp
  rw [hN.1, q_shz hN.2 hpl]
  have hs := q_rdN_s hlo hn (show 0 < 2 ^ pl from Nat.two_pow_pos _) n r (Nat.le_refl _) p hp
  rw [show (¬ q_rdN lo n r p / 2 ^ pl = 0) ↔ q_rdN lo n r p / 2 ^ pl ≠ 0 from Iff.rfl, hs]
  constructor
  · rintro ⟨j, j1, j2, j3⟩
    refine ⟨j, j1, by rw [(hr j j1).1, q_shz (hr j j1).2 hpl]; exact j2, ?_⟩
    rcases j3 with y | y
    · rw [y]; exact q_iu_s hlo (by omega)
    · exact y.2
  · rintro ⟨j, j1, j2, j3⟩
    rw [(hr j j1).1, q_shz (hr j j1).2 hpl] at j2
    exact ⟨j, j1, j2, Or.inr ⟨j1, j3⟩⟩
theorem q_pos0 (hns : q_ns n x) (hpl : pl < 63) {j : Nat} (hj : j < n) : lN 0 < q_sh (p_abs (x j)) pl ↔ ¬ q_sh (p_abs (x j)) pl = lN 0 := by
  obtain ⟨a, h1, h2⟩ := q_nm_of (hns j hj)
  have hd : a / 2 ^ pl ≤ a := Nat.div_le_self _ _
  rw [h2, q_shN h1 hpl, pk_lLT (by omega) (by omega), pk_lEQ (by omega) (by omega)]
  exact Nat.pos_iff_ne_zero
theorem q_an_iff (hns : q_ns n x) (hpl : pl < 63) {p : Nat} : ∀ (d k : Nat), k + d = n → (q_an lo pl p x k d = true ↔ ∃ j, k ≤ j ∧ j < n ∧ ¬ q_sh (p_abs (x j)) pl = lN 0 ∧ q_iu lo 33 j p = true)
  | 0, k, hk => ⟨fun z => absurd z Bool.false_ne_true, fun ⟨j, j1, j2, _⟩ => by omega⟩
  | d + 1, k, hk => by
    rw [q_an, Bool.or_eq_true, Bool.and_eq_true, decide_eq_true_eq, q_pos0 hns hpl (show k < n by omega), q_an_iff hns hpl d (k + 1) (by omega)]
    constructor
    · rintro (⟨h1, h2⟩ | ⟨j, j1, j2, j3⟩)
      · exact ⟨k, Nat.le_refl _, by omega, h1, h2⟩
      · exact ⟨j, by omega, j2, j3⟩
    · rintro ⟨j, j1, j2, j3, j4⟩
      by_cases e : j = k
      · rw [e] at j3 j4; exact Or.inl ⟨j3, j4⟩
      · exact Or.inr ⟨j, by omega, j2, j3, j4⟩
/-- the second 0 or 1 of a number that is no one yet -/
theorem q_an_reach (hns : q_ns n x) (hn : n ≤ 32) (hlo : 1 ≤ lo) (hpl : pl < 63) {p : Nat} (hp : p < n) (h0 : q_sh (p_abs (x p)) pl = lN 0) : q_an lo pl p x (p + 1) (n - (p + 1)) = true ↔ ¬ q_sh (q_rd lo n (q_ab x R0 n) p) pl = lN 0 := by
  rw [q_an_iff hns hpl _ _ (by omega), q_reach_sig hns hn hlo hpl hp]
  constructor
  · rintro ⟨j, j1, j2, j3, j4⟩; exact ⟨j, j2, j3, j4⟩
  · rintro ⟨j, j2, j3, j4⟩
    have := q_iu_le hlo (show j < 32 by omega) j4
    by_cases e : j = p
    · rw [e] at j3; exact absurd h0 j3
    · exact ⟨j, by omega, j2, j3, j4⟩
/-- what the reference has marked as left out, when it comes to place m -/
def q_o (n lo pl : Nat) (x : Nat → Int64) : Nat → Nat → Bool
  | 0, _ => false
  | m + 1, k => q_o n lo pl x m k || (decide (q_sh (p_abs (x m)) pl = lN 0) && !(q_o n lo pl x m m) && q_de n lo m && !(q_an lo pl m x (m + 1) (n - (m + 1))) && decide (m < k) && q_iu lo 33 k m)
theorem q_o_iff {k : Nat} : ∀ m, q_o n lo pl x m k = true ↔ ∃ p, p < m ∧ (q_sh (p_abs (x p)) pl = lN 0 ∧ q_o n lo pl x p p = false ∧ q_de n lo p = true ∧ q_an lo pl p x (p + 1) (n - (p + 1)) = false) ∧ p < k ∧ q_iu lo 33 k p = true
  | 0 => ⟨fun z => absurd z Bool.false_ne_true, fun ⟨p, h, _⟩ => by omega⟩
  | m + 1 => by
    rw [q_o, Bool.or_eq_true, q_o_iff m]
    constructor
    · rintro (⟨p, h1, h2⟩ | h)
      · exact ⟨p, by omega, h2⟩
      · simp only [Bool.and_eq_true, decide_eq_true_eq, Bool.not_eq_true'] at h
        obtain ⟨⟨⟨⟨⟨a, b⟩, c⟩, d⟩, e⟩, f⟩ := h
        exact ⟨m, by omega, ⟨a, b, c, d⟩, e, f⟩
    · rintro ⟨p, h1, ⟨a, b, c, d⟩, e, f⟩
      by_cases hp : p = m
      · subst hp
        refine Or.inr ?_
        simp only [Bool.and_eq_true, decide_eq_true_eq, Bool.not_eq_true']
        exact ⟨⟨⟨⟨⟨a, b⟩, c⟩, d⟩, e⟩, f⟩
      · exact Or.inl ⟨p, by omega, ⟨a, b, c, d⟩, e, f⟩
theorem q_de_pa (hlo : 1 ≤ lo) {k : Nat} (h : lo ≤ k) (hk : k < n) : q_de n lo (q_pa lo k) = true := by
  unfold q_de q_pa
  by_cases h1 : k < 2 * lo
  · rw [if_pos h1, if_pos (by omega)]; exact decide_eq_true (by omega)
  · rw [if_neg h1, if_neg (by omega)]; exact decide_eq_true (by omega)
theorem q_o_lft (hns : q_ns n x) (hn : n ≤ 32) (hlo : 1 ≤ lo) (hpl : pl < 63) : ∀ (f k : Nat), k < f → k < n → q_o n lo pl x k k = q_lft lo k pl (q_rd lo n (q_ab x R0 n))
  | 0, _, h, _ => absurd h (Nat.not_lt_zero _)
  | f + 1, k, hf, hk => by
    have ih : ∀ p, p < k → q_o n lo pl x p p = q_lft lo p pl (q_rd lo n (q_ab x R0 n)) := fun p hp => q_o_lft hns hn hlo hpl f p (by omega) (by omega)
    have hW : ∀ p, p < k → ((q_sh (p_abs (x p)) pl = lN 0 ∧ q_o n lo pl x p p = false ∧ q_de n lo p = true ∧ q_an lo pl p x (p + 1) (n - (p + 1)) = false) ↔ (q_sh (q_rd lo n (q_ab x R0 n) p) pl = lN 0 ∧ q_lft lo p pl (q_rd lo n (q_ab x R0 n)) = false ∧ q_de n lo p = true)) := by
      intro p hp
      rw [ih p hp]
      have hS := q_reach_sig (R0 := R0) hns hn hlo hpl (show p < n by omega)
      constructor
      · rintro ⟨a, b, c, d⟩
        refine ⟨?_, b, c⟩
        refine Classical.byContradiction (fun z => ?_)
        have := (q_an_reach hns hn hlo hpl (show p < n by omega) a).mpr z
        rw [d] at this; exact Bool.false_ne_true this
      · rintro ⟨a, b, c⟩
        have h0 : q_sh (p_abs (x p)) pl = lN 0 := Classical.byContradiction (fun z => hS.mpr ⟨p, by omega, z, q_iu_s hlo (by omega)⟩ a)
        refine ⟨h0, b, c, ?_⟩
        cases z : q_an lo pl p x (p + 1) (n - (p + 1))
        · rfl
        · exact absurd a ((q_an_reach hns hn hlo hpl (show p < n by omega) h0).mp z)
    have hL : q_lft lo k pl (q_rd lo n (q_ab x R0 n)) = true ↔ lo ≤ k ∧ q_sh (q_rd lo n (q_ab x R0 n) (q_pa lo k)) pl = lN 0 := by
      unfold q_lft; rw [Bool.and_eq_true, decide_eq_true_eq, decide_eq_true_eq]
    have key : q_o n lo pl x k k = true ↔ q_lft lo k pl (q_rd lo n (q_ab x R0 n)) = true := by
      rw [q_o_iff k, hL]
      constructor
      · rintro ⟨p, h1, h2, h3, h4⟩
        have hw := (hW p h1).mp h2
        have g := (q_iu_up hlo (show k < 32 by omega) h3).mp h4
        have hpa := q_pa_lt hlo g.1
        refine ⟨g.1, Classical.byContradiction (fun z => ?_)⟩
        obtain ⟨j, j1, j2, j3⟩ := (q_reach_sig hns hn hlo hpl (show q_pa lo k < n by omega)).mp z
        exact (q_reach_sig hns hn hlo hpl (show p < n by omega)).mpr ⟨j, j1, j2, q_iu_tr hlo g.2 (by omega) 33 j (by omega) (by omega) j3⟩ hw.1
      · rintro ⟨h1, h2⟩
        have hC : ∀ (g q : Nat), q < g → q < k → q_sh (q_rd lo n (q_ab x R0 n) q) pl = lN 0 → q_de n lo q = true → ∃ p, p ≤ q ∧ (q_sh (q_rd lo n (q_ab x R0 n) p) pl = lN 0 ∧ q_lft lo p pl (q_rd lo n (q_ab x R0 n)) = false ∧ q_de n lo p = true) ∧ q_iu lo 33 q p = true := by
          intro g
          induction g with
          | zero => intro q hq; omega
          | succ g ihg =>
            intro q hq hqk hz hd
            cases hl : q_lft lo q pl (q_rd lo n (q_ab x R0 n))
            · exact ⟨q, Nat.le_refl _, ⟨hz, hl, hd⟩, q_iu_s hlo (by omega)⟩
            · have hl2 : lo ≤ q ∧ q_sh (q_rd lo n (q_ab x R0 n) (q_pa lo q)) pl = lN 0 := by
                unfold q_lft at hl; rw [Bool.and_eq_true, decide_eq_true_eq, decide_eq_true_eq] at hl; exact hl
              have hpa := q_pa_lt hlo hl2.1
              obtain ⟨p, p1, p2, p3⟩ := ihg (q_pa lo q) (by omega) (by omega) hl2.2 (q_de_pa hlo hl2.1 (by omega))
              exact ⟨p, by omega, p2, (q_iu_up hlo (by omega) (by omega)).mpr ⟨hl2.1, p3⟩⟩
        have hpa := q_pa_lt hlo h1
        obtain ⟨p, p1, p2, p3⟩ := hC 33 (q_pa lo k) (by omega) hpa h2 (q_de_pa hlo h1 hk)
        exact ⟨p, by omega, (hW p (by omega)).mpr p2, by omega, (q_iu_up hlo (by omega) (by omega)).mpr ⟨h1, p3⟩⟩
    cases a : q_o n lo pl x k k <;> cases b : q_lft lo k pl (q_rd lo n (q_ab x R0 n))
    · rfl
    · rw [key.mpr b] at a; exact absurd a.symm Bool.false_ne_true
    · rw [key.mp a] at b; exact absurd b.symm Bool.false_ne_true
    · rfl
end Re2
