/-! THE BEST BASIS, as both sides find it over a decomposition A -/
def q_wt (n : Nat) (A : Nat → Int64) (j : Nat) : Nat := q_cs A (32 * j) (q_wd n j)
abbrev q_G : Type := (Nat → Nat) × (Nat → Bool)
def q_gc (n : Nat) (A : Nat → Int64) (E i : Nat) (G : q_G) : Bool := decide (i < E) && decide (2 ≤ q_wd n i) && decide (G.1 (2 * i) + G.1 (2 * i + 1) < q_wt n A i)
def q_g1 (n : Nat) (A : Nat → Int64) (E i : Nat) (G : q_G) : q_G := (fun j => if j = i then (if q_gc n A E i G = true then G.1 (2 * i) + G.1 (2 * i + 1) else q_wt n A i) else G.1 j, fun j => if j = i then q_gc n A E i G else G.2 j)
/-- the nodes behind 15 - d are looked at -/
def q_gg (n : Nat) (A : Nat → Int64) (E : Nat) : Nat → q_G
  | 0 => (fun _ => 0, fun _ => false)
  | d + 1 => q_g1 n A E (15 - d) (q_gg n A E d)
theorem q_gg_f {n : Nat} {A : Nat → Int64} {E : Nat} : ∀ (d j : Nat), (q_gg n A E d).2 j = true → j < E ∧ 2 ≤ q_wd n j
  | 0, j, h => absurd h Bool.false_ne_true
  | d + 1, j, h => by
    rw [q_gg, q_g1] at h
    dsimp only at h
    by_cases hj : j = 15 - d
    · rw [if_pos hj] at h
      unfold q_gc at h
      rw [Bool.and_eq_true, Bool.and_eq_true, decide_eq_true_eq, decide_eq_true_eq] at h
      exact ⟨by rw [hj]; exact h.1.1, by rw [hj]; exact h.1.2⟩
    · rw [if_neg hj] at h
      exact q_gg_f d j h
theorem q_wt_le {n : Nat} {A : Nat → Int64} {j : Nat} (hn : n ≤ 32) : q_wt n A j ≤ 2016 := by
  have h1 := q_cs_le (x := A) (s := 32 * j) (q_wd n j)
  have h2 := q_wdle n j
  unfold q_wt; omega
theorem q_gg_le {n : Nat} {A : Nat → Int64} {E : Nat} (hn : n ≤ 32) : ∀ (d j : Nat), (q_gg n A E d).1 j ≤ 2016
  | 0, _ => Nat.zero_le _
  | d + 1, j => by
    rw [q_gg, q_g1]
    dsimp only
    have hw := q_wt_le (A := A) (j := 15 - d) hn
    by_cases hj : j = 15 - d
    · rw [if_pos hj]
      by_cases hc : q_gc n A E (15 - d) (q_gg n A E d) = true
      · rw [if_pos hc]
        unfold q_gc at hc
        rw [Bool.and_eq_true, decide_eq_true_eq] at hc
        omega
      · rw [if_neg hc]; exact hw
    · rw [if_neg hj]; exact q_gg_le hn d j
/-- the full tree -/
def q_fu (n E : Nat) : Nat → Bool := fun j => decide (1 ≤ j) && decide (j < E) && decide (2 ≤ q_wd n j)
theorem q_fu_t {n E j : Nat} : q_fu n E j = true ↔ 1 ≤ j ∧ j < E ∧ 2 ≤ q_wd n j := by
  unfold q_fu
  rw [Bool.and_eq_true, Bool.and_eq_true, decide_eq_true_eq, decide_eq_true_eq, decide_eq_true_eq]
  exact ⟨fun z => ⟨z.1.1, z.1.2, z.2⟩, fun z => ⟨⟨z.1, z.2.1⟩, z.2.2⟩⟩
theorem q_inF : ∀ m j i, m < 16 → j < 16 → i < 16 → 1 ≤ i → 1 ≤ j → (q_in m j = true → q_in m i = true → i < j → q_in j i = true) ∧ (2 ≤ m → q_in (m / 2) i = true → q_in m i = true) ∧ (q_in m i = true → m ≠ i → 2 ≤ m ∧ q_in (m / 2) i = true) ∧ q_in i i = true := by
  have key : ∀ m j i : Fin 16, i.val = 0 ∨ j.val = 0 ∨ ((q_in m.val j.val = true → q_in m.val i.val = true → i.val < j.val → q_in j.val i.val = true) ∧ (2 ≤ m.val → q_in (m.val / 2) i.val = true → q_in m.val i.val = true) ∧ (q_in m.val i.val = true → m.val ≠ i.val → 2 ≤ m.val ∧ q_in (m.val / 2) i.val = true) ∧ q_in i.val i.val = true) := by decide +kernel
  intro m j i hm hj hi h1 h2
  rcases key ⟨m, hm⟩ ⟨j, hj⟩ ⟨i, hi⟩ with z | z | z
  · exact absurd z (by dsimp only; omega)
  · exact absurd z (by dsimp only; omega)
  · exact z
section Cb
variable {n wv : Nat} {sp sp' : Nat → Bool} {A x : Nat → Int64}
theorem q_sm_cg {F F' : Nat → Nat} {t : Nat} : ∀ m, m ≤ 16 → (∀ i, i < 16 → q_in i t = true → sp' i = sp i ∧ q_ex sp' i = q_ex sp i ∧ (q_ex sp i = true → sp i = false → F' i = F i)) → q_sm sp' F' t m = q_sm sp F t m
  | 0, _, _ => rfl
  | m + 1, hm, h => by
    rw [q_sm, q_sm, q_sm_cg m (by omega) h]
    cases hin : q_in m t
    · simp
    · have := h m (by omega) hin
      rw [this.1, this.2.1]
      by_cases hl : (q_ex sp m && !(sp m) && true) = true
      · rw [if_pos hl, if_pos hl]
        simp at hl
        rw [this.2.2 hl.1 hl.2]
      · rw [if_neg hl, if_neg hl]
theorem q_cs_sm (hT : q_T n sp) (h : q_RR n sp A x) {t : Nat} (hx : q_ex sp t = true) : q_cs x (q_so n t) (q_wd n t) = q_sm sp (q_wt n A) t 16 := by
  have hb := q_ex_b hx
  rw [← q_sm_cs (x := x) hT 3 t (by omega) hb.1 hb.2 hx]
  refine q_sm_cg 16 (Nat.le_refl _) (fun i hi _ => ⟨rfl, rfl, fun ei li => ?_⟩)
  exact (q_cs_cg _ (fun j hj => h i hi ei li j hj)).symm
theorem q_sm_2 {F : Nat → Nat} {t : Nat} (h8 : t < 8) (h1 : 1 ≤ t) (hs : sp t = true) : q_sm sp F t 16 = q_sm sp F (2 * t) 16 + q_sm sp F (2 * t + 1) 16 := by
  rw [q_sm_kids h8 h1 16 (Nat.le_refl _), q_s1m_v, if_neg (by rw [hs]; simp), Nat.zero_add]
theorem q_sm_leaf {F : Nat → Nat} {t : Nat} (hT : q_T n sp) (hx : q_ex sp t = true) (hs : sp t = false) : q_sm sp F t 16 = F t := by
  have hb := q_ex_b hx
  rcases Nat.lt_or_ge t 8 with h8 | h8
  · have hz := q_sm_none (F := F) hT h8 hb.1 hs 16 (Nat.le_refl _)
    rw [q_sm_kids h8 hb.1 16 (Nat.le_refl _), q_s1m_v, hz.1, hz.2, if_pos ⟨hb.2, by rw [hx, hs]; rfl⟩, Nat.add_zero]
  · have key : ∀ i t : Fin 16, t.val < 8 ∨ q_in i.val t.val = decide (i.val = t.val) := by decide +kernel
    have hin : ∀ m, m ≤ 16 → q_sm sp F t m = q_s1m sp F t m := by
      intro m
      induction m with
      | zero => intro _; rfl
      | succ m ihm =>
        intro hm
        rcases key ⟨m, by omega⟩ ⟨t, hb.2⟩ with z | z
        · exact absurd z (by dsimp only; omega)
        · dsimp only at z
          rw [q_sm, q_s1m, ihm (by omega), z]
    rw [hin 16 (Nat.le_refl _), q_s1m_v, if_pos ⟨hb.2, by rw [hx, hs]; rfl⟩]
theorem q_RR_JJ (hC : q_DC n wv A) (hT : q_T n sp) {k : Nat} (hk : k < 16) : ∀ (i : Nat) (y : Nat → Int64), i ≤ 7 → q_RR n (q_jk sp k i) A y → q_RR n (q_jn sp k) A (q_un n wv sp k i y) := by
  intro i
  induction i with
  | zero => intro y _ h; rw [← q_jk_0]; exact h
  | succ i ih =>
    intro y hi h
    rw [q_un_S]
    cases hs : sp (i + 1)
    · rw [Bool.false_and, if_neg Bool.false_ne_true]
      rw [q_jk_N (Or.inr hs)] at h
      exact ih y (by omega) h
    · cases hin : q_in (i + 1) k
      · rw [Bool.and_false, if_neg Bool.false_ne_true]
        rw [q_jk_N (Or.inl hin)] at h
        exact ih y (by omega) h
      · rw [Bool.and_true, if_pos rfl]
        have hs1 : q_jk sp k (i + 1) (i + 1) = true := by unfold q_jk; rw [if_neg (by omega)]; exact hs
        have g := q_RR_J hC (q_jk_T (i := i + 1) hT hk) hs1 (q_jk_kids hT hk (by omega) (by omega) hin) h
        rw [q_jk_S hin (by omega)] at g
        exact ih _ (by omega) g
theorem q_RR_jn (hC : q_DC n wv A) (hT : q_T n sp) {k : Nat} (hk : k < 16) (h : q_RR n sp A x) : q_RR n (q_jn sp k) A (q_un n wv sp k 7 x) := q_RR_JJ hC hT hk 7 x (by omega) (by rw [q_jk_7]; exact h)
theorem q_T_jn (hT : q_T n sp) {k : Nat} (hk : k < 16) : q_T n (q_jn sp k) := by rw [← q_jk_0]; exact q_jk_T hT hk
theorem q_wd2 (hn : n = 4 ∨ n = 8 ∨ n = 16 ∨ n = 32) {i : Nat} (h1 : 2 ≤ i) (h8 : i < 8) : 2 ≤ q_wd n (i / 2) := by
  have key : ∀ m : Fin 4, ∀ i : Fin 8, i.val < 2 ∨ 2 ≤ q_wd (4 * 2 ^ m.val) (i.val / 2) := by decide +kernel
  obtain ⟨m, rfl⟩ := q_nfin hn
  rcases key m ⟨i, h8⟩ with z | z
  · exact absurd z (by dsimp only; omega)
  · exact z
/-- after the way down to node i -/
def q_dI (n : Nat) (A : Nat → Int64) (i : Nat) (S : q_S) : Prop := (∀ j, S.1 j = q_fu n i j) ∧ q_T n S.1 ∧ q_RR n S.1 A S.2.1 ∧ ∀ j, 1 ≤ j → j < i → S.2.2 j = nI (q_wt n A j)
theorem q_d1_I (hC : q_DC n wv A) {i : Nat} {S : q_S} (h1 : 1 ≤ i) (h8 : i < 8) (h : q_dI n A i S) : q_dI n A (i + 1) (q_d1 n wv i S) := by
  obtain ⟨hs, hT, hR, hc⟩ := h
  have hsi : S.1 i = false := by rw [hs]; unfold q_fu; rw [decide_eq_false (show ¬ i < i by omega)]; simp
  have hx : q_ex S.1 i = true := by
    by_cases e1 : i = 1
    · rw [e1]; rfl
    · rw [q_ex_kid (k := i / 2) (by omega) (by omega) rfl, hs, q_fu_t]
      exact ⟨by omega, by omega, q_wd2 hT.1 (by omega) h8⟩
  have hw : q_cs S.2.1 (q_so n i) (q_wd n i) = q_wt n A i := q_cs_cg _ (fun j hj => (hR i (by omega) hx hsi j hj).symm)
  unfold q_d1
  rw [if_pos hx]
  have hcost : ∀ j, 1 ≤ j → j < i + 1 → (if j = i then nI (q_cs S.2.1 (q_so n i) (q_wd n i)) else S.2.2 j) = nI (q_wt n A j) := by
    intro j j1 j2
    by_cases hj : j = i
    · rw [if_pos hj, hw, hj]
    · rw [if_neg hj]; exact hc j j1 (by omega)
  by_cases h2 : 2 ≤ q_wd n i
  · have hcan : q_can n S.1 i = true := by
      unfold q_can; rw [hx, hsi, decide_eq_true h8, decide_eq_true h2]; rfl
    rw [if_pos hcan]
    refine ⟨fun j => ?_, q_T_spl hT h1 h8 hx h2, q_RR_S hC hT h1 h8 hx hsi h2 hR, hcost⟩
    show (if j = i then true else S.1 j) = _
    by_cases hj : j = i
    · rw [if_pos hj, hj]; exact (q_fu_t.mpr ⟨h1, by omega, h2⟩).symm
    · rw [if_neg hj, hs]
      unfold q_fu
      have : decide (j < i + 1) = decide (j < i) := by
        by_cases z : j < i
        · rw [decide_eq_true z, decide_eq_true (by omega)]
        · rw [decide_eq_false z, decide_eq_false (by omega)]
      rw [this]
  · have hcan : ¬ q_can n S.1 i = true := by
      unfold q_can; rw [decide_eq_false h2, Bool.and_false]; exact Bool.false_ne_true
    rw [if_neg hcan]
    refine ⟨fun j => ?_, hT, hR, hcost⟩
    show S.1 j = _
    rw [hs]
    by_cases hj : j = i
    · rw [hj]
      have e1 : q_fu n i i = false := by cases z : q_fu n i i; rfl; exact absurd (q_fu_t.mp z).2.1 (by omega)
      have e2 : q_fu n (i + 1) i = false := by cases z : q_fu n (i + 1) i; rfl; exact absurd (q_fu_t.mp z).2.2 h2
      rw [e1, e2]
    · unfold q_fu
      have : decide (j < i + 1) = decide (j < i) := by
        by_cases z : j < i
        · rw [decide_eq_true z, decide_eq_true (by omega)]
        · rw [decide_eq_false z, decide_eq_false (by omega)]
      rw [this]
theorem q_dsn_I (hC : q_DC n wv A) : ∀ (d i : Nat) (S : q_S), 1 ≤ i → i + d ≤ 8 → q_dI n A i S → q_dI n A (i + d) (q_dsn n wv d i S)
  | 0, _, _, _, _, h => h
  | d + 1, i, S, h1, h8, h => by
    rw [q_dsn, show i + (d + 1) = i + 1 + d by omega]
    exact q_dsn_I hC d (i + 1) _ (by omega) (by omega) (q_d1_I hC h1 (by omega) h)
/-- after the way up from node i -/
def q_uI (n : Nat) (A : Nat → Int64) (E i : Nat) (S : q_S) : Prop := q_T n S.1 ∧ q_RR n S.1 A S.2.1 ∧ (∀ j, j ≤ i → S.1 j = q_fu n E j) ∧ (∀ j, i < j → j < 16 → S.1 j = ((q_gg n A E (15 - i)).2 j && (decide (j / 2 ≤ i) || S.1 (j / 2)))) ∧ (∀ j, i < j → j < 16 → q_ex S.1 j = true → q_sm S.1 (q_wt n A) j 16 = (q_gg n A E (15 - i)).1 j) ∧ ∀ j, 1 ≤ j → j < E → S.2.2 j = nI (q_wt n A j)
theorem q_wd_up (hn : n = 4 ∨ n = 8 ∨ n = 16 ∨ n = 32) {j : Nat} (h2 : 2 ≤ j) (h16 : j < 16) (h : 2 ≤ q_wd n j) : 2 ≤ q_wd n (j / 2) := by
  have key : ∀ m : Fin 4, ∀ i : Fin 16, i.val < 2 ∨ q_wd (4 * 2 ^ m.val) i.val < 2 ∨ 2 ≤ q_wd (4 * 2 ^ m.val) (i.val / 2) := by decide +kernel
  obtain ⟨m, rfl⟩ := q_nfin hn
  rcases key m ⟨j, h16⟩ with z | z | z
  · exact absurd z (by dsimp only; omega)
  · exact absurd z (by dsimp only; omega)
  · exact z
theorem q_jn_in {k j : Nat} (h1 : 1 ≤ j) (h8 : j < 8) (h : q_in j k = true) : q_jn sp k j = false := if_pos ⟨h1, h8, h⟩
theorem q_jn_out {k j : Nat} (h : q_in j k = false) : q_jn sp k j = sp j := if_neg (fun z => by rw [h] at z; exact Bool.false_ne_true z.2.2)
theorem q_u1_I (hC : q_DC n wv A) {E i : Nat} (hE : E ≤ 8) {S : q_S} (h8 : i < 7) (h : q_uI n A E (i + 1) S) : q_uI n A E i (q_u1 n wv (i + 1) S) := by
  obtain ⟨hT, hR, hlo, hhi, hg, hc⟩ := h
  have hn := hT.n32
  have hGe : q_gg n A E (15 - i) = q_g1 n A E (i + 1) (q_gg n A E (15 - (i + 1))) := by
    rw [show 15 - i = (15 - (i + 1)) + 1 by omega, q_gg, show 15 - (15 - (i + 1)) = i + 1 by omega]
  have hGf := q_gg_f (n := n) (A := A) (E := E) (15 - (i + 1))
  have hGl := q_gg_le (n := n) (A := A) (E := E) hn (15 - (i + 1))
  unfold q_uI
  rw [hGe]
  generalize q_gg n A E (15 - (i + 1)) = G at hhi hg hGf hGl ⊢
  have hsi := hlo (i + 1) (Nat.le_refl _)
  have g2 : (q_g1 n A E (i + 1) G).2 (i + 1) = q_gc n A E (i + 1) G := if_pos rfl
  have g2n : ∀ j, j ≠ i + 1 → (q_g1 n A E (i + 1) G).2 j = G.2 j := fun j hj => if_neg hj
  have g1n : ∀ j, j ≠ i + 1 → (q_g1 n A E (i + 1) G).1 j = G.1 j := fun j hj => if_neg hj
  have g1 : (q_g1 n A E (i + 1) G).1 (i + 1) = if q_gc n A E (i + 1) G = true then G.1 (2 * (i + 1)) + G.1 (2 * (i + 1) + 1) else q_wt n A (i + 1) := if_pos rfl
  have hdec : ∀ j, j / 2 ≠ i + 1 → decide (j / 2 ≤ i + 1) = decide (j / 2 ≤ i) := by
    intro j hj
    by_cases z : j / 2 ≤ i
    · rw [decide_eq_true z, decide_eq_true (by omega)]
    · rw [decide_eq_false z, decide_eq_false (by omega)]
  have hd0 : decide (i + 1 ≤ i) = false := decide_eq_false (by omega)
  have hd1 : decide (i + 1 ≤ i + 1) = true := decide_eq_true (Nat.le_refl _)
  cases hf : q_fu n E (i + 1)
  · rw [hf] at hsi
    have hgc : q_gc n A E (i + 1) G = false := by
      cases z : q_gc n A E (i + 1) G
      · rfl
      · unfold q_gc at z
        rw [Bool.and_eq_true, Bool.and_eq_true, decide_eq_true_eq, decide_eq_true_eq] at z
        rw [q_fu_t.mpr ⟨by omega, z.1.1, z.1.2⟩] at hf
        exact absurd hf.symm Bool.false_ne_true
    rw [hgc] at g2 g1
    rw [if_neg Bool.false_ne_true] at g1
    have hu : q_u1 n wv (i + 1) S = S := by unfold q_u1; rw [hsi, if_neg Bool.false_ne_true]
    rw [hu]
    refine ⟨hT, hR, fun j hj => hlo j (by omega), fun j j1 j2 => ?_, fun j j1 j2 hx => ?_, hc⟩
    · by_cases hj : j = i + 1
      · rw [hj, hsi, g2, Bool.false_and]
      · rw [g2n j hj, hhi j (by omega) j2]
        by_cases hj2 : j / 2 = i + 1
        · have hz : G.2 j = false := by
            cases z : G.2 j
            · rfl
            · have y := hGf j z
              have y2 := q_wd_up hT.1 (show 2 ≤ j by omega) j2 y.2
              rw [hj2] at y2
              rw [q_fu_t.mpr ⟨by omega, by omega, y2⟩] at hf
              exact absurd hf.symm Bool.false_ne_true
          rw [hz, Bool.false_and, Bool.false_and]
        · rw [hdec j hj2]
    · by_cases hj : j = i + 1
      · rw [hj] at hx ⊢
        rw [q_sm_leaf hT hx hsi, g1]
      · rw [g1n j hj]; exact hg j (by omega) j2 hx
  · rw [hf] at hsi
    have hfu := q_fu_t.mp hf
    have k1 : q_ex S.1 (2 * (i + 1)) = true := by rw [q_ex_kid (k := i + 1) (by omega) (by omega) (by omega)]; exact hsi
    have k2 : q_ex S.1 (2 * (i + 1) + 1) = true := by rw [q_ex_kid (k := i + 1) (by omega) (by omega) (by omega)]; exact hsi
    have hbr : q_sm S.1 (q_wt n A) (i + 1) 16 = G.1 (2 * (i + 1)) + G.1 (2 * (i + 1) + 1) := by
      rw [q_sm_2 (by omega) (by omega) hsi, hg _ (by omega) (by omega) k1, hg _ (by omega) (by omega) k2]
    have hcs : q_cs S.2.1 (q_so n (i + 1)) (q_wd n (i + 1)) = G.1 (2 * (i + 1)) + G.1 (2 * (i + 1) + 1) := by
      rw [q_cs_sm hT hR (hT.ex (by omega) hsi), hbr]
    have hco := hc (i + 1) (by omega) hfu.2.1
    have hwl := q_wt_le (A := A) (j := i + 1) hn
    have l1 := hGl (2 * (i + 1))
    have l2 := hGl (2 * (i + 1) + 1)
    have hcond : (nI (q_cs S.2.1 (q_so n (i + 1)) (q_wd n (i + 1))) < S.2.2 (i + 1)) ↔ G.1 (2 * (i + 1)) + G.1 (2 * (i + 1) + 1) < q_wt n A (i + 1) := by
      rw [hcs, hco, nI_ltI (by omega) (by omega)]
    have hgc : q_gc n A E (i + 1) G = decide (G.1 (2 * (i + 1)) + G.1 (2 * (i + 1) + 1) < q_wt n A (i + 1)) := by
      unfold q_gc; rw [decide_eq_true hfu.2.1, decide_eq_true hfu.2.2]; rfl
    by_cases hlt : G.1 (2 * (i + 1)) + G.1 (2 * (i + 1) + 1) < q_wt n A (i + 1)
    · rw [decide_eq_true hlt] at hgc
      rw [hgc] at g2 g1
      rw [if_pos rfl] at g1
      have hu : q_u1 n wv (i + 1) S = S := by unfold q_u1; rw [hsi, if_pos rfl, if_pos (hcond.mpr hlt)]
      rw [hu]
      refine ⟨hT, hR, fun j hj => hlo j (by omega), fun j j1 j2 => ?_, fun j j1 j2 hx => ?_, hc⟩
      · by_cases hj : j = i + 1
        · rw [hj, hsi, g2, decide_eq_true (show (i + 1) / 2 ≤ i by omega)]; rfl
        · rw [g2n j hj, hhi j (by omega) j2]
          by_cases hj2 : j / 2 = i + 1
          · rw [hj2, hd0, hd1, hsi]; rfl
          · rw [hdec j hj2]
      · by_cases hj : j = i + 1
        · rw [hj, hbr, g1]
        · rw [g1n j hj]; exact hg j (by omega) j2 hx
    · rw [decide_eq_false hlt] at hgc
      rw [hgc] at g2 g1
      rw [if_neg Bool.false_ne_true] at g1
      have hu : q_u1 n wv (i + 1) S = (q_jn S.1 (i + 1), q_un n wv S.1 (i + 1) 7 S.2.1, S.2.2) := by unfold q_u1; rw [hsi, if_pos rfl, if_neg (fun z => hlt (hcond.mp z))]
      rw [hu]
      have hT' := q_T_jn hT (show i + 1 < 16 by omega)
      have hself : q_in (i + 1) (i + 1) = true := (q_inF (i + 1) (i + 1) (i + 1) (by omega) (by omega) (by omega) (by omega) (by omega)).2.2.2
      have hlow : ∀ j, j ≤ i → q_jn S.1 (i + 1) j = S.1 j := fun j hj => q_jn_out (by
        cases z : q_in j (i + 1)
        · rfl
        · have := q_in_le j (by omega) (i + 1) (by omega) z; omega)
      have hji : q_jn S.1 (i + 1) (i + 1) = false := q_jn_in (by omega) (by omega) hself
      have hsub : ∀ j, i + 1 < j → j < 16 → q_in j (i + 1) = true → q_jn S.1 (i + 1) (j / 2) = false ∧ i < j / 2 := by
        intro j j1 j2 z
        have y := (q_inF j (i + 1) (i + 1) j2 (by omega) (by omega) (by omega) (by omega)).2.2.1 z (by omega)
        exact ⟨q_jn_in (by omega) (by omega) y.2, by have := q_in_le (j / 2) (by omega) (i + 1) (by omega) y.2; omega⟩
      have hup : ∀ j, 2 ≤ j → j < 16 → q_in j (i + 1) = false → q_in (j / 2) (i + 1) = false := by
        intro j j1 j2 z
        cases y : q_in (j / 2) (i + 1)
        · rfl
        · rw [(q_inF j (i + 1) (i + 1) j2 (by omega) (by omega) (by omega) (by omega)).2.1 j1 y] at z
          exact absurd z.symm Bool.false_ne_true
      refine ⟨hT', q_RR_jn hC hT (by omega) hR, fun j hj => (hlow j hj).trans (hlo j (by omega)), fun j j1 j2 => ?_, fun j j1 j2 hx => ?_, hc⟩
      · dsimp only
        by_cases hj : j = i + 1
        · rw [hj, hji, g2, Bool.false_and]
        · rw [g2n j hj]
          cases hin : q_in j (i + 1)
          · rw [q_jn_out hin, q_jn_out (hup j (by omega) j2 hin), hhi j (by omega) j2]
            have hj2 : j / 2 ≠ i + 1 := fun z => by
              have := hup j (by omega) j2 hin
              rw [z, hself] at this; exact Bool.false_ne_true this.symm
            rw [hdec j hj2]
          · have hs2 := hsub j (by omega) j2 hin
            rw [hs2.1, decide_eq_false (by omega), Bool.or_self, Bool.and_false]
            by_cases hj8 : j < 8
            · exact q_jn_in (by omega) hj8 hin
            · exact hT'.2.2.1 j (by omega)
      · dsimp only at hx ⊢
        by_cases hj : j = i + 1
        · rw [hj] at hx ⊢
          rw [q_sm_leaf hT' hx hji, g1]
        · have hin : q_in j (i + 1) = false := by
            cases z : q_in j (i + 1)
            · rfl
            · exfalso
              have hs2 := hsub j (by omega) j2 z
              rw [q_ex_kid (k := j / 2) (by omega) j2 rfl, hs2.1] at hx
              exact Bool.false_ne_true hx
          have hex : ∀ m, 2 ≤ m → m < 16 → q_in m (i + 1) = false → q_ex (q_jn S.1 (i + 1)) m = q_ex S.1 m := by
            intro m m1 m2 z
            rw [q_ex_kid (k := m / 2) m1 m2 rfl, q_ex_kid (k := m / 2) m1 m2 rfl, q_jn_out (hup m m1 m2 z)]
          rw [hex j (by omega) j2 hin] at hx
          rw [g1n j hj, ← hg j (by omega) j2 hx]
          refine q_sm_cg 16 (Nat.le_refl _) (fun m hm hmj => ?_)
          have hle := q_in_le m hm j j2 hmj
          have hmi : q_in m (i + 1) = false := by
            cases z : q_in m (i + 1)
            · rfl
            · rw [(q_inF m j (i + 1) hm j2 (by omega) (by omega) (by omega)).1 hmj z (by omega)] at hin
              exact absurd hin.symm Bool.false_ne_true
          exact ⟨q_jn_out hmi, hex m (by omega) hm hmi, fun _ _ => rfl⟩
theorem q_upn_I (hC : q_DC n wv A) {E : Nat} (hE : E ≤ 8) : ∀ (i : Nat) (S : q_S), i ≤ 7 → q_uI n A E i S → q_uI n A E 0 (q_upn n wv i S)
  | 0, _, _, h => h
  | i + 1, S, h7, h => by
    rw [q_upn]
    exact q_upn_I hC hE i _ (by omega) (q_u1_I hC hE (by omega) h)
end Cb
