/-! P30: THE LEAST COST, OF TREES THAT MAY BE SO AND SO DEEP -/
def ts_v (n : Nat) (A : Nat → Int64) (E j : Nat) : Nat := (q_gg n A E 15).1 j
theorem ts_gg_keep {n : Nat} {A : Nat → Int64} {E d j : Nat} (hj : 15 - d < j) : ∀ e, (q_gg n A E (d + e)).1 j = (q_gg n A E d).1 j
  | 0 => rfl
  | e + 1 => by
    rw [show d + (e + 1) = (d + e) + 1 by omega, q_gg, q_g1]
    dsimp only
    rw [if_neg (by omega)]
    exact ts_gg_keep hj e
theorem ts_v_eq {n : Nat} {A : Nat → Int64} {E j : Nat} (h1 : 1 ≤ j) (h15 : j ≤ 15) : ts_v n A E j = if j < E ∧ 2 ≤ q_wd n j ∧ ts_v n A E (2 * j) + ts_v n A E (2 * j + 1) < q_wt n A j then ts_v n A E (2 * j) + ts_v n A E (2 * j + 1) else q_wt n A j := by
  have a1 : ts_v n A E j = (q_gg n A E (16 - j)).1 j := by
    have := ts_gg_keep (n := n) (A := A) (E := E) (d := 16 - j) (j := j) (by omega) (j - 1)
    rw [show 16 - j + (j - 1) = 15 by omega] at this
    exact this
  have a2 : ∀ i, j < i → ts_v n A E i = (q_gg n A E (15 - j)).1 i := by
    intro i hi
    have := ts_gg_keep (n := n) (A := A) (E := E) (d := 15 - j) (j := i) (by omega) j
    rw [show 15 - j + j = 15 by omega] at this
    exact this
  rw [a2 (2 * j) (by omega), a2 (2 * j + 1) (by omega), a1, show 16 - j = (15 - j) + 1 by omega, q_gg, q_g1]
  dsimp only
  rw [show 15 - (15 - j) = j by omega, if_pos rfl]
  by_cases hc : j < E ∧ 2 ≤ q_wd n j ∧ (q_gg n A E (15 - j)).1 (2 * j) + (q_gg n A E (15 - j)).1 (2 * j + 1) < q_wt n A j
  · rw [if_pos hc, if_pos (by unfold q_gc; rw [decide_eq_true hc.1, decide_eq_true hc.2.1, decide_eq_true hc.2.2]; rfl)]
  · rw [if_neg hc, if_neg (fun z => hc (by
      unfold q_gc at z
      rw [Bool.and_eq_true, Bool.and_eq_true, decide_eq_true_eq, decide_eq_true_eq, decide_eq_true_eq] at z
      exact ⟨z.1.1, z.1.2, z.2⟩))]
theorem ts_v_le {n : Nat} {A : Nat → Int64} {E j : Nat} (h1 : 1 ≤ j) (h15 : j ≤ 15) : ts_v n A E j ≤ q_wt n A j := by
  rw [ts_v_eq h1 h15]
  split
  · next h => exact Nat.le_of_lt h.2.2
  · exact Nat.le_refl _
theorem ts_v_mono {n : Nat} {A : Nat → Int64} {E E' : Nat} (hE : E ≤ E') (h8 : E ≤ 8) : ∀ (d j : Nat), j + d = 15 → 1 ≤ j → ts_v n A E' j ≤ ts_v n A E j := by
  intro d
  induction d using Nat.strongRecOn with
  | ind d ih =>
    intro j hj h1
    have hle := ts_v_le (n := n) (A := A) (E := E') h1 (by omega)
    rw [ts_v_eq (E := E) h1 (by omega)]
    split
    · next h =>
      have b1 := ih (15 - 2 * j) (by omega) (2 * j) (by omega) (by omega)
      have b2 := ih (15 - (2 * j + 1)) (by omega) (2 * j + 1) (by omega) (by omega)
      rw [ts_v_eq (E := E') h1 (by omega), if_pos ⟨by omega, h.2.1, by omega⟩]
      omega
    · exact hle
theorem ts_v_least {n : Nat} {A : Nat → Int64} {sp : Nat → Bool} (hT : q_T n sp) : ∀ (d j : Nat), j + d = 15 → 1 ≤ j → q_ex sp j = true → ts_v n A 8 j ≤ q_sm sp (q_wt n A) j 16 := by
  intro d
  induction d using Nat.strongRecOn with
  | ind d ih =>
    intro j hj h1 hx
    cases hs : sp j
    · rw [q_sm_leaf hT hx hs]
      exact ts_v_le h1 (by omega)
    · have h8 := (hT.sp1 hs).2
      have h2 := hT.2.2.2.2 j h1 h8 hs
      have k1 : q_ex sp (2 * j) = true := by rw [q_ex_kid (k := j) (by omega) (by omega) (by omega)]; exact hs
      have k2 : q_ex sp (2 * j + 1) = true := by rw [q_ex_kid (k := j) (by omega) (by omega) (by omega)]; exact hs
      have b1 := ih (15 - 2 * j) (by omega) (2 * j) (by omega) (by omega) k1
      have b2 := ih (15 - (2 * j + 1)) (by omega) (2 * j + 1) (by omega) (by omega) k2
      rw [q_sm_2 h8 h1 hs, ts_v_eq h1 (by omega)]
      split
      · omega
      · next h =>
        have : ¬ ts_v n A 8 (2 * j) + ts_v n A 8 (2 * j + 1) < q_wt n A j := fun z => h ⟨h8, h2, z⟩
        omega
theorem ts_v_2016 {n : Nat} {A : Nat → Int64} {E j : Nat} (hn : n ≤ 32) : ts_v n A E j ≤ 2016 := q_gg_le hn 15 j
theorem ts_gg_cg {n : Nat} {A B : Nat → Int64} {E : Nat} (h : ∀ i, 1 ≤ i → i < 16 → q_wt n A i = q_wt n B i) : ∀ d, d ≤ 15 → q_gg n A E d = q_gg n B E d
  | 0, _ => rfl
  | d + 1, hd => by
    have e := h (15 - d) (by omega) (by omega)
    rw [q_gg, q_gg, ts_gg_cg h d (by omega)]
    unfold q_g1 q_gc
    rw [e]
/-- a full decomposition is known by its root -/
theorem ts_DC_u {n wv : Nat} {A B : Nat → Int64} (hn : n = 4 ∨ n = 8 ∨ n = 16 ∨ n = 32) (hA : q_DC n wv A) (hB : q_DC n wv B) (h0 : ∀ j, j < n → A (32 + j) = B (32 + j)) : ∀ i, 1 ≤ i → i < 16 → ∀ k, k < q_wd n i → A (32 * i + k) = B (32 * i + k) := by
  have hup : ∀ m : Fin 4, ∀ i : Fin 16, i.val < 2 ∨ q_wd (4 * 2 ^ m.val) i.val = 0 ∨ (2 ≤ q_wd (4 * 2 ^ m.val) (i.val / 2) ∧ q_wd (4 * 2 ^ m.val) i.val = q_wd (4 * 2 ^ m.val) (i.val / 2) / 2 ∧ 2 * (q_wd (4 * 2 ^ m.val) (i.val / 2) / 2) = q_wd (4 * 2 ^ m.val) (i.val / 2)) := by decide +kernel
  intro i
  induction i using Nat.strongRecOn with
  | ind i ih =>
    intro h1 h16 k hk
    rcases Nat.lt_or_ge i 2 with z | z
    · have e : i = 1 := by omega
      subst e
      rw [ts_wd1] at hk
      exact h0 k hk
    · obtain ⟨m, rfl⟩ := q_nfin hn
      rcases hup m ⟨i, h16⟩ with y | y | ⟨y1, y2, y3⟩
      · exact absurd y (by dsimp only; omega)
      · exact absurd hk (by dsimp only at y; omega)
      · dsimp only at y1 y2 y3
        have hcg : q_eq2 (q_wd (4 * 2 ^ m.val) (i / 2) / 2) (q_pu2 wv (q_wd (4 * 2 ^ m.val) (i / 2) / 2) (q_nst wv) 0 (q_un2 A (i / 2))) (q_pu2 wv (q_wd (4 * 2 ^ m.val) (i / 2) / 2) (q_nst wv) 0 (q_un2 B (i / 2))) := by
          refine q_pu2_cg (by omega) _ _ (fun j hj => ?_)
          unfold q_un2
          dsimp only
          exact ⟨ih (i / 2) (by omega) (by omega) (by omega) (2 * j) (by omega), ih (i / 2) (by omega) (by omega) (by omega) (2 * j + 1) (by omega)⟩
        have gA := hA (i / 2) (by omega) (by omega) y1 k (by omega)
        have gB := hB (i / 2) (by omega) (by omega) y1 k (by omega)
        have gc := hcg k (by omega)
        rcases Nat.mod_two_eq_zero_or_one i with hm | hm
        · have e : 32 * i + k = 64 * (i / 2) + k := by omega
          rw [e, gA.1, gB.1, gc.1]
        · have e : 32 * i + k = 64 * (i / 2) + 32 + k := by omega
          rw [e, gA.2, gB.2, gc.2]
theorem ts_wt_cg {n : Nat} {A B : Nat → Int64} (h : ∀ i, 1 ≤ i → i < 16 → ∀ k, k < q_wd n i → A (32 * i + k) = B (32 * i + k)) : ∀ i, 1 ≤ i → i < 16 → q_wt n A i = q_wt n B i := fun i h1 h2 => q_cs_cg _ (fun j hj => h i h1 h2 j hj)
theorem ts_RR_cg {n : Nat} {A B x : Nat → Int64} {sp : Nat → Bool} (h : ∀ i, 1 ≤ i → i < 16 → ∀ k, k < q_wd n i → A (32 * i + k) = B (32 * i + k)) (hR : q_RR n sp A x) : q_RR n sp B x := fun i hi ei li k hk => by
  rw [← h i (q_ex_b ei).1 hi k hk]
  exact hR i hi ei li k hk
/-- the best basis -/
theorem ts_best {n wv : Nat} {sp : Nat → Bool} {A x : Nat → Int64} (hT : q_T n sp) (hC : q_DC n wv A) (hR : q_RR n sp A x) {l : Nat} (h1 : 1 ≤ l) (h3 : l ≤ 3) (c0 : Nat → Int32) :
    q_T n (q_cb n wv l (sp, x, c0)).1 ∧ q_RR n (q_cb n wv l (sp, x, c0)).1 A (q_cb n wv l (sp, x, c0)).2.1 ∧ q_cs (q_cb n wv l (sp, x, c0)).2.1 (q_so n 1) (q_wd n 1) = ts_v n A (2 ^ l) 1 := by
  have hI := q_cb_I (wv := wv) (x := x) hT h1 h3 c0
  have hn := hT.n32
  have hag := ts_DC_u hT.1 (q_DA_C (n := n) (wv := wv) (y := q_un n wv sp 1 7 x) hn) hC (fun j hj => by
    rw [q_DA_1 (by omega)]
    exact q_RR_un hT hC hR j hj)
  generalize q_cb n wv l (sp, x, c0) = S at hI ⊢
  obtain ⟨iT, iR, -, -, iG, -⟩ := hI
  have iR2 := ts_RR_cg hag iR
  refine ⟨iT, iR2, ?_⟩
  rw [q_cs_sm iT iR (show q_ex S.1 1 = true from rfl), iG 1 (by omega) (by omega) rfl]
  unfold ts_v
  rw [ts_gg_cg (ts_wt_cg hag) 15 (Nat.le_refl _)]
theorem ts_cost {n : Nat} {sp : Nat → Bool} {A x : Nat → Int64} (hT : q_T n sp) (hR : q_RR n sp A x) : ts_v n A 8 1 ≤ q_cs x (q_so n 1) (q_wd n 1) := by
  rw [q_cs_sm hT hR (show q_ex sp 1 = true from rfl)]
  exact ts_v_least hT 14 1 rfl (Nat.le_refl 1) rfl
theorem ts_cost0 {n : Nat} {A x : Nat → Int64} (hR : q_RR n (fun _ => false) A x) : q_cs x (q_so n 1) (q_wd n 1) = q_wt n A 1 := q_cs_cg _ (fun j hj => (hR 1 (by omega) rfl rfl j hj).symm)
