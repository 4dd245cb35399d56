/-! LIFTING RETURNS EXACTLY -/
theorem q_i64a {a c : Int64} : a + 1 * c + -1 * c = a := by
  rw [Int64.one_mul, Int64.neg_mul, Int64.one_mul, Int64.add_assoc, Int64.add_right_neg, Int64.add_zero]
theorem q_i64b {a c : Int64} : a + -1 * c + 1 * c = a := by
  rw [Int64.one_mul, Int64.neg_mul, Int64.one_mul, Int64.add_assoc, Int64.add_left_neg, Int64.add_zero]
def q_opp (s t : Int64) : Prop := ∀ a c : Int64, a + s * c + t * c = a
theorem q_opp1 : q_opp 1 (-1) := fun _ _ => q_i64a
theorem q_opp2 : q_opp (-1) 1 := fun _ _ => q_i64b
theorem q_lf_inv {wv st s h : Nat} {a b : Int64} (h1 : 1 ≤ h) (ho : q_opp a b) (y : Nat → Int64) : q_lf wv st b s h (q_lf wv st a s h y) = y := by
  funext j
  unfold q_lf
  by_cases he : st % 2 = 0
  · rw [if_pos he, if_pos he]
    unfold q_seg
    by_cases hj : s + h ≤ j ∧ j < s + h + h
    · rw [if_pos hj]
      have hx : q_nx h (j - (s + h)) < h := q_nx_lt h1 (by omega)
      have e1 : ∀ k, ¬ (s + h ≤ k ∧ k < s + h + h) → (if s + h ≤ k ∧ k < s + h + h then q_newO wv st a s h y k else y k) = y k := fun k hk => if_neg hk
      unfold q_newO
      unfold q_newO at e1
      dsimp only
      rw [if_pos hj, e1 _ (by omega), e1 _ (by omega)]
      exact ho _ _
    · rw [if_neg hj, if_neg hj]
  · rw [if_neg he, if_neg he]
    unfold q_seg
    by_cases hj : s ≤ j ∧ j < s + h
    · rw [if_pos hj]
      have e1 : ∀ k, ¬ (s ≤ k ∧ k < s + h) → (if s ≤ k ∧ k < s + h then q_newE wv st a s h y k else y k) = y k := fun k hk => if_neg hk
      unfold q_newE
      unfold q_newE at e1
      dsimp only
      rw [if_pos hj, e1 _ (by omega), e1 _ (by omega)]
      exact ho _ _
    · rw [if_neg hj, if_neg hj]
theorem q_deal_mix {s h : Nat} (y : Nat → Int64) : q_deal s h (q_mix s h y) = y := by
  funext j
  unfold q_deal q_mix
  by_cases h1 : s ≤ j ∧ j < s + h
  · rw [if_pos h1, if_pos (by omega), if_pos (by omega)]
    exact congrArg y (by omega)
  · rw [if_neg h1]
    by_cases h2 : s + h ≤ j ∧ j < s + 2 * h
    · rw [if_pos h2, if_pos (by omega), if_neg (by omega)]
      exact congrArg y (by omega)
    · rw [if_neg h2, if_neg (by omega)]
theorem q_ups_last {wv s h : Nat} : ∀ (d k : Nat) (y : Nat → Int64), q_ups wv s h (d + 1) k y = q_lf wv (k + d) 1 s h (q_ups wv s h d k y)
  | 0, _, _ => rfl
  | d + 1, k, y => by
    have h1 := q_ups_last (wv := wv) (s := s) (h := h) d (k + 1) (q_lf wv k 1 s h y)
    rw [q_ups, h1, show k + 1 + d = k + (d + 1) by omega, ← q_ups]
theorem q_ups_dns {wv s h : Nat} (h1 : 1 ≤ h) : ∀ (m : Nat) (y : Nat → Int64), q_ups wv s h m 0 (q_dns wv s h m y) = y
  | 0, _ => rfl
  | m + 1, y => by
    rw [q_dns, q_ups_last, q_ups_dns h1 m, Nat.zero_add, q_lf_inv h1 q_opp2]
theorem q_spl_joi {n wv k : Nat} (h2 : 2 ≤ q_wd n k) (y : Nat → Int64) : q_spl n wv k (q_joi n wv k y) = y := by
  unfold q_spl q_joi
  rw [q_deal_mix, q_ups_dns (by omega)]
theorem q_ps_inv {wv st h : Nat} {a b : Int64} (ho : q_opp a b) (p : (Nat → Int64) × (Nat → Int64)) : q_ps wv st b h (q_ps wv st a h p) = p := by
  unfold q_ps
  by_cases he : st % 2 = 0
  · rw [if_pos he, if_pos he]
    refine Prod.ext rfl ?_
    funext j
    dsimp only
    unfold q_pO q_seg
    by_cases hj : 0 ≤ j ∧ j < 0 + h
    · rw [if_pos hj]
      dsimp only
      rw [if_pos hj]
      exact ho _ _
    · rw [if_neg hj, if_neg hj]
  · rw [if_neg he, if_neg he]
    refine Prod.ext ?_ rfl
    funext j
    dsimp only
    unfold q_pE q_seg
    by_cases hj : 0 ≤ j ∧ j < 0 + h
    · rw [if_pos hj]
      dsimp only
      rw [if_pos hj]
      exact ho _ _
    · rw [if_neg hj, if_neg hj]
theorem q_pu2_last {wv h : Nat} : ∀ (d k : Nat) (p : (Nat → Int64) × (Nat → Int64)), q_pu2 wv h (d + 1) k p = q_ps wv (k + d) 1 h (q_pu2 wv h d k p)
  | 0, _, _ => rfl
  | d + 1, k, p => by
    have h1 := q_pu2_last (wv := wv) (h := h) d (k + 1) (q_ps wv k 1 h p)
    rw [q_pu2, h1, show k + 1 + d = k + (d + 1) by omega, ← q_pu2]
theorem q_pd2_pu2 {wv h : Nat} : ∀ (m : Nat) (p : (Nat → Int64) × (Nat → Int64)), q_pd2 wv h m (q_pu2 wv h m 0 p) = p
  | 0, _ => rfl
  | m + 1, p => by
    rw [q_pd2, q_pu2_last, Nat.zero_add, q_ps_inv q_opp1, q_pd2_pu2 m]
/-! THE WHOLE DECOMPOSITION OF A SIGNAL, all nodes in rows of 32 -/
def q_D1 (n wv i : Nat) (A : Nat → Int64) : Nat → Int64 := fun m => if 64 * i ≤ m ∧ m < 64 * i + 32 then (q_pu2 wv (q_wd n i / 2) (q_nst wv) 0 (q_un2 A i)).1 (m - 64 * i) else if 64 * i + 32 ≤ m ∧ m < 64 * i + 64 then (q_pu2 wv (q_wd n i / 2) (q_nst wv) 0 (q_un2 A i)).2 (m - 64 * i - 32) else A m
def q_Dn (n wv : Nat) (A : Nat → Int64) : Nat → (Nat → Int64)
  | 0 => A
  | i + 1 => q_D1 n wv (i + 1) (q_Dn n wv A i)
def q_DA (n wv : Nat) (y : Nat → Int64) : Nat → Int64 := q_Dn n wv (fun m => y (m - 32)) 7
theorem q_Dn_row {n wv : Nat} {A : Nat → Int64} : ∀ (d i m : Nat), m < 64 * (i + 1) → q_Dn n wv A (i + d) m = q_Dn n wv A i m
  | 0, _, _, _ => rfl
  | d + 1, i, m, hm => by
    rw [show i + (d + 1) = (i + d) + 1 by omega, q_Dn, q_D1]
    rw [if_neg (by omega), if_neg (by omega)]
    exact q_Dn_row d i m hm
/-- a full decomposition: all nodes' rows hang together -/
def q_DC (n wv : Nat) (A : Nat → Int64) : Prop := ∀ i, 1 ≤ i → i < 8 → 2 ≤ q_wd n i → ∀ j, j < q_wd n i / 2 → A (64 * i + j) = (q_pu2 wv (q_wd n i / 2) (q_nst wv) 0 (q_un2 A i)).1 j ∧ A (64 * i + 32 + j) = (q_pu2 wv (q_wd n i / 2) (q_nst wv) 0 (q_un2 A i)).2 j
theorem q_DA_C {n wv : Nat} {y : Nat → Int64} (hn : n ≤ 32) : q_DC n wv (q_DA n wv y) := by
  intro i h1 h8 h2 j hj
  have hw := q_wdle n i
  obtain ⟨i0, rfl⟩ : ∃ i0, i = i0 + 1 := ⟨i - 1, by omega⟩
  have e : 7 = (i0 + 1) + (6 - i0) := by omega
  have e2 : 7 = i0 + (7 - i0) := by omega
  have hrow : ∀ m, m < 64 * (i0 + 2) → q_DA n wv y m = q_Dn n wv (fun m => y (m - 32)) (i0 + 1) m := by
    intro m hm
    unfold q_DA
    rw [e]; exact q_Dn_row _ _ _ hm
  have hrow2 : ∀ m, m < 64 * (i0 + 1) → q_DA n wv y m = q_Dn n wv (fun m => y (m - 32)) i0 m := by
    intro m hm
    unfold q_DA
    rw [e2]; exact q_Dn_row _ _ _ hm
  have hcg : q_eq2 (q_wd n (i0 + 1) / 2) (q_pu2 wv (q_wd n (i0 + 1) / 2) (q_nst wv) 0 (q_un2 (q_DA n wv y) (i0 + 1))) (q_pu2 wv (q_wd n (i0 + 1) / 2) (q_nst wv) 0 (q_un2 (q_Dn n wv (fun m => y (m - 32)) i0) (i0 + 1))) := by
    refine q_pu2_cg (by omega) _ _ (fun k hk => ?_)
    unfold q_un2
    dsimp only
    rw [hrow2 _ (by omega), hrow2 _ (by omega)]
    exact ⟨rfl, rfl⟩
  rw [(hcg j hj).1, (hcg j hj).2, hrow _ (by omega), hrow _ (by omega), q_Dn]
  unfold q_D1
  rw [if_pos (by omega), if_neg (by omega), if_pos (by omega)]
  refine ⟨?_, ?_⟩ <;> exact congrArg _ (by omega)
theorem q_DA_1 {n wv : Nat} {y : Nat → Int64} {j : Nat} (hj : j < 32) : q_DA n wv y (32 + j) = y j := by
  unfold q_DA
  have := q_Dn_row (n := n) (wv := wv) (A := fun m => y (m - 32)) 7 0 (32 + j) (by omega)
  rw [Nat.zero_add] at this
  rw [this, q_Dn]
  exact congrArg y (by omega)
section Jo
variable {n wv k : Nat} {sp : Nat → Bool} {A x : Nat → Int64}
theorem q_RR_J (hC : q_DC n wv A) (hT : q_T n sp) (hs : sp k = true) (hc : sp (2 * k) = false ∧ sp (2 * k + 1) = false) (h : q_RR n sp A x) : q_RR n (q_st sp k false) A (q_joi n wv k x) := by
  have hk := hT.sp1 hs
  have h2 := hT.2.2.2.2 k hk.1 hk.2 hs
  refine q_RR_joi (wv := wv) hT hs hc h (fun j hj => ?_) (fun _ _ => rfl)
  have hcg : q_eq2 (q_wd n k / 2) (q_pd2 wv (q_wd n k / 2) (q_nst wv) (q_ch2 A k)) (q_pd2 wv (q_wd n k / 2) (q_nst wv) (q_pu2 wv (q_wd n k / 2) (q_nst wv) 0 (q_un2 A k))) := by
    refine q_pd2_cg (by omega) _ (fun i hi => ?_)
    unfold q_ch2
    exact hC k hk.1 hk.2 h2 i hi
  rw [(hcg j hj).1, (hcg j hj).2, q_pd2_pu2]
  exact ⟨rfl, rfl⟩
theorem q_RR_S (hC : q_DC n wv A) (hT : q_T n sp) (h1 : 1 ≤ k) (h8 : k < 8) (hx : q_ex sp k = true) (hs : sp k = false) (h2 : 2 ≤ q_wd n k) (h : q_RR n sp A x) : q_RR n (q_st sp k true) A (q_spl n wv k x) :=
  q_RR_spl hT h1 h8 hx hs h2 h (fun j hj => hC k h1 h8 h2 j hj) (fun _ _ => rfl)
theorem q_RR_K (hC : q_DC n wv A) (hT : q_T n sp) : ∀ (i : Nat) (y : Nat → Int64), i ≤ 7 → q_RR n (fun _ => false) A (q_un n wv sp 1 i y) → q_RR n (q_cut sp i) A y := by
  intro i
  induction i with
  | zero => intro y _ h; rw [q_cut_0 hT]; exact h
  | succ i ih =>
    intro y hi h
    rw [q_un_S, q_inT (i + 1) (by omega) (by omega), Bool.and_true] at h
    cases hs : sp (i + 1)
    · rw [hs, if_neg Bool.false_ne_true] at h
      rw [q_cut_N hs]
      exact ih y (by omega) h
    · rw [hs, if_pos rfl] at h
      have h2 := hT.2.2.2.2 (i + 1) (by omega) (by omega) hs
      have g := ih _ (by omega) h
      have hne : ∀ j, i < j → q_cut sp i j = false := fun j hj => by unfold q_cut; rw [if_neg (by omega)]
      have hx : q_ex (q_cut sp i) (i + 1) = true := by
        have hex := hT.ex (show 1 ≤ i + 1 by omega) hs
        unfold q_ex at hex ⊢
        simp only [Bool.or_eq_true, Bool.and_eq_true, decide_eq_true_eq] at hex ⊢
        rcases hex with z | ⟨z1, z2⟩
        · exact Or.inl z
        · refine Or.inr ⟨z1, ?_⟩
          unfold q_cut; rw [if_pos (by omega)]; exact z2
      have g2 := q_RR_S (k := i + 1) hC (q_cut_T hT (i := i)) (by omega) (by omega) hx (hne _ (by omega)) h2 g
      rw [q_spl_joi h2] at g2
      have e : q_st (q_cut sp i) (i + 1) true = q_cut sp (i + 1) := by
        funext j; unfold q_st q_cut
        by_cases h1 : j = i + 1
        · rw [if_pos h1, h1, if_pos (Nat.le_refl _), hs]
        · rw [if_neg h1]
          by_cases h3 : j ≤ i
          · rw [if_pos h3, if_pos (by omega)]
          · rw [if_neg h3, if_neg (by omega)]
      rw [e] at g2; exact g2
/-- the leaves' numbers of any tree stand in the decomposition of its signal -/
theorem q_RR_D (hT : q_T n sp) : q_RR n sp (q_DA n wv (q_un n wv sp 1 7 x)) x := by
  have h := q_RR_K (A := q_DA n wv (q_un n wv sp 1 7 x)) (q_DA_C hT.n32) hT 7 x (by omega) (by
    intro i hi ei li k hk
    have e1 : i = 1 := by
      unfold q_ex at ei
      simpa using ei
    subst e1
    have hw1 : q_wd n 1 = n := Nat.div_one n
    have hs1 : q_so n 1 = 0 := by unfold q_so; rw [show 1 - 2 ^ q_lv 1 = 0 from rfl, Nat.zero_mul]
    have hn := hT.n32
    rw [hw1] at hk
    rw [hs1, Nat.zero_add]
    exact q_DA_1 (by omega))
  rw [q_cut_7 hT] at h
  exact h
theorem q_RR_root (hT : q_T n sp) (hC : q_DC n wv A) (h : q_RR n sp A x) : ∀ i, i ≤ 7 → ∀ y, q_RR n (q_cut sp i) A y → q_RR n (fun _ => false) A (q_un n wv sp 1 i y) := by
  intro i
  induction i with
  | zero => intro _ y hy; rw [q_cut_0 hT] at hy; exact hy
  | succ i ih =>
    intro hi y hy
    rw [q_un_S, q_inT (i + 1) (by omega) (by omega), Bool.and_true]
    cases hs : sp (i + 1)
    · rw [if_neg Bool.false_ne_true]
      rw [q_cut_N hs] at hy
      exact ih (by omega) y hy
    · rw [if_pos rfl]
      have hc1 : q_cut sp (i + 1) (i + 1) = true := by unfold q_cut; rw [if_pos (Nat.le_refl _)]; exact hs
      have hR1 := q_RR_J hC (q_cut_T hT (i := i + 1)) hc1 ⟨by unfold q_cut; rw [if_neg (by omega)], by unfold q_cut; rw [if_neg (by omega)]⟩ hy
      rw [q_cut_S] at hR1
      exact ih (by omega) _ hR1
/-- the signal of a tree whose leaves stand in a decomposition -/
theorem q_RR_un (hT : q_T n sp) (hC : q_DC n wv A) (h : q_RR n sp A x) : ∀ j, j < n → q_un n wv sp 1 7 x j = A (32 + j) := by
  intro j hj
  have h2 := q_RR_root hT hC h 7 (by omega) x (by rw [q_cut_7 hT]; exact h)
  have hw1 : q_wd n 1 = n := Nat.div_one n
  have hs1 : q_so n 1 = 0 := by unfold q_so; rw [show 1 - 2 ^ q_lv 1 = 0 from rfl, Nat.zero_mul]
  have := h2 1 (by omega) rfl rfl j (by rw [hw1]; exact hj)
  rw [hs1, Nat.zero_add] at this
  exact this.symm
end Jo
