/-! ROWS THAT AGREE BELOW m -/
theorem q_lf_cg {wv st : Nat} {sg : Int64} {s h m : Nat} {x y : Nat → Int64} (h1 : 1 ≤ h) (hb : s + 2 * h ≤ m) (hxy : ∀ j, j < m → x j = y j) : ∀ j, j < m → q_lf wv st sg s h x j = q_lf wv st sg s h y j := by
  intro j hj
  unfold q_lf
  by_cases he : st % 2 = 0
  · rw [if_pos he, if_pos he]
    unfold q_seg
    by_cases hc : s + h ≤ j ∧ j < s + h + h
    · have hx : q_nx h (j - (s + h)) < h := by unfold q_nx; split <;> omega
      rw [if_pos hc, if_pos hc]
      unfold q_newO
      rw [hxy j hj, hxy (j - h) (by omega), hxy (s + q_nx h (j - (s + h))) (by omega)]
    · rw [if_neg hc, if_neg hc]; exact hxy j hj
  · rw [if_neg he, if_neg he]
    unfold q_seg
    by_cases hc : s ≤ j ∧ j < s + h
    · rw [if_pos hc, if_pos hc]
      unfold q_newE
      rw [hxy j hj, hxy (s + h + (j - s - 1)) (by omega), hxy (j + h) (by omega)]
    · rw [if_neg hc, if_neg hc]; exact hxy j hj
theorem q_mix_cg {s h m : Nat} {x y : Nat → Int64} (hb : s + 2 * h ≤ m) (hxy : ∀ j, j < m → x j = y j) : ∀ j, j < m → q_mix s h x j = q_mix s h y j := by
  intro j hj
  unfold q_mix
  by_cases hc : s ≤ j ∧ j < s + 2 * h
  · rw [if_pos hc, if_pos hc]
    rw [hxy (s + (j - s) / 2) (by omega), hxy (s + h + (j - s) / 2) (by omega)]
  · rw [if_neg hc, if_neg hc]; exact hxy j hj
theorem q_dns_cg {wv s h m : Nat} (h1 : 1 ≤ h) (hb : s + 2 * h ≤ m) : ∀ (k : Nat) (x y : Nat → Int64), (∀ j, j < m → x j = y j) → ∀ j, j < m → q_dns wv s h k x j = q_dns wv s h k y j
  | 0, _, _, hxy => hxy
  | k + 1, x, y, hxy => by
    rw [q_dns, q_dns]
    exact q_dns_cg h1 hb k _ _ (q_lf_cg h1 hb hxy)
theorem q_un_cg {n wv : Nat} {sp : Nat → Bool} {top m : Nat} (hT : q_T n sp) (hm : n ≤ m) : ∀ (k : Nat), k ≤ 7 → ∀ (x y : Nat → Int64), (∀ j, j < m → x j = y j) → ∀ j, j < m → q_un n wv sp top k x j = q_un n wv sp top k y j
  | 0, _, _, _, hxy => hxy
  | k + 1, hk, x, y, hxy => by
    rw [q_un, q_un]
    by_cases hc : (sp (k + 1) && q_in (k + 1) top) = true
    · rw [if_pos hc, if_pos hc]
      rw [Bool.and_eq_true] at hc
      have h2 := hT.2.2.2.2 (k + 1) (by omega) (by omega) hc.1
      have hg := q_geo0 (k + 1) (by omega) (by omega) n hT.1
      have hb : q_so n (k + 1) + 2 * (q_wd n (k + 1) / 2) ≤ m := by omega
      exact q_un_cg hT hm k (by omega) _ _ (q_mix_cg hb (q_dns_cg (by omega) hb _ _ _ hxy))
    · rw [if_neg hc, if_neg hc]
      exact q_un_cg hT hm k (by omega) _ _ hxy
section Cg
variable {n wv : Nat} {sp : Nat → Bool} {x : Nat → Int64} {w : pW}
theorem q_cSample2 (h : q_K n wv sp x w) (a : Int32) : if q_pt n a < n then q_Z w n wv sp x (p_ev none 46 0 [.ref 0, .int a] [] w) (some (.long (q_un n wv sp 1 7 x (q_pt n a)))) else p_ev none 46 0 [.ref 0, .int a] [] w = some (.inr (.inl 2), w, 1) := by
  have g := q_cSample h a
  have hn := h.2.1.n32
  by_cases hp : q_pt n a < n
  · rw [if_pos hp] at g ⊢
    obtain ⟨y, hy, hz⟩ := g
    rw [q_un_cg (m := 32) h.2.1 hn 7 (Nat.le_refl 7) y x hy (q_pt n a) (by omega)] at hz
    exact hz
  · rw [if_neg hp] at g ⊢
    exact g
end Cg
