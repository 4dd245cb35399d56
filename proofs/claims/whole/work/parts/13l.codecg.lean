/-! THE CODE DEPENDS ON THE ROW'S FIRST n NUMBERS ALONE -/
theorem q_pa_n {n lo p : Nat} (h1 : 1 ≤ lo) (h : p < n) : q_pa lo p < n := by unfold q_pa; split <;> omega
theorem q_rd_cg {n lo : Nat} (h1 : 1 ≤ lo) : ∀ (k : Nat) (R S : Nat → Int64), k ≤ n → (∀ j, j < n → R j = S j) → ∀ j, j < n → q_rd lo k R j = q_rd lo k S j
  | 0, _, _, _, h => h
  | k + 1, R, S, hk, h => by
    rw [q_rd, q_rd]
    by_cases hc : lo ≤ k
    · rw [if_pos hc, if_pos hc]
      refine q_rd_cg h1 k _ _ (by omega) (fun j hj => ?_)
      rw [h _ (q_pa_n h1 (show k < n by omega)), h k (by omega), h j hj]
    · rw [if_neg hc, if_neg hc]; exact h
theorem q_mx_cg {n : Nat} {x y : Nat → Int64} (h : ∀ j, j < n → x j = y j) : ∀ k, k ≤ n → q_mx x k = q_mx y k
  | 0, _ => rfl
  | k + 1, hk => by rw [q_mx, q_mx, q_mx_cg h k (by omega), h k (by omega)]
theorem q_f1_cg {n lo pl p : Nat} {x y R S : Nat → Int64} (h1 : 1 ≤ lo) (hp : p < n) (h : ∀ j, j < n → x j = y j) (g : ∀ j, j < n → R j = S j) : q_f1 n lo x R pl p = q_f1 n lo y S pl p := by
  unfold q_f1 q_lft
  rw [h p hp, g p hp, g _ (q_pa_n h1 hp)]
theorem q_f2_cg {n lo pl : Nat} {x y R S : Nat → Int64} (h1 : 1 ≤ lo) (h : ∀ j, j < n → x j = y j) (g : ∀ j, j < n → R j = S j) : ∀ d k, k + d ≤ n → q_f2 n lo x R pl k d = q_f2 n lo y S pl k d
  | 0, _, _ => rfl
  | d + 1, k, hk => by rw [q_f2, q_f2, q_f1_cg h1 (show k < n by omega) h g, q_f2_cg h1 h g d (k + 1) (by omega)]
theorem q_s2_cg {n pl : Nat} {x y : Nat → Int64} (h : ∀ j, j < n → x j = y j) : ∀ d k, k + d ≤ n → q_s2 x pl k d = q_s2 y pl k d
  | 0, _, _ => rfl
  | d + 1, k, hk => by rw [q_s2, q_s2, q_s1, q_s1, h k (by omega), q_s2_cg h d (k + 1) (by omega)]
theorem q_pl_cg {n lo : Nat} {x y R S : Nat → Int64} (h1 : 1 ≤ lo) (h : ∀ j, j < n → x j = y j) (g : ∀ j, j < n → R j = S j) : ∀ k, q_pl n lo x R k = q_pl n lo y S k
  | 0 => rfl
  | k + 1 => by rw [q_pl, q_pl, q_f2_cg h1 h g n 0 (by omega), q_s2_cg h n 0 (by omega), q_pl_cg h1 h g k]
theorem q_code_cg {n lo : Nat} {x y R S : Nat → Int64} (h1 : 1 ≤ lo) (h : ∀ j, j < n → x j = y j) : q_code n lo x R = q_code n lo y S := by
  unfold q_code
  rw [q_mx_cg h n (Nat.le_refl _)]
  refine congrArg (q_hd (q_dg (q_mx y n)) 6 ++ ·) (q_pl_cg h1 h (q_rd_cg h1 n _ _ (Nat.le_refl _) (fun j hj => ?_)) _)
  unfold q_ab
  rw [if_pos hj, if_pos hj, h j hj]
/-- the code of a row -/
def q_cd (n lo : Nat) (x : Nat → Int64) : List q_ev := q_code n lo x (fun _ => lN 0)
theorem q_f1_ok {n lo pl p : Nat} {x R : Nat → Int64} (hp : p < 32) (hl : pl < 64) : ∀ e ∈ q_f1 n lo x R pl p, q_ok e := by
  intro e he
  unfold q_f1 at he
  by_cases h1 : q_sh (p_abs (x p)) pl = lN 1
  · rw [if_pos h1] at he
    simp only [List.mem_cons, List.not_mem_nil, or_false] at he
    rcases he with rfl | rfl
    · exact ⟨by show 1 < 2; omega, hp, hl⟩
    · exact ⟨by show (if x p < lN 0 then 1 else 0) < 2; split <;> omega, hp, hl⟩
  · rw [if_neg h1] at he
    by_cases h2 : q_sh (p_abs (x p)) pl = lN 0 ∧ q_lft lo p pl R = false
    · rw [if_pos h2] at he
      rcases List.mem_cons.mp he with rfl | he
      · exact ⟨by show 0 < 2; omega, hp, by show 0 < 64; omega⟩
      · by_cases h3 : q_de n lo p = true
        · rw [if_pos h3] at he
          rcases List.mem_singleton.mp he with rfl
          exact ⟨by show (if q_sh (R p) pl = lN 0 then 0 else 1) < 2; split <;> omega, hp, by show 0 < 64; omega⟩
        · rw [if_neg h3] at he; exact absurd he (by simp)
    · rw [if_neg h2] at he; exact absurd he (by simp)
theorem q_f2_ok {n lo pl : Nat} {x R : Nat → Int64} (hl : pl < 64) : ∀ d k, k + d ≤ 32 → ∀ e ∈ q_f2 n lo x R pl k d, q_ok e
  | 0, _, _, e, he => absurd he (by simp [q_f2])
  | d + 1, k, hk, e, he => by
    rw [q_f2] at he
    rcases List.mem_append.mp he with he | he
    · exact q_f1_ok (by omega) hl e he
    · exact q_f2_ok hl d (k + 1) (by omega) e he
theorem q_s2_ok {pl : Nat} {x : Nat → Int64} (hl : pl < 64) : ∀ d k, k + d ≤ 32 → ∀ e ∈ q_s2 x pl k d, q_ok e
  | 0, _, _, e, he => absurd he (by simp [q_s2])
  | d + 1, k, hk, e, he => by
    rw [q_s2] at he
    rcases List.mem_append.mp he with he | he
    · unfold q_s1 at he
      by_cases h : lN 1 < q_sh (p_abs (x k)) pl
      · rw [if_pos h] at he
        rcases List.mem_singleton.mp he with rfl
        exact ⟨q_b1_lt, by show k < 32; omega, hl⟩
      · rw [if_neg h] at he; exact absurd he (by simp)
    · exact q_s2_ok hl d (k + 1) (by omega) e he
theorem q_pl_ok {n lo : Nat} {x R : Nat → Int64} (hn : n ≤ 32) : ∀ k, k ≤ 64 → ∀ e ∈ q_pl n lo x R k, q_ok e
  | 0, _, e, he => absurd he (by simp [q_pl])
  | k + 1, hk, e, he => by
    rw [q_pl] at he
    rcases List.mem_append.mp he with he | he
    · exact q_f2_ok (by omega) n 0 (by omega) e he
    · rcases List.mem_append.mp he with he | he
      · exact q_s2_ok (by omega) n 0 (by omega) e he
      · exact q_pl_ok hn k (by omega) e he
theorem q_hd_ok {P : Nat} : ∀ d, ∀ e ∈ q_hd P d, q_ok e
  | 0, e, he => absurd he (by simp [q_hd])
  | d + 1, e, he => by
    rw [q_hd] at he
    rcases List.mem_cons.mp he with rfl | he
    · exact ⟨by show P / 2 ^ d % 2 < 2; omega, by show 0 < 32; omega, by show 0 < 64; omega⟩
    · exact q_hd_ok d e he
theorem q_cd_ok {n lo : Nat} {x : Nat → Int64} (hn : n ≤ 32) : ∀ e ∈ q_cd n lo x, q_ok e := by
  intro e he
  unfold q_cd q_code at he
  rcases List.mem_append.mp he with he | he
  · exact q_hd_ok 6 e he
  · exact q_pl_ok hn _ (by have := q_dg_le (x := q_mx x n); omega) e he
theorem q_cd_len {n lo : Nat} {x : Nat → Int64} (hn : n ≤ 32) : (q_cd n lo x).length ≤ 4038 := q_code_len hn
