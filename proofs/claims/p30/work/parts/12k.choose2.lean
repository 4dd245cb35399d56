/-! THE CLASS: THE BEST BASIS, UPWARDS -/
/-- what the way up does at node i -/
def q_u1 (n wv i : Nat) (S : q_S) : q_S := if S.1 i = true then (if nI (q_cs S.2.1 (q_so n i) (q_wd n i)) < S.2.2 i then S else (q_jn S.1 i, q_un n wv S.1 i 7 S.2.1, S.2.2)) else S
def q_upn (n wv : Nat) : Nat → q_S → q_S
  | 0, S => S
  | i + 1, S => q_upn n wv i (q_u1 n wv (i + 1) S)
/-- the tree and the row after chooseBasis of l levels -/
def q_cb (n wv l : Nat) (S : q_S) : q_S := q_upn n wv 7 (q_dsn n wv (2 ^ l - 1) 1 (q_jn S.1 1, q_un n wv S.1 1 7 S.2.1, S.2.2))
section Cu
variable {n wv : Nat} {sp : Nat → Bool} {x : Nat → Int64} {w : pW}
theorem q_up_l : ∀ (i : Nat) (S : q_S) (w : pW), i ≤ 7 → q_KC n wv S w → ∃ w', p_ev none 84 8 [.ref 0, .int (nI i)] [] w = some (.inl none, w', 0) ∧ q_KC n wv (q_upn n wv i S) w' ∧ q_FC w w' := by
  intro i
  induction i with
  | zero =>
    intro S w hi h
    refine ⟨w, ?_, h, q_FC.rf⟩
    rw [H84_8]
    (conv => lhs; simp (disch := first | assumption | omega | (rw [nI_leI] <;> omega) | (rw [nI_ltI] <;> omega) | (rw [nI_eq] <;> omega) | (apply q_out <;> omega) | (apply q_nb; omega) | (apply q_n0 <;> omega)) only [M84, ↓if_pos, ↓if_neg, nI_add, q_sub, q_cl, p_bnd_s, p_bnd_v])
  | succ i ih =>
    intro S w hi h
    have e1 : ¬ nI 1 = nI 0 := by decide
    have hn := h.1.2.1.n32
    have h31 : i + 1 < 2 ^ 31 := by omega
    rw [q_upn]
    cases hs : S.1 (i + 1)
    · have hd : q_u1 n wv (i + 1) S = S := by rw [q_u1, hs]; rfl
      obtain ⟨w', a1, a2, a3⟩ := ih S w (by omega) h
      refine ⟨w', ?_, by rw [hd]; exact a2, a3⟩
      rw [H84_8]
      (conv => lhs; simp (disch := first | assumption | omega | (rw [nI_leI] <;> omega) | (rw [nI_ltI] <;> omega) | (rw [nI_eq] <;> omega) | (apply q_out <;> omega) | (apply q_nb; omega) | (apply q_n0 <;> omega)) only [M84, q_hasChildren h.1.1, hs, Bool.toNat_false, q_m1, Nat.add_sub_cancel, ↓if_pos, ↓if_neg, nI_add, q_sub, q_cl, p_bnd_s, p_bnd_v])
      exact a1
    · by_cases hc : nI (q_cs S.2.1 (q_so n (i + 1)) (q_wd n (i + 1))) < S.2.2 (i + 1)
      · have hd : q_u1 n wv (i + 1) S = S := by rw [q_u1, hs, if_pos rfl, if_pos hc]
        obtain ⟨w', a1, a2, a3⟩ := ih S w (by omega) h
        refine ⟨w', ?_, by rw [hd]; exact a2, a3⟩
        rw [H84_8]
        (conv => lhs; simp (disch := first | assumption | omega | (rw [nI_leI] <;> omega) | (rw [nI_ltI] <;> omega) | (rw [nI_eq] <;> omega) | (apply q_out <;> omega) | (apply q_nb; omega) | (apply q_n0 <;> omega)) only [M84, q_hasChildren h.1.1, hs, Bool.toNat_true, q_branchCost h.1.1 h.1.2.1, h.1.2.2, h.2, q_m1, Nat.add_sub_cancel, ↓if_pos, ↓if_neg, nI_add, q_sub, q_cl, p_bnd_s, p_bnd_v])
        exact a1
      · have hd : q_u1 n wv (i + 1) S = (q_jn S.1 (i + 1), q_un n wv S.1 (i + 1) 7 S.2.1, S.2.2) := by rw [q_u1, hs, if_pos rfl, if_neg hc]
        obtain ⟨M, hM⟩ := q_joinBranch h.1.1 h.1.2.1 h31
        rw [h.1.2.2] at hM
        have hK := q_K_join h.1 (k := i + 1) (by omega) (J := q_r (q_r w.2.1 15 M) 11 (q_un n wv S.1 (i + 1) 7 S.2.1)) q_r_s
        obtain ⟨w', a1, a2, a3⟩ := ih (q_u1 n wv (i + 1) S) _ (by omega) (by rw [hd]; exact ⟨hK, by dsimp only; rw [q_r_n (by decide)]; exact h.2⟩)
        refine ⟨w', ?_, a2, q_FC.tr ?_ a3⟩
        · rw [H84_8]
          (conv => lhs; simp (disch := first | assumption | omega | (rw [nI_leI] <;> omega) | (rw [nI_ltI] <;> omega) | (rw [nI_eq] <;> omega) | (apply q_out <;> omega) | (apply q_nb; omega) | (apply q_n0 <;> omega)) only [M84, q_hasChildren h.1.1, hs, Bool.toNat_true, q_branchCost h.1.1 h.1.2.1, h.1.2.2, h.2, hM, q_m1, Nat.add_sub_cancel, ↓if_pos, ↓if_neg, nI_add, q_sub, q_cl, p_bnd_s, p_bnd_v])
          exact a1
        · exact ⟨fun _ _ => rfl, fun a ha => by dsimp only; rw [q_r_n (by omega), q_r_n (by omega)], fun a ha => by dsimp only; rw [q_r_n (by omega)]⟩
theorem q_cChoose (h : q_K n wv sp x w) {l : Nat} (h1 : 1 ≤ l) (h3 : l ≤ 3) : q_Z w n wv (q_cb n wv l (sp, x, w.2.2 19)).1 (q_cb n wv l (sp, x, w.2.2 19)).2.1 (p_ev none 56 0 [.ref 0, .int (nI l)] [] w) (some (.int (nI (q_cs (q_cb n wv l (sp, x, w.2.2 19)).2.1 (q_so n 1) (q_wd n 1))))) := by
  have h131 : (1 : Nat) < 2 ^ 31 := by decide
  have h2 : 1 * 2 ^ l < 2 ^ 32 := by
    have : 2 ^ l ≤ 2 ^ 3 := Nat.pow_le_pow_right (by decide) h3
    omega
  have hK8 : 2 ^ l ≤ 8 := by
    have : 2 ^ l ≤ 2 ^ 3 := Nat.pow_le_pow_right (by decide) h3
    omega
  have hK1 : 1 ≤ 2 ^ l := Nat.one_le_two_pow
  obtain ⟨M, hM⟩ := q_joinBranch h.1 h.2.1 h131
  rw [h.2.2] at hM
  have hK := q_K_join h (k := 1) (by decide) (J := q_r (q_r w.2.1 15 M) 11 (q_un n wv sp 1 7 x)) q_r_s
  obtain ⟨w2, b1, b2, b3⟩ := q_down_l (n := n) (wv := wv) hK8 (2 ^ l - 1) 1 (q_jn sp 1, q_un n wv sp 1 7 x, w.2.2 19) _ (by omega) (Nat.le_refl 1) ⟨hK, by dsimp only; rw [q_r_n (by decide)]⟩
  obtain ⟨w3, c1, c2, c3⟩ := q_up_l 7 _ w2 (Nat.le_refl 7) b2
  refine ⟨w3, ?_, c2.1, q_FC.tr (q_FC.tr ?_ b3) c3⟩
  · have e7 : p_ev none 84 0 [.ref 0, p_U] [] w2 = some (.inl none, w3, 0) := by
      (conv => lhs; simp (disch := first | assumption | omega | (rw [nI_leI] <;> omega) | (rw [nI_ltI] <;> omega) | (rw [nI_eq] <;> omega) | (apply q_out <;> omega) | (apply q_nb; omega) | (apply q_n0 <;> omega)) only [M84, ↓if_pos, ↓if_neg, nI_add, q_sub, q_cl, p_bnd_s, p_bnd_v])
      exact c1
    have e8 : p_ev none 83 0 [.ref 0, .int (nI (1 * 2 ^ l)), p_U] [] (w.1, q_r (q_r w.2.1 15 M) 11 (q_un n wv sp 1 7 x), q_r w.2.2 18 (fun j => if 1 ≤ j ∧ j < 8 ∧ q_in j 1 = true then nI 0 else w.2.2 18 j)) = some (.inl none, w2, 0) := by
      rw [Nat.one_mul]
      (conv => lhs; simp (disch := first | assumption | omega | (rw [nI_leI] <;> omega) | (rw [nI_ltI] <;> omega) | (rw [nI_eq] <;> omega) | (apply q_out <;> omega) | (apply q_nb; omega) | (apply q_n0 <;> omega)) only [M83, ↓if_pos, ↓if_neg, nI_add, q_sub, q_cl, p_bnd_s, p_bnd_v])
      exact b1
    (conv => lhs; simp (disch := first | assumption | omega | (rw [nI_leI] <;> omega) | (rw [nI_ltI] <;> omega) | (rw [nI_eq] <;> omega) | (apply q_out <;> omega) | (apply q_nb; omega) | (apply q_n0 <;> omega)) only [M56, hM, q_shl, e8, e7, q_branchCost c2.1.1 c2.1.2.1, ↓if_pos, ↓if_neg, nI_add, q_sub, q_cl, p_bnd_s, p_bnd_v])
    rw [c2.1.2.2]; rfl
  · exact ⟨fun _ _ => rfl, fun a ha => by dsimp only; rw [q_r_n (by omega), q_r_n (by omega)], fun a ha => by dsimp only; rw [q_r_n (by omega)]⟩
end Cu
