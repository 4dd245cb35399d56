/-! THE BEST BASIS OF THE CLASS AND OF THE REFERENCE -/
section Mb2
variable {n wv : Nat} {sp : Nat → Bool} {A x : Nat → Int64} {w : pW}
theorem q_gg_hi {E : Nat} (hE : E ≤ 8) : ∀ (d j : Nat), d ≤ 8 → 15 - d < j → j < 16 → (q_gg n A E d).1 j = q_wt n A j
  | 0, j, _, h1, h2 => by omega
  | d + 1, j, h8, h1, h2 => by
    rw [q_gg, q_g1]
    dsimp only
    by_cases hj : j = 15 - d
    · have hc : q_gc n A E (15 - d) (q_gg n A E d) = false := by
        unfold q_gc; rw [decide_eq_false (show ¬ 15 - d < E by omega)]; rfl
      rw [if_pos hj, hc, if_neg Bool.false_ne_true, hj]
    · rw [if_neg hj]; exact q_gg_hi hE d j (by omega) (by omega) h2
theorem q_cb_I (hT : q_T n sp) {l : Nat} (h1 : 1 ≤ l) (h3 : l ≤ 3) (c0 : Nat → Int32) : q_uI n (q_DA n wv (q_un n wv sp 1 7 x)) (2 ^ l) 0 (q_cb n wv l (sp, x, c0)) := by
  have hC := q_DA_C (n := n) (wv := wv) (y := q_un n wv sp 1 7 x) hT.n32
  have hD := q_RR_D (wv := wv) (x := x) hT
  generalize q_DA n wv (q_un n wv sp 1 7 x) = A at hC hD
  have hE2 : 2 ^ l ≤ 8 ∧ 2 ≤ 2 ^ l := by
    have : l = 1 ∨ l = 2 ∨ l = 3 := by omega
    rcases this with rfl | rfl | rfl <;> decide
  have hTj := q_T_jn hT (show 1 < 16 by decide)
  have hd : q_dI n A 1 (q_jn sp 1, q_un n wv sp 1 7 x, c0) := by
    refine ⟨fun j => ?_, hTj, q_RR_jn hC hT (by decide) hD, fun j j1 j2 => by omega⟩
    have e1 : q_fu n 1 j = false := by
      cases z : q_fu n 1 j
      · rfl
      · have := q_fu_t.mp z; omega
    rw [e1]
    show q_jn sp 1 j = false
    by_cases hj : 1 ≤ j ∧ j < 8
    · exact q_jn_in hj.1 hj.2 (q_inT j hj.1 hj.2)
    · rcases Nat.eq_zero_or_pos j with z | z
      · rw [z]; exact hTj.2.1
      · exact hTj.2.2.1 j (by omega)
  have hdn := q_dsn_I hC (2 ^ l - 1) 1 _ (Nat.le_refl _) (by omega) hd
  rw [show 1 + (2 ^ l - 1) = 2 ^ l by omega] at hdn
  unfold q_cb
  refine q_upn_I hC hE2.1 7 _ (Nat.le_refl _) ?_
  obtain ⟨a, b, c, d⟩ := hdn
  refine ⟨b, c, fun j _ => a j, fun j j1 j2 => ?_, fun j j1 j2 hx => ?_, d⟩
  · have hf : (q_gg n A (2 ^ l) (15 - 7)).2 j = false := by
      cases z : (q_gg n A (2 ^ l) (15 - 7)).2 j
      · rfl
      · have := q_gg_f _ _ z; omega
    rw [hf, Bool.false_and]; exact b.2.2.1 j (by omega)
  · rw [q_sm_leaf b hx (b.2.2.1 j (by omega)), q_gg_hi hE2.1 (15 - 7) j (by omega) (by omega) j2]
end Mb2
