/-! P30: THE LAW'S SIGNAL, PIECE BY PIECE -/
section Sg
variable {n wv X Y : Nat}
theorem ts_front {n0 wv0 : Nat} {sp0 : Nat → Bool} {x0 : Nat → Int64} {w : pW} (hX : X < 2 ^ 31) (hK : q_K n0 wv0 sp0 x0 w) :
    ∃ w' x7, p_ev none 99 0 [.ref 0, .int (nI X), .int (nI Y), .ref 23, .ref 24, p_U, p_U, p_U, p_U, p_U, p_U, p_U, p_U, p_U, p_U, p_U] [] w = p_ev none 99 58 [.ref 0, .int (nI X), .int (nI Y), .ref 23, .ref 24, .int (nI (4 * 2 ^ (X / 2 % 4))), .int (nI (X / 2 ^ 3 / 2 % 3)), .int x7, .int (nI (X / 2 ^ 5 / 2 % 4)), .int (nI 0), p_U, p_U, p_U, p_U, p_U, p_U] [] w' ∧ q_K (4 * 2 ^ (X / 2 % 4)) (X / 2 ^ 3 / 2 % 3) (fun _ => false) (fun j => if j < 32 then lN 0 else x0 j) w' := by
  have hn0 := hK.2.1.n32
  have hm : 4 * 2 ^ (X / 2 % 4) = 4 ∨ 4 * 2 ^ (X / 2 % 4) = 8 ∨ 4 * 2 ^ (X / 2 % 4) = 16 ∨ 4 * 2 ^ (X / 2 % 4) = 32 := by
    have key : ∀ a : Fin 4, 4 * 2 ^ a.val = 4 ∨ 4 * 2 ^ a.val = 8 ∨ 4 * 2 ^ a.val = 16 ∨ 4 * 2 ^ a.val = 32 := by decide
    exact key ⟨X / 2 % 4, by omega⟩
  have hsl : nI 4 <<< (nI (X / 2 % 4) &&& 31) = nI (4 * 2 ^ (X / 2 % 4)) := q_shl (by omega) (by omega)
  have s3 : nI X >>> (nI 3 &&& 31) = nI (X / 2 ^ 3) := q_shr hX (by omega)
  have s5 : nI X >>> (nI 5 &&& 31) = nI (X / 2 ^ 5) := q_shr hX (by omega)
  have b3 : X / 2 ^ 3 < 2 ^ 31 := Nat.lt_of_le_of_lt (Nat.div_le_self _ _) hX
  have b5 : X / 2 ^ 5 < 2 ^ 31 := Nat.lt_of_le_of_lt (Nat.div_le_self _ _) hX
  generalize 4 * 2 ^ (X / 2 % 4) = m at hm hsl ⊢
  have a0 := fun w => ts_at (w := w) (m := X) (k := 4) hX (by omega) (by omega)
  have a3 := fun w => ts_at (w := w) (m := X / 2 ^ 3) (k := 3) b3 (by omega) (by omega)
  have a5 := fun w => ts_at (w := w) (m := X / 2 ^ 5) (k := 4) b5 (by omega) (by omega)
  have hv3 : X / 2 ^ 3 / 2 % 3 < 3 := Nat.mod_lt _ (by omega)
  have hk4 : X / 2 ^ 5 / 2 % 4 < 4 := Nat.mod_lt _ (by omega)
  generalize X / 2 ^ 3 / 2 % 3 = v at a3 hv3 ⊢
  generalize X / 2 ^ 5 / 2 % 4 = kd at a5 hk4 ⊢
  have c1 := q_cLength hK
  obtain ⟨w1, e1, K1, -⟩ := q_cBegin hK hm
  have g := q_cSetWavelet K1 hv3
  rw [if_neg Bool.false_ne_true] at g
  obtain ⟨w2, e2, K2, -⟩ := g
  have hwv := hK.1.2.2.2.1
  refine ⟨w2, nI n0, ?_, K2⟩
  (conv => lhs; simp (disch := first | assumption | omega | (rw [nI_leI] <;> omega) | (rw [nI_ltI] <;> omega) | (rw [nI_eq] <;> omega) | (apply q_out <;> omega) | (apply q_nb; omega) | (apply q_n0 <;> omega)) only [M99_a, a0, hsl, s3, a3, c1, e1, e2, s5, a5, ↓if_pos, ↓if_neg, nI_add, q_sub, q_cl, p_bnd_s, p_bnd_v])
/-- the splits -/
theorem ts_split_l {A : Nat → Int64} {x7 x8 : Int32} {H : Nat → Int32} (hY : Y < 2 ^ 31) (hC : q_DC n wv A) (h0 : ∀ j, j < n → ts_in 1000 (A (32 + j))) (hv : wv < 3) : ∀ (d k s : Nat) (sp : Nat → Bool) (x : Nat → Int64) (w : pW) (z11 : Value), k + d = 9 → q_K n wv sp x w → q_RR n sp A x → q_lc sp = s + 1 → w.2.2 23 = H →
    ∃ w' sp' x' s' z, p_ev none 99 189 [.ref 0, .int (nI X), .int (nI Y), .ref 23, .ref 24, .int (nI n), .int (nI wv), .int x7, .int x8, .int (nI s), .int (nI k), z11, p_U, p_U, p_U, p_U] [] w = p_ev none 99 264 [.ref 0, .int (nI X), .int (nI Y), .ref 23, .ref 24, .int (nI n), .int (nI wv), .int x7, .int x8, .int (nI s'), .int (nI 9), z, p_U, p_U, p_U, p_U] [] w' ∧ q_K n wv sp' x' w' ∧ q_RR n sp' A x' ∧ q_lc sp' = s' + 1 ∧ w'.2.2 23 = H := by
  intro d
  induction d with
  | zero =>
    intro k s sp x w z11 hk hK hR hs hH
    obtain rfl : k = 9 := by omega
    refine ⟨w, sp, x, s, z11, ?_, hK, hR, hs, hH⟩
    rw [H99_189]
    (conv => lhs; simp (disch := first | assumption | omega | (rw [nI_leI] <;> omega) | (rw [nI_ltI] <;> omega) | (rw [nI_eq] <;> omega) | (apply q_out <;> omega) | (apply q_nb; omega) | (apply q_n0 <;> omega)) only [M99_e, ↓if_pos, ↓if_neg, nI_add, q_sub, q_cl, p_bnd_s, p_bnd_v])
  | succ d ih =>
    intro k s sp x w z11 hk hK hR hs hH
    have hn := hK.2.1.n32
    have b1 : Y / 2 ^ k < 2 ^ 31 := Nat.lt_of_le_of_lt (Nat.div_le_self _ _) hY
    have s1 : nI Y >>> (nI k &&& 31) = nI (Y / 2 ^ k) := q_shr hY (by omega)
    have a1 := fun w => ts_at (w := w) (m := Y / 2 ^ k) (k := 7) b1 (by omega) (by omega)
    have h7 : Y / 2 ^ k / 2 % 7 < 7 := Nat.mod_lt _ (by omega)
    generalize Y / 2 ^ k / 2 % 7 = N0 at a1 h7
    have cN := q_cIsNode hK (nI (1 + N0))
    rw [q_nt_n (show 1 + N0 < 16 by omega)] at cN
    have n10 : ¬ nI 1 = nI 0 := by decide
    by_cases hx : q_ex sp (1 + N0) = true
    · have cL := q_cIsLeaf hK (nI (1 + N0))
      rw [q_nt_n (show 1 + N0 < 16 by omega), if_pos hx] at cL
      rw [hx, show nI (true).toNat = nI 1 from rfl] at cN
      cases hs2 : sp (1 + N0)
      · rw [hs2, show nI (!false).toNat = nI 1 from rfl] at cL
        have cS := q_cSizeOf hK (nI (1 + N0))
        rw [q_nt_n (show 1 + N0 < 16 by omega), if_pos hx, if_neg (by rw [hs2]; exact Bool.false_ne_true)] at cS
        have hw := q_wdle n (1 + N0)
        by_cases h2 : 2 ≤ q_wd n (1 + N0)
        · obtain ⟨w1, x1, e1, K1, R1, G1⟩ := ts_splits hK hC hR h0 (show 1 ≤ 1 + N0 by omega) (by omega) hx hs2 h2 hv
          obtain ⟨w2, sp2, x2, t2, z2, e2, r⟩ := ih (k + 1) (s + 1) _ x1 w1 (.int (nI (1 + N0))) (by omega) K1 R1 (by rw [ts_st hK.2.1 (by omega) (by omega) hs2, hs]) (G1.trans hH)
          refine ⟨w2, sp2, x2, t2, z2, ?_, r⟩
          rw [H99_189]
          (conv => lhs; simp (disch := first | assumption | omega | (rw [nI_leI] <;> omega) | (rw [nI_ltI] <;> omega) | (rw [nI_eq] <;> omega) | (apply q_out <;> omega) | (apply q_nb; omega) | (apply q_n0 <;> omega)) only [M99_e, s1, a1, cN, cL, cS, e1, ↓if_pos, ↓if_neg, nI_add, q_sub, q_cl, p_bnd_s, p_bnd_v])
          exact e2
        · obtain ⟨w2, sp2, x2, t2, z2, e2, r⟩ := ih (k + 1) s sp x w (.int (nI (1 + N0))) (by omega) hK hR hs hH
          refine ⟨w2, sp2, x2, t2, z2, ?_, r⟩
          rw [H99_189]
          (conv => lhs; simp (disch := first | assumption | omega | (rw [nI_leI] <;> omega) | (rw [nI_ltI] <;> omega) | (rw [nI_eq] <;> omega) | (apply q_out <;> omega) | (apply q_nb; omega) | (apply q_n0 <;> omega)) only [M99_e, s1, a1, cN, cL, cS, ↓if_pos, ↓if_neg, nI_add, q_sub, q_cl, p_bnd_s, p_bnd_v])
          exact e2
      · rw [hs2, show nI (!true).toNat = nI 0 from rfl] at cL
        obtain ⟨w2, sp2, x2, t2, z2, e2, r⟩ := ih (k + 1) s sp x w (.int (nI (1 + N0))) (by omega) hK hR hs hH
        refine ⟨w2, sp2, x2, t2, z2, ?_, r⟩
        rw [H99_189]
        (conv => lhs; simp (disch := first | assumption | omega | (rw [nI_leI] <;> omega) | (rw [nI_ltI] <;> omega) | (rw [nI_eq] <;> omega) | (apply q_out <;> omega) | (apply q_nb; omega) | (apply q_n0 <;> omega)) only [M99_e, s1, a1, cN, cL, ↓if_pos, ↓if_neg, nI_add, q_sub, q_cl, p_bnd_s, p_bnd_v])
        exact e2
    · rw [Bool.eq_false_iff.mpr hx, show nI (false).toNat = nI 0 from rfl] at cN
      obtain ⟨w2, sp2, x2, t2, z2, e2, r⟩ := ih (k + 1) s sp x w (.int (nI (1 + N0))) (by omega) hK hR hs hH
      refine ⟨w2, sp2, x2, t2, z2, ?_, r⟩
      rw [H99_189]
      (conv => lhs; simp (disch := first | assumption | omega | (rw [nI_leI] <;> omega) | (rw [nI_ltI] <;> omega) | (rw [nI_eq] <;> omega) | (apply q_out <;> omega) | (apply q_nb; omega) | (apply q_n0 <;> omega)) only [M99_e, s1, a1, cN, ↓if_pos, ↓if_neg, nI_add, q_sub, q_cl, p_bnd_s, p_bnd_v])
      exact e2
end Sg
