/-! P30: THE LAW'S OWN SMALL METHODS -/
theorem ts_ush {m : Nat} (h : m < 2 ^ 31) : ((nI m).toUInt32 >>> ((nI 1).toUInt32 &&& Int32.toUInt32 31)).toInt32 = nI (m / 2) := pk_ushrN (by omega) (nI 1) 1 (by decide +kernel)
theorem ts_at {m k : Nat} {w : pW} (hm : m < 2 ^ 31) (h0 : 0 < k) (hk : k < 2 ^ 31) : p_ev none 95 0 [.int (nI m), .int (nI k)] [] w = some (.inl (some (.int (nI (m / 2 % k)))), w, 0) := by
  have e1 := ts_ush hm
  have e2 := pk_rem (a := m / 2) (d := k) (by omega) h0 hk
  (conv => lhs; simp (disch := first | assumption | omega | (rw [nI_leI] <;> omega) | (rw [nI_ltI] <;> omega) | (rw [nI_eq] <;> omega) | (apply q_out <;> omega) | (apply q_nb; omega) | (apply q_n0 <;> omega)) only [M95, e1, e2, ↓if_pos, ↓if_neg, nI_add, q_sub, q_cl, p_bnd_s, p_bnd_v])
section Sm
variable {n wv : Nat} {sp : Nat → Bool} {x : Nat → Int64}
theorem ts_back_l : ∀ (d k : Nat) (w : pW), k + d = n → q_K n wv sp x w → (∀ p, p < n → q_un n wv sp 1 7 x p = (w.2.2 23 p).toInt64) →
    ∃ w', p_ev none 96 2 [.ref 0, .ref 23, .int (nI n), .int (nI k)] [] w = some (.inl (some (.int (nI 1))), w', 0) ∧ q_K n wv sp x w' ∧ q_FC w w' := by
  intro d
  induction d with
  | zero =>
    intro k w hk hK hS
    have hn := hK.2.1.n32
    refine ⟨w, ?_, hK, q_FC.rf⟩
    rw [H96_2]
    (conv => lhs; simp (disch := first | assumption | omega | (rw [nI_leI] <;> omega) | (rw [nI_ltI] <;> omega) | (rw [nI_eq] <;> omega) | (apply q_out <;> omega) | (apply q_nb; omega) | (apply q_n0 <;> omega)) only [M96, ↓if_pos, ↓if_neg, nI_add, q_sub, q_cl, p_bnd_s, p_bnd_v])
  | succ d ih =>
    intro k w hk hK hS
    have hn := hK.2.1.n32
    have g := q_cSample2 hK (nI k)
    rw [q_pt_n (show k < n by omega) (by omega), if_pos (show k < n by omega)] at g
    obtain ⟨w1, e1, K1, F1⟩ := g
    obtain ⟨w2, e2, K2, F2⟩ := ih (k + 1) w1 (by omega) K1 (fun p hp => by rw [F1.2.2 23 (Nat.le_refl 23)]; exact hS p hp)
    have ec : lg_cmp (q_un n wv sp 1 7 x k) (w1.2.2 23 k).toInt64 = nI 0 := q_cmp0.mpr (by rw [F1.2.2 23 (Nat.le_refl 23)]; exact hS k (by omega))
    refine ⟨w2, ?_, K2, F1.tr F2⟩
    rw [H96_2]
    (conv => lhs; simp (disch := first | assumption | omega | (rw [nI_leI] <;> omega) | (rw [nI_ltI] <;> omega) | (rw [nI_eq] <;> omega) | (apply q_out <;> omega) | (apply q_nb; omega) | (apply q_n0 <;> omega)) only [M96, e1, ec, ↓if_pos, ↓if_neg, nI_add, q_sub, q_cl, p_bnd_s, p_bnd_v])
    exact e2
theorem ts_back {w : pW} (hK : q_K n wv sp x w) (hS : ∀ p, p < n → q_un n wv sp 1 7 x p = (w.2.2 23 p).toInt64) : ∃ w', p_ev none 96 0 [.ref 0, .ref 23, .int (nI n), p_U] [] w = some (.inl (some (.int (nI 1))), w', 0) ∧ q_K n wv sp x w' ∧ q_FC w w' := by
  obtain ⟨w', e, h⟩ := ts_back_l n 0 w (by omega) hK hS
  refine ⟨w', ?_, h⟩
  (conv => lhs; simp (disch := first | assumption | omega | (rw [nI_leI] <;> omega) | (rw [nI_ltI] <;> omega) | (rw [nI_eq] <;> omega) | (apply q_out <;> omega) | (apply q_nb; omega) | (apply q_n0 <;> omega)) only [M96, ↓if_pos, ↓if_neg, nI_add, q_sub, q_cl, p_bnd_s, p_bnd_v])
  exact e
theorem ts_lvc (L : Nat) : (q_lv L = 3 ∧ 7 < L) ∨ (q_lv L = 2 ∧ 3 < L ∧ L ≤ 7) ∨ (q_lv L = 1 ∧ 1 < L ∧ L ≤ 3) ∨ (q_lv L = 0 ∧ L ≤ 1) := by
  unfold q_lv
  split
  · exact Or.inr (Or.inr (Or.inr ⟨rfl, by omega⟩))
  · split
    · exact Or.inr (Or.inr (Or.inl ⟨rfl, by omega, by omega⟩))
    · split
      · exact Or.inr (Or.inl ⟨rfl, by omega, by omega⟩)
      · exact Or.inl ⟨rfl, by omega⟩
theorem ts_cov_l {w : pW} (hK : q_K n wv sp x w) : ∀ (d k : Nat) (z5 z6 : Value), k + d = q_lc sp → p_ev none 97 7 [.ref 0, .int (nI n), .int (nI (q_lp n sp k)), .int (nI (q_cs x 0 (q_lp n sp k))), .int (nI k), z5, z6] [] w = some (.inl (some (.int (nI 1))), w, 0) := by
  have hn := hK.2.1.n32
  have h8 := q_lc_le (sp := sp)
  have hlv : p_ev none 53 0 [.ref 0] [] w = some (.inl (some (.int (nI (q_lc sp)))), w, 0) := q_cLeaves hK
  intro d
  induction d with
  | zero =>
    intro k z5 z6 hk
    obtain rfl : k = q_lc sp := by omega
    have hco := q_cCostOf hK (nI 1)
    rw [q_nt_n (show 1 < 16 by decide), if_pos (show q_ex sp 1 = true from rfl), ts_so1, ts_wd1] at hco
    have hb := q_cs_le (x := x) (s := 0) n
    rw [H97_7, ts_all hK.2.1]
    (conv => lhs; simp (disch := first | assumption | omega | (rw [nI_leI] <;> omega) | (rw [nI_ltI] <;> omega) | (rw [nI_eq] <;> omega) | (apply q_out <;> omega) | (apply q_nb; omega) | (apply q_n0 <;> omega)) only [M97, hlv, hco, ↓if_pos, ↓if_neg, nI_add, q_sub, q_cl, p_bnd_s, p_bnd_v])
  | succ d ih =>
    intro k z5 z6 hk
    have hkl : k < q_lc sp := by omega
    have hle := q_cLeafAt hK (nI k)
    rw [q_pt_n hkl (by omega), if_pos hkl] at hle
    obtain ⟨l1, l2, l3⟩ := ts_leaf hK.2.1 hkl
    have lb := q_ex_b l1
    have hpl := q_lp_le (n := n) (sp := sp) k
    have hpl2 : n * k ≤ 32 * 8 := Nat.mul_le_mul hn (by omega)
    have hS1 : q_lp n sp (k + 1) = q_lp n sp k + q_wd n (q_lo n sp (q_lp n sp k) 3 1) := rfl
    have hadd : q_cs x 0 (q_lp n sp (k + 1)) = q_cs x 0 (q_lp n sp k) + q_cs x (q_lp n sp k) (q_wd n (q_lo n sp (q_lp n sp k) 3 1)) := by
      rw [hS1, q_cs_add, Nat.zero_add]
    have hih := fun z5 z6 => ih (k + 1) z5 z6 (by omega)
    rw [hadd, hS1] at hih
    rw [H97_7]
    generalize q_lo n sp (q_lp n sp k) 3 1 = L at hle l1 l2 l3 lb hih
    have hwl := q_wdle n L
    have hil := q_cIsLeaf hK (nI L)
    rw [q_nt_n lb.2, if_pos l1, l2] at hil
    have hsz := q_cSizeOf hK (nI L)
    rw [q_nt_n lb.2, if_pos l1, if_neg (by rw [l2]; exact Bool.false_ne_true)] at hsz
    have hco := q_cCostOf hK (nI L)
    rw [q_nt_n lb.2, if_pos l1, l3] at hco
    have h2 := q_lvp lb.1
    have e1 : n / 2 ^ q_lv L = q_wd n L := rfl
    have e2 : (L - 2 ^ q_lv L) * q_wd n L = q_lp n sp k := l3
    have e0 : nI (!false).toNat = nI 1 := rfl
    have e01 : ¬ nI 1 = nI 0 := by decide
    generalize q_lp n sp k = P at hle l3 hpl hih hco e2 ⊢
    rcases ts_lvc L with ⟨q, c⟩ | ⟨q, c, c'⟩ | ⟨q, c, c'⟩ | ⟨q, c⟩
    · rw [q] at h2 e1 e2
      (conv => lhs; simp (disch := first | assumption | omega | (rw [nI_leI] <;> omega) | (rw [nI_ltI] <;> omega) | (rw [nI_eq] <;> omega) | (apply q_out <;> omega) | (apply q_nb; omega) | (apply q_n0 <;> omega)) only [M97, hlv, hle, hil, hsz, hco, e0, q_shr, q_shl, Nat.one_mul, e1, pk_mul, e2, ↓if_pos, ↓if_neg, nI_add, q_sub, q_cl, p_bnd_s, p_bnd_v])
      exact hih _ _
    · rw [q] at h2 e1 e2
      (conv => lhs; simp (disch := first | assumption | omega | (rw [nI_leI] <;> omega) | (rw [nI_ltI] <;> omega) | (rw [nI_eq] <;> omega) | (apply q_out <;> omega) | (apply q_nb; omega) | (apply q_n0 <;> omega)) only [M97, hlv, hle, hil, hsz, hco, e0, q_shr, q_shl, Nat.one_mul, e1, pk_mul, e2, ↓if_pos, ↓if_neg, nI_add, q_sub, q_cl, p_bnd_s, p_bnd_v])
      exact hih _ _
    · rw [q] at h2 e1 e2
      (conv => lhs; simp (disch := first | assumption | omega | (rw [nI_leI] <;> omega) | (rw [nI_ltI] <;> omega) | (rw [nI_eq] <;> omega) | (apply q_out <;> omega) | (apply q_nb; omega) | (apply q_n0 <;> omega)) only [M97, hlv, hle, hil, hsz, hco, e0, q_shr, q_shl, Nat.one_mul, e1, pk_mul, e2, ↓if_pos, ↓if_neg, nI_add, q_sub, q_cl, p_bnd_s, p_bnd_v])
      exact hih _ _
    · rw [q] at h2 e1 e2
      (conv => lhs; simp (disch := first | assumption | omega | (rw [nI_leI] <;> omega) | (rw [nI_ltI] <;> omega) | (rw [nI_eq] <;> omega) | (apply q_out <;> omega) | (apply q_nb; omega) | (apply q_n0 <;> omega)) only [M97, hlv, hle, hil, hsz, hco, e0, q_shr, q_shl, Nat.one_mul, e1, pk_mul, e2, ↓if_pos, ↓if_neg, nI_add, q_sub, q_cl, p_bnd_s, p_bnd_v])
      exact hih _ _
theorem ts_covers {w : pW} (hK : q_K n wv sp x w) : p_ev none 97 0 [.ref 0, .int (nI n), p_U, p_U, p_U, p_U, p_U] [] w = some (.inl (some (.int (nI 1))), w, 0) := by
  have g := ts_cov_l hK (q_lc sp) 0 p_U p_U (by omega)
  rw [show q_lp n sp 0 = 0 from rfl, show q_cs x 0 0 = 0 from rfl] at g
  (conv => lhs; simp (disch := first | assumption | omega | (rw [nI_leI] <;> omega) | (rw [nI_ltI] <;> omega) | (rw [nI_eq] <;> omega) | (apply q_out <;> omega) | (apply q_nb; omega) | (apply q_n0 <;> omega)) only [M97, ↓if_pos, ↓if_neg, nI_add, q_sub, q_cl, p_bnd_s, p_bnd_v])
  exact g
end Sm
