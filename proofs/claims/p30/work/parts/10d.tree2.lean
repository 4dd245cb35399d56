/-! BRANCHES: splitting, joining, costs -/
theorem q_cmp0 {a b : Int64} : lg_cmp a b = nI 0 ↔ a = b := by
  unfold lg_cmp
  by_cases h1 : a > b
  · rw [if_pos h1]
    exact ⟨fun z => absurd z (by decide), fun z => absurd h1 (by rw [z]; exact Int64.lt_irrefl)⟩
  · rw [if_neg h1]
    by_cases h2 : a = b
    · rw [if_pos h2]
      exact ⟨fun _ => h2, fun _ => rfl⟩
    · rw [if_neg h2]
      exact ⟨fun z => absurd z (by decide), fun z => absurd z h2⟩
theorem q_cmpL {a b : Int64} : lg_cmp a b < nI 0 ↔ a < b := by
  have h := lg_cmp_ge a b
  rw [← Int64.not_le, ← h]
  exact Int32.not_le.symm
theorem q_cmpG {a b : Int64} : nI 0 ≤ lg_cmp a b ↔ b ≤ a := lg_cmp_ge a b
theorem q_cmpT {a b : Int64} : nI 0 < lg_cmp a b ↔ b < a := by
  unfold lg_cmp
  by_cases h1 : a > b
  · rw [if_pos h1]
    exact ⟨fun _ => h1, fun _ => by decide⟩
  · rw [if_neg h1]
    refine ⟨fun z => ?_, fun z => absurd z h1⟩
    split at z
    · exact absurd z (by decide)
    · exact absurd z (by decide)
theorem q_cmpE {a b : Int64} : lg_cmp a b ≤ nI 0 ↔ a ≤ b := by
  rw [← Int32.not_lt, q_cmpT, Int64.not_lt]
def q_un (n wv : Nat) (sp : Nat → Bool) (top : Nat) : Nat → (Nat → Int64) → (Nat → Int64)
  | 0, x => x
  | k + 1, x => q_un n wv sp top k (if (sp (k + 1) && q_in (k + 1) top) = true then q_mix (q_so n (k + 1)) (q_wd n (k + 1) / 2) (q_dns wv (q_so n (k + 1)) (q_wd n (k + 1) / 2) (q_nst wv) x) else x)
def q_cn (sp : Nat → Bool) (top : Nat) : Nat → Nat
  | 0 => 0
  | k + 1 => q_cn sp top k + (sp (k + 1) && q_in (k + 1) top).toNat
def q_dgl (x : Int64) : Nat → Nat → Nat
  | 0, d => d
  | r + 1, d => if q_sh x d = lN 0 then d else q_dgl x r (d + 1)
/-- how many binary digits the class counts -/
def q_dg (x : Int64) : Nat := q_dgl x 63 0
def q_cs (x : Nat → Int64) (s : Nat) : Nat → Nat
  | 0 => 0
  | m + 1 => q_cs x s m + q_dg (p_abs (x (s + m)))
/-- a tree that there may be -/
def q_T (n : Nat) (sp : Nat → Bool) : Prop := (n = 4 ∨ n = 8 ∨ n = 16 ∨ n = 32) ∧ sp 0 = false ∧ (∀ i, 8 ≤ i → sp i = false) ∧ (∀ i, 2 ≤ i → i < 8 → sp i = true → sp (i / 2) = true) ∧ ∀ i, 1 ≤ i → i < 8 → sp i = true → 2 ≤ q_wd n i
theorem q_geo0 : ∀ i, 1 ≤ i → i < 16 → ∀ n, (n = 4 ∨ n = 8 ∨ n = 16 ∨ n = 32) → q_so n i + q_wd n i ≤ n := by
  intro i h1 h2 n hn
  have key : ∀ i : Fin 16, 1 ≤ i.val → q_so 4 i.val + q_wd 4 i.val ≤ 4 ∧ q_so 8 i.val + q_wd 8 i.val ≤ 8 ∧ q_so 16 i.val + q_wd 16 i.val ≤ 16 ∧ q_so 32 i.val + q_wd 32 i.val ≤ 32 := by decide +kernel
  have k := key ⟨i, h2⟩ h1
  rcases hn with rfl | rfl | rfl | rfl
  · exact k.1
  · exact k.2.1
  · exact k.2.2.1
  · exact k.2.2.2
theorem q_r4 : p_rw 4 := ⟨rfl, rfl⟩
section B
variable {n wv k : Nat} {sp : Nat → Bool} {w : pW}
theorem q_splitLeaf (h : q_C n wv sp w) (hT : q_T n sp) (h1 : 1 ≤ k) (h8 : k < 8) (h2 : 2 ≤ q_wd n k) : ∃ M, p_ev none 80 0 [.ref 0, .int (nI k)] [] w = some (.inl none, (w.1, q_r (q_r w.2.1 15 M) 11 (q_ups wv (q_so n k) (q_wd n k / 2) (q_nst wv) 0 (q_deal (q_so n k) (q_wd n k / 2) (w.2.1 11))), q_r w.2.2 18 (fun j => if j = k then nI 1 else w.2.2 18 j)), 0) := by
  have hg := q_geo0 k h1 (by omega) n hT.1
  have hw := q_wdle n k
  have hn := h.2.2.1
  obtain ⟨M, hM⟩ := q_divide (s := q_so n k) (h := q_wd n k / 2) h q_r4 (by decide) (by rcases hT.1 with z | z | z | z <;> omega) (by omega)
  refine ⟨M, ?_⟩
  (conv => lhs; simp (disch := first | assumption | omega | (rw [nI_leI] <;> omega) | (rw [nI_ltI] <;> omega) | (rw [nI_eq] <;> omega) | (apply q_out <;> omega) | (apply q_nb; omega) | (apply q_n0 <;> omega)) only [M80, q_startOf h, q_widthOf h, q_div, hM, q_giveChildren, ↓if_pos, ↓if_neg, nI_add, q_sub, q_cl, p_bnd_s, p_bnd_v])
theorem q_unite_l {r top : Nat} (hT : q_T n sp) (hr : p_rw r) (hne : r ≠ 8) (ht : top < 2 ^ 31) : ∀ (k c : Nat) (w : pW), q_C n wv sp w → k ≤ 7 → c + k < 100 →
    ∃ M, p_ev none 82 6 [.ref 0, .ref r, .int (nI top), .int (nI c), .int (nI k)] [] w = some (.inl (some (.int (nI (c + q_cn sp top k)))), (w.1, q_r (q_r w.2.1 (8 + 7) M) (r + 7) (q_un n wv sp top k (w.2.1 (r + 7))), w.2.2), 0) := by
  intro k
  induction k with
  | zero =>
    intro c w h hk hc
    refine ⟨w.2.1 (8 + 7), ?_⟩
    (conv => lhs; simp (disch := first | assumption | omega | (rw [nI_leI] <;> omega) | (rw [nI_ltI] <;> omega) | (rw [nI_eq] <;> omega) | (apply q_out <;> omega) | (apply q_nb; omega) | (apply q_n0 <;> omega)) only [H82_6 r hr, M82 r hr, ↓if_pos, ↓if_neg, nI_add, q_sub, q_cl, p_bnd_s, p_bnd_v])
    rw [q_r_id]
    simp only [q_un, q_cn, q_r_id, Nat.add_zero]
  | succ k ih =>
    intro c w h hk hc
    have hg := q_geo0 (k + 1) (by omega) (by omega) n hT.1
    have hw := q_wdle n (k + 1)
    have hn := h.2.2.1
    have hne8 : r + 7 ≠ 8 + 7 := by omega
    rw [H82_6 r hr]
    cases hs : sp (k + 1)
    · obtain ⟨M, hM⟩ := ih c w h (by omega) (by omega)
      refine ⟨M, ?_⟩
      (conv => lhs; simp (disch := first | assumption | omega | (rw [nI_leI] <;> omega) | (rw [nI_ltI] <;> omega) | (rw [nI_eq] <;> omega) | (apply q_out <;> omega) | (apply q_nb; omega) | (apply q_n0 <;> omega)) only [M82 r hr, q_hasChildren h, hs, Bool.toNat_false, q_m1, Nat.add_sub_cancel, hM, ↓if_pos, ↓if_neg, nI_add, q_sub, q_cl, p_bnd_s, p_bnd_v])
      simp [q_un, q_cn, hs]
    · cases hq : q_in (k + 1) top
      · obtain ⟨M, hM⟩ := ih c w h (by omega) (by omega)
        refine ⟨M, ?_⟩
        (conv => lhs; simp (disch := first | assumption | omega | (rw [nI_leI] <;> omega) | (rw [nI_ltI] <;> omega) | (rw [nI_eq] <;> omega) | (apply q_out <;> omega) | (apply q_nb; omega) | (apply q_n0 <;> omega)) only [M82 r hr, q_hasChildren h, hs, Bool.toNat_true, q_isWithin, hq, Bool.toNat_false, q_m1, Nat.add_sub_cancel, hM, ↓if_pos, ↓if_neg, nI_add, q_sub, q_cl, p_bnd_s, p_bnd_v])
        simp [q_un, q_cn, hs, hq]
      · have h2 := hT.2.2.2.2 (k + 1) (by omega) (by omega) hs
        obtain ⟨M1, hM1⟩ := q_unite (s := q_so n (k + 1)) (h := q_wd n (k + 1) / 2) h hr hne (by rcases hT.1 with z | z | z | z <;> omega) (by omega)
        obtain ⟨M, hM⟩ := ih (c + 1) (w.1, q_r (q_r w.2.1 (8 + 7) M1) (r + 7) (q_mix (q_so n (k + 1)) (q_wd n (k + 1) / 2) (q_dns wv (q_so n (k + 1)) (q_wd n (k + 1) / 2) (q_nst wv) (w.2.1 (r + 7)))), w.2.2) h (by omega) (by omega)
        refine ⟨M, ?_⟩
        (conv => lhs; simp (disch := first | assumption | omega | (rw [nI_leI] <;> omega) | (rw [nI_ltI] <;> omega) | (rw [nI_eq] <;> omega) | (apply q_out <;> omega) | (apply q_nb; omega) | (apply q_n0 <;> omega)) only [M82 r hr, q_hasChildren h, hs, Bool.toNat_true, q_isWithin, hq, q_startOf h, q_widthOf h, q_div, hM1, q_m1, Nat.add_sub_cancel, hM, ↓if_pos, ↓if_neg, nI_add, q_sub, q_cl, p_bnd_s, p_bnd_v])
        simp only [q_r_s, q_un, q_cn, hs, hq, Bool.and_self, if_true, Bool.toNat_true]
        rw [show c + 1 + q_cn sp top k = c + (q_cn sp top k + 1) by omega]
        refine congrArg some (congrArg (Prod.mk _) (congrArg (fun z => (z, 0)) (congrArg (fun z => (w.1, z, w.2.2)) ?_)))
        funext b
        by_cases hb2 : b = r + 7
        · subst hb2; rw [q_r_s, q_r_s]
        · rw [q_r_n hb2, q_r_n hb2]
          by_cases hb3 : b = 8 + 7
          · subst hb3; rw [q_r_s, q_r_s]
          · rw [q_r_n hb3, q_r_n hb3, q_r_n hb2, q_r_n hb3]
theorem q_uniteBranch {r top : Nat} (h : q_C n wv sp w) (hT : q_T n sp) (hr : p_rw r) (hne : r ≠ 8) (ht : top < 2 ^ 31) :
    ∃ M, p_ev none 82 0 [.ref 0, .ref r, .int (nI top), p_U, p_U] [] w = some (.inl (some (.int (nI (q_cn sp top 7)))), (w.1, q_r (q_r w.2.1 (8 + 7) M) (r + 7) (q_un n wv sp top 7 (w.2.1 (r + 7))), w.2.2), 0) := by
  obtain ⟨M, hM⟩ := q_unite_l hT hr hne ht 7 0 w h (by omega) (by omega)
  refine ⟨M, ?_⟩
  (conv => lhs; simp (disch := first | assumption | omega | (rw [nI_leI] <;> omega) | (rw [nI_ltI] <;> omega) | (rw [nI_eq] <;> omega) | (apply q_out <;> omega) | (apply q_nb; omega) | (apply q_n0 <;> omega)) only [M82 r hr, hM, ↓if_pos, ↓if_neg, nI_add, q_sub, q_cl, p_bnd_s, p_bnd_v])
  rw [Nat.zero_add]
theorem q_digits_l {x : Int64} : ∀ (r d : Nat), d + r = 63 → p_ev none 86 2 [.long x, p_U, .int (nI d)] [] w = some (.inl (some (.int (nI (q_dgl x r d)))), w, 0) := by
  intro r
  induction r with
  | zero =>
    intro d hd
    (conv => lhs; simp (disch := first | assumption | omega | (rw [nI_leI] <;> omega) | (rw [nI_ltI] <;> omega) | (rw [nI_eq] <;> omega) | (apply q_out <;> omega) | (apply q_nb; omega) | (apply q_n0 <;> omega)) only [H86_2, M86, ↓if_pos, ↓if_neg, nI_add, q_sub, q_cl, p_bnd_s, p_bnd_v])
    rfl
  | succ r ih =>
    intro d hd
    rw [H86_2]
    by_cases hx : q_sh x d = lN 0
    · have e : x >>> ((nI d).toInt64 &&& 63) = lN 0 := hx
      have e2 : lg_cmp (lN 0) (lN 0) = nI 0 := by decide
      (conv => lhs; simp (disch := first | assumption | omega | (rw [nI_leI] <;> omega) | (rw [nI_ltI] <;> omega) | (rw [nI_eq] <;> omega) | (apply q_out <;> omega) | (apply q_nb; omega) | (apply q_n0 <;> omega)) only [M86, e, e2, ↓if_pos, ↓if_neg, nI_add, q_sub, q_cl, p_bnd_s, p_bnd_v])
      simp only [q_dgl, hx, if_true]
    · have e : ¬ lg_cmp (x >>> ((nI d).toInt64 &&& 63)) (lN 0) = nI 0 := fun z => hx (q_cmp0.mp z)
      (conv => lhs; simp (disch := first | assumption | omega | (rw [nI_leI] <;> omega) | (rw [nI_ltI] <;> omega) | (rw [nI_eq] <;> omega) | (apply q_out <;> omega) | (apply q_nb; omega) | (apply q_n0 <;> omega)) only [M86, ih, ↓if_pos, ↓if_neg, nI_add, q_sub, q_cl, p_bnd_s, p_bnd_v])
      simp only [q_dgl, hx, if_false]
theorem q_digits {x : Int64} : p_ev none 86 0 [.long x, p_U, p_U] [] w = some (.inl (some (.int (nI (q_dg x)))), w, 0) := by
  (conv => lhs; simp (disch := first | assumption | omega | (rw [nI_leI] <;> omega) | (rw [nI_ltI] <;> omega) | (rw [nI_eq] <;> omega) | (apply q_out <;> omega) | (apply q_nb; omega) | (apply q_n0 <;> omega)) only [M86, q_digits_l 63 0, ↓if_pos, ↓if_neg, nI_add, q_sub, q_cl, p_bnd_s, p_bnd_v])
  rfl
theorem q_dgl_le {x : Int64} : ∀ r d, q_dgl x r d ≤ d + r
  | 0, d => Nat.le_refl _
  | r + 1, d => by
    unfold q_dgl
    split
    · omega
    · have := q_dgl_le (x := x) r (d + 1); omega
theorem q_dg_le {x : Int64} : q_dg x ≤ 63 := by have := q_dgl_le (x := x) 63 0; unfold q_dg; omega
theorem q_cs_le {x : Nat → Int64} {s : Nat} : ∀ m, q_cs x s m ≤ 63 * m
  | 0 => Nat.le_refl _
  | m + 1 => by have := q_cs_le (x := x) (s := s) m; have := q_dg_le (x := p_abs (x (s + m))); unfold q_cs; omega
theorem q_cost_l (h : q_C n wv sp w) {s m : Nat} (hb : s + m ≤ 32) : ∀ (d i : Nat) (x1 : Int32), i + d = m → p_ev none 85 30 [.ref 0, .int x1, .int (nI (q_cs (w.2.1 11) s i)), .int (nI (s + m)), .int (nI (s + i))] [] w = some (.inl (some (.int (nI (q_cs (w.2.1 11) s m)))), w, 0) := by
  intro d
  induction d with
  | zero =>
    intro i x1 hi
    obtain rfl : i = m := by omega
    (conv => lhs; simp (disch := first | assumption | omega | (rw [nI_leI] <;> omega) | (rw [nI_ltI] <;> omega) | (rw [nI_eq] <;> omega) | (apply q_out <;> omega) | (apply q_nb; omega) | (apply q_n0 <;> omega)) only [H85_30, M85, ↓if_pos, ↓if_neg, nI_add, q_sub, q_cl, p_bnd_s, p_bnd_v])
  | succ d ih =>
    intro i x1 hi
    rw [H85_30]
    (conv => lhs; simp (disch := first | assumption | omega | (rw [nI_leI] <;> omega) | (rw [nI_ltI] <;> omega) | (rw [nI_eq] <;> omega) | (apply q_out <;> omega) | (apply q_nb; omega) | (apply q_n0 <;> omega)) only [M85, q_mag q_r4, q_digits, ↓if_pos, ↓if_neg, nI_add, q_sub, q_cl, p_bnd_s, p_bnd_v])
    exact ih (i + 1) x1 (by omega)
theorem q_branchCost (h : q_C n wv sp w) (hT : q_T n sp) (h1 : 1 ≤ k) (h16 : k < 16) : p_ev none 85 0 [.ref 0, .int (nI k), p_U, p_U, p_U] [] w = some (.inl (some (.int (nI (q_cs (w.2.1 11) (q_so n k) (q_wd n k))))), w, 0) := by
  have hg := q_geo0 k h1 h16 n hT.1
  have hw := q_wdle n k
  have hn := h.2.2.1
  (conv => lhs; simp (disch := first | assumption | omega | (rw [nI_leI] <;> omega) | (rw [nI_ltI] <;> omega) | (rw [nI_eq] <;> omega) | (apply q_out <;> omega) | (apply q_nb; omega) | (apply q_n0 <;> omega)) only [M85, q_startOf h, q_widthOf h, ↓if_pos, ↓if_neg, nI_add, q_sub, q_cl, p_bnd_s, p_bnd_v])
  exact q_cost_l h (by rcases hT.1 with z | z | z | z <;> omega) (q_wd n k) 0 _ (by omega)
theorem q_joinBranch (h : q_C n wv sp w) (hT : q_T n sp) (hk : k < 2 ^ 31) : ∃ M, p_ev none 81 0 [.ref 0, .int (nI k), p_U] [] w = some (.inl (some (.int (nI (q_cn sp k 7)))), (w.1, q_r (q_r w.2.1 15 M) 11 (q_un n wv sp k 7 (w.2.1 11)), q_r w.2.2 18 (fun j => if 1 ≤ j ∧ j < 8 ∧ q_in j k = true then nI 0 else w.2.2 18 j)), 0) := by
  obtain ⟨M, hM⟩ := q_uniteBranch (top := k) h hT q_r4 (by decide) hk
  refine ⟨M, ?_⟩
  (conv => lhs; simp (disch := first | assumption | omega | (rw [nI_leI] <;> omega) | (rw [nI_ltI] <;> omega) | (rw [nI_eq] <;> omega) | (apply q_out <;> omega) | (apply q_nb; omega) | (apply q_n0 <;> omega)) only [M81, hM, q_take, ↓if_pos, ↓if_neg, nI_add, q_sub, q_cl, p_bnd_s, p_bnd_v])
theorem q_gather (h : q_C n wv sp w) (hT : q_T n sp) : ∃ M, p_ev none 87 0 [.ref 0] [] w = some (.inl none, (w.1, q_r (q_r w.2.1 15 M) 12 (q_un n wv sp 1 7 (fun j => if j < 32 then w.2.1 11 j else w.2.1 12 j)), w.2.2), 0) := by
  have hr5 : p_rw 5 := ⟨rfl, rfl⟩
  obtain ⟨M, hM⟩ := q_uniteBranch (top := 1) (r := 5) (w := (w.1, q_r w.2.1 (5 + 7) (fun j => if j < 32 then w.2.1 (4 + 7) j else w.2.1 (5 + 7) j), w.2.2)) h hT hr5 (by decide) (by omega)
  simp only [Nat.reduceAdd, q_r_s] at hM
  have hc := q_copy (w := w) hr5 q_r4 (by decide)
  simp only [Nat.reduceAdd] at hc
  refine ⟨M, ?_⟩
  (conv => lhs; simp (disch := first | assumption | omega | (rw [nI_leI] <;> omega) | (rw [nI_ltI] <;> omega) | (rw [nI_eq] <;> omega) | (apply q_out <;> omega) | (apply q_nb; omega) | (apply q_n0 <;> omega)) only [M87, hc, hM, ↓if_pos, ↓if_neg, nI_add, q_sub, q_cl, p_bnd_s, p_bnd_v])
  refine congrArg some (congrArg (Prod.mk _) (congrArg (fun z => (z, 0)) (congrArg (fun z => (w.1, z, w.2.2)) ?_)))
  funext b
  by_cases hb2 : b = 12
  · subst hb2; rw [q_r_s, q_r_s]
  · rw [q_r_n hb2, q_r_n hb2]
    by_cases hb3 : b = 15
    · subst hb3; rw [q_r_s, q_r_s]
    · rw [q_r_n hb3, q_r_n hb3, q_r_n hb2]
end B
