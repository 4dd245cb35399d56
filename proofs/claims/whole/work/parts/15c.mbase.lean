/-! THE BEST BASIS OF THE CLASS AND OF THE REFERENCE -/
section Mb2
variable {n wv : Nat} {sp : Nat → Bool} {A x : Nat → Int64} {w : pW}
theorem q_gg_hi {E : Nat} (hE : E ≤ 8) : ∀ (d j : Nat), d ≤ 8 → 15 - d < j → j < 16 → (q_gg n A E d).1 j = q_wt n A j
  | 0, j, _, h1, h2 => by omega
  | d + 1, j, h8, h1, h2 => by
    rw [q_gg, q_g1]
    dsimp only
    by_cases hj : j = 15 - d
    · have hc : q_gc n A E (15 - d) (q_gg n A E d) = false := by
        unfold q_gc; rw [decide_eq_false (show ¬ 15 - d < E by omega)]; rfl
      rw [if_pos hj, hc, if_neg Bool.false_ne_true, hj]
    · rw [if_neg hj]; exact q_gg_hi hE d j (by omega) (by omega) h2
theorem q_cb_I (hT : q_T n sp) {l : Nat} (h1 : 1 ≤ l) (h3 : l ≤ 3) (c0 : Nat → Int32) : q_uI n (q_DA n wv (q_un n wv sp 1 7 x)) (2 ^ l) 0 (q_cb n wv l (sp, x, c0)) := by
  have hC := q_DA_C (n := n) (wv := wv) (y := q_un n wv sp 1 7 x) hT.n32
  have hD := q_RR_D (wv := wv) (x := x) hT
  generalize q_DA n wv (q_un n wv sp 1 7 x) = A at hC hD
  have hE2 : 2 ^ l ≤ 8 ∧ 2 ≤ 2 ^ l := by
    have : l = 1 ∨ l = 2 ∨ l = 3 := by omega
    rcases this with rfl | rfl | rfl <;> decide
  have hTj := q_T_jn hT (show 1 < 16 by decide)
  have hd : q_dI n A 1 (q_jn sp 1, q_un n wv sp 1 7 x, c0) := by
    refine ⟨fun j => ?_, hTj, q_RR_jn hC hT (by decide) hD, fun j j1 j2 => by omega⟩
    have e1 : q_fu n 1 j = false := by
      cases z : q_fu n 1 j
      · rfl
      · have := q_fu_t.mp z; omega
    rw [e1]
    show q_jn sp 1 j = false
    by_cases hj : 1 ≤ j ∧ j < 8
    · exact q_jn_in hj.1 hj.2 (q_inT j hj.1 hj.2)
    · rcases Nat.eq_zero_or_pos j with z | z
      · rw [z]; exact hTj.2.1
      · exact hTj.2.2.1 j (by omega)
  have hdn := q_dsn_I hC (2 ^ l - 1) 1 _ (Nat.le_refl _) (by omega) hd
  rw [show 1 + (2 ^ l - 1) = 2 ^ l by omega] at hdn
  unfold q_cb
  refine q_upn_I hC hE2.1 7 _ (Nat.le_refl _) ?_
  obtain ⟨a, b, c, d⟩ := hdn
  refine ⟨b, c, fun j _ => a j, fun j j1 j2 => ?_, fun j j1 j2 hx => ?_, d⟩
  · have hf : (q_gg n A (2 ^ l) (15 - 7)).2 j = false := by
      cases z : (q_gg n A (2 ^ l) (15 - 7)).2 j
      · rfl
      · have := q_gg_f _ _ z; omega
    rw [hf, Bool.false_and]; exact b.2.2.1 j (by omega)
  · rw [q_sm_leaf b hx (b.2.2.1 j (by omega)), q_gg_hi hE2.1 (15 - 7) j (by omega) (by omega) j2]
/-- rows of nodes below m of held are those of A -/
def q_hA (n m : Nat) (H A : Nat → Int64) : Prop := ∀ j, 1 ≤ j → j < m → ∀ k, k < q_wd n j → H (32 * j + k) = A (32 * j + k)
theorem q_mCh1 (hC : q_DC n wv A) (hn : n ≤ 32) (hn4 : n = 4 ∨ n = 8 ∨ n = 16 ∨ n = 32) {x1 : Int32} {E : Nat} (hE : E ≤ 8) : ∀ (d i : Nat) (w : pW), i + d = E → 1 ≤ i → q_Mw n wv w → q_hA n (2 * i) (w.2.1 26) A → ∃ w', p_ev none 128 32 [.ref 24, .int x1, .int (nI E), .int (nI i), p_U, p_U] [] w = p_ev none 128 67 [.ref 24, .int x1, .int (nI E), .int (nI (2 * E - 1)), p_U, p_U] [] w' ∧ q_kJ w w' [26, 27, 28] ∧ q_hA n (2 * E) (w'.2.1 26) A := by
  have h26 : p_lg 26 := rfl
  intro d
  induction d with
  | zero =>
    intro i w hi h1 hM hH
    have e : i = E := by omega
    subst e
    refine ⟨w, ?_, q_kJ.rf, hH⟩
    rw [H128_32]
    (conv => lhs; simp (disch := first | assumption | omega | (rw [nI_leI] <;> omega) | (rw [nI_ltI] <;> omega) | (rw [nI_eq] <;> omega) | (apply q_out <;> omega) | (apply q_nb; omega) | (apply q_n0 <;> omega)) only [M128, pk_mul, ↓if_pos, ↓if_neg, nI_add, q_sub, q_cl, p_bnd_s, p_bnd_v])
  | succ d ih =>
    intro i w hi h1 hM hH
    have hw := q_wdle n i
    rw [H128_32]
    by_cases h2 : 2 ≤ q_wd n i
    · obtain ⟨w1, b1, b2, b3, b4⟩ := q_splitRow (w0 := w) (a := 26) (node := i) h26 (by decide) (by decide) (by omega) hM hn h2
      have hg := q_geo1 n hn4 i (by omega) h1 h2
      have hcg : q_eq2 (q_wd n i / 2) (q_pu2 wv (q_wd n i / 2) (q_nst wv) 0 (q_un2 (w.2.1 26) i)) (q_pu2 wv (q_wd n i / 2) (q_nst wv) 0 (q_un2 A i)) := by
        refine q_pu2_cg (by omega) _ _ (fun k hk => ?_)
        unfold q_un2
        dsimp only
        rw [Nat.add_assoc, hH i h1 (by omega) _ (by omega), hH i h1 (by omega) _ (by omega)]
        exact ⟨rfl, rfl⟩
      have hH1 : q_hA n (2 * (i + 1)) (w1.2.1 26) A := by
        intro j j1 j2 k hk
        have hwj := q_wdle n j
        by_cases e1 : j = 2 * i
        · subst e1
          rw [hg.2.2.1] at hk
          rw [show 32 * (2 * i) + k = 64 * i + k by omega, (b3 k hk).1, (hcg k hk).1, (hC i h1 (by omega) h2 k hk).1]
        · by_cases e2 : j = 2 * i + 1
          · subst e2
            rw [hg.2.2.2.1] at hk
            rw [show 32 * (2 * i + 1) + k = 64 * i + 32 + k by omega, (b3 k hk).2, (hcg k hk).2, (hC i h1 (by omega) h2 k hk).2]
          · rw [b4 _ (by omega)]; exact hH j j1 (by omega) k hk
      obtain ⟨w', c1, c2, c3⟩ := ih (i + 1) w1 (by omega) (by omega) (b2.M hM) hH1
      refine ⟨w', ?_, (b2.tr c2).mono (fun b hb => by simp at hb ⊢; omega), c3⟩
      (conv => lhs; simp (disch := first | assumption | omega | (rw [nI_leI] <;> omega) | (rw [nI_ltI] <;> omega) | (rw [nI_eq] <;> omega) | (apply q_out <;> omega) | (apply q_nb; omega) | (apply q_n0 <;> omega)) only [M128, q_sizeAt hM, b1, ↓if_pos, ↓if_neg, nI_add, q_sub, q_cl, p_bnd_s, p_bnd_v])
      exact c1
    · have hH1 : q_hA n (2 * (i + 1)) (w.2.1 26) A := by
        intro j j1 j2 k hk
        by_cases e1 : j < 2 * i
        · exact hH j j1 e1 k hk
        · exfalso
          have key : ∀ m : Fin 4, ∀ i : Fin 8, i.val = 0 ∨ 2 ≤ q_wd (4 * 2 ^ m.val) i.val ∨ (q_wd (4 * 2 ^ m.val) (2 * i.val) = 0 ∧ q_wd (4 * 2 ^ m.val) (2 * i.val + 1) = 0) := by decide +kernel
          obtain ⟨m, hm⟩ := q_nfin hn4
          rcases key m ⟨i, by omega⟩ with z | z | z
          · exact absurd z (by dsimp only; omega)
          · rw [← hm] at z; exact h2 z
          · rw [← hm] at z
            dsimp only at z
            have : j = 2 * i ∨ j = 2 * i + 1 := by omega
            rcases this with rfl | rfl <;> omega
      obtain ⟨w', c1, c2, c3⟩ := ih (i + 1) w (by omega) (by omega) hM hH1
      refine ⟨w', ?_, c2, c3⟩
      (conv => lhs; simp (disch := first | assumption | omega | (rw [nI_leI] <;> omega) | (rw [nI_ltI] <;> omega) | (rw [nI_eq] <;> omega) | (apply q_out <;> omega) | (apply q_nb; omega) | (apply q_n0 <;> omega)) only [M128, q_sizeAt hM, ↓if_pos, ↓if_neg, nI_add, q_sub, q_cl, p_bnd_s, p_bnd_v])
      exact c1
/-- what the way up has written: best and kinds -/
def q_mU (n : Nat) (A : Nat → Int64) (E i : Nat) (w : pW) : Prop := (∀ j, i < j → j < 2 * E → w.2.2 30 j = nI ((q_gg n A E (15 - i)).1 j) ∧ w.2.2 25 j = nI (if (q_gg n A E (15 - i)).2 j = true then 2 else 1)) ∧ (∀ j, 2 * E ≤ j → j < 16 → w.2.2 25 j = nI 0) ∧ w.2.2 25 0 = nI 0
def q_kU (w w' : pW) : Prop := w'.1 = w.1 ∧ w'.2.1 = w.2.1 ∧ ∀ b, b ≠ 25 → b ≠ 30 → w'.2.2 b = w.2.2 b
theorem q_kU.tr {a b c : pW} (h : q_kU a b) (g : q_kU b c) : q_kU a c := ⟨g.1.trans h.1, g.2.1.trans h.2.1, fun o h1 h2 => (g.2.2 o h1 h2).trans (h.2.2 o h1 h2)⟩
theorem q_mCh2a (hn : n ≤ 32) (hq : ∀ i, i < 16 → ∀ k, k < q_wd n i → q_nm (A (32 * i + k))) {x1 : Int32} {E i : Nat} (hE : E ≤ 8) {w : pW} {z4 z5 : Value} (hi : i < 2 * E) (h1 : 1 ≤ i) (hM : q_Mw n wv w) (hH : q_hA n (2 * E) (w.2.1 26) A) : p_ev none 128 67 [.ref 24, .int x1, .int (nI E), .int (nI i), z4, z5] [] w = p_ev none 128 94 [.ref 24, .int x1, .int (nI E), .int (nI i), .int (nI (q_wt n A i)), z5] [] w := by
  have h26 : p_lg 26 := rfl
  have hw := q_wdle n i
  have hne : ¬ nI i ≤ nI 0 := by rw [nI_leI (by omega) (by omega)]; omega
  have hrow : ∀ k, k < q_wd n i → w.2.1 26 (32 * i + k) = A (32 * i + k) := fun k hk => hH i h1 hi k hk
  have hcost : p_ev none 125 0 [.ref 24, .ref 26, .int (nI i), p_U, p_U] [] w = some (.inl (some (.int (nI (q_wt n A i)))), w, 0) := by
    rw [q_mCostIn h26 (by omega) hn hM (fun k hk => by rw [hrow k hk]; exact hq i (by omega) k hk), q_cs_cg _ hrow]
    rfl
  rw [H128_67]
  by_cases h0 : q_wd n i = 0
  · have e : q_wt n A i = 0 := by unfold q_wt; rw [h0]; rfl
    have hle : nI (q_wd n i) ≤ nI 0 := by rw [h0]; decide
    rw [e]
    (conv => lhs; simp (disch := first | assumption | omega | (rw [nI_leI] <;> omega) | (rw [nI_ltI] <;> omega) | (rw [nI_eq] <;> omega) | (apply q_out <;> omega) | (apply q_nb; omega) | (apply q_n0 <;> omega)) only [M128, q_sizeAt hM, ↓if_pos, ↓if_neg, nI_add, q_sub, q_cl, p_bnd_s, p_bnd_v])
    (conv => rhs; simp (disch := first | assumption | omega | (rw [nI_leI] <;> omega) | (rw [nI_ltI] <;> omega) | (rw [nI_eq] <;> omega) | (apply q_out <;> omega) | (apply q_nb; omega) | (apply q_n0 <;> omega)) only [M128, q_sizeAt hM, ↓if_pos, ↓if_neg, nI_add, q_sub, q_cl, p_bnd_s, p_bnd_v])
  · have hle : ¬ nI (q_wd n i) ≤ nI 0 := by rw [nI_leI (by omega) (by omega)]; omega
    (conv => lhs; simp (disch := first | assumption | omega | (rw [nI_leI] <;> omega) | (rw [nI_ltI] <;> omega) | (rw [nI_eq] <;> omega) | (apply q_out <;> omega) | (apply q_nb; omega) | (apply q_n0 <;> omega)) only [M128, q_sizeAt hM, hcost, ↓if_pos, ↓if_neg, nI_add, q_sub, q_cl, p_bnd_s, p_bnd_v])
    (conv => rhs; simp (disch := first | assumption | omega | (rw [nI_leI] <;> omega) | (rw [nI_ltI] <;> omega) | (rw [nI_eq] <;> omega) | (apply q_out <;> omega) | (apply q_nb; omega) | (apply q_n0 <;> omega)) only [M128, q_sizeAt hM, ↓if_pos, ↓if_neg, nI_add, q_sub, q_cl, p_bnd_s, p_bnd_v])
theorem q_mCh2b (hn : n ≤ 32) {x1 : Int32} {E i : Nat} (hE : E ≤ 8) {w : pW} {z5 : Value} {G : q_G} (hG : ∀ j, G.1 j ≤ 2016) (hi : i < 2 * E) (hi1 : 1 ≤ i) (hM : q_Mw n wv w) (hb : ∀ j, i < j → j < 2 * E → w.2.2 30 j = nI (G.1 j)) : p_ev none 128 94 [.ref 24, .int x1, .int (nI E), .int (nI i), .int (nI (q_wt n A i)), z5] [] w = p_ev none 128 139 [.ref 24, .int x1, .int (nI E), .int (nI i), .int (nI (q_wt n A i)), .int (nI (q_gc n A E i G).toNat)] [] w := by
  have hw := q_wdle n i
  have hwt := q_wt_le (A := A) (j := i) hn
  have l1 := hG (2 * i)
  have l2 := hG (2 * i + 1)
  unfold q_gc
  by_cases h1 : i < E
  · rw [decide_eq_true h1]
    by_cases h2 : 2 ≤ q_wd n i
    · rw [decide_eq_true h2]
      have b1 := hb (2 * i) (by omega) (by omega)
      have b2 := hb (2 * i + 1) (by omega) (by omega)
      by_cases h3 : G.1 (2 * i) + G.1 (2 * i + 1) < q_wt n A i
      · have e1 : ¬ nI 1 = nI 0 := by decide
        rw [decide_eq_true h3, show (true && true && true).toNat = 1 from rfl]
        (conv => lhs; simp (disch := first | assumption | omega | (rw [nI_leI] <;> omega) | (rw [nI_ltI] <;> omega) | (rw [nI_eq] <;> omega) | (apply q_out <;> omega) | (apply q_nb; omega) | (apply q_n0 <;> omega)) only [M128, q_sizeAt hM, pk_mul, b1, b2, ↓if_pos, ↓if_neg, nI_add, q_sub, q_cl, p_bnd_s, p_bnd_v])
        (conv => rhs; simp (disch := first | assumption | omega | (rw [nI_leI] <;> omega) | (rw [nI_ltI] <;> omega) | (rw [nI_eq] <;> omega) | (apply q_out <;> omega) | (apply q_nb; omega) | (apply q_n0 <;> omega)) only [M128, pk_mul, b1, b2, ↓if_pos, ↓if_neg, nI_add, q_sub, q_cl, p_bnd_s, p_bnd_v])
      · rw [decide_eq_false h3, show (true && true && false).toNat = 0 from rfl]
        (conv => lhs; simp (disch := first | assumption | omega | (rw [nI_leI] <;> omega) | (rw [nI_ltI] <;> omega) | (rw [nI_eq] <;> omega) | (apply q_out <;> omega) | (apply q_nb; omega) | (apply q_n0 <;> omega)) only [M128, q_sizeAt hM, pk_mul, b1, b2, ↓if_pos, ↓if_neg, nI_add, q_sub, q_cl, p_bnd_s, p_bnd_v])
        (conv => rhs; simp (disch := first | assumption | omega | (rw [nI_leI] <;> omega) | (rw [nI_ltI] <;> omega) | (rw [nI_eq] <;> omega) | (apply q_out <;> omega) | (apply q_nb; omega) | (apply q_n0 <;> omega)) only [M128, pk_mul, b1, b2, ↓if_pos, ↓if_neg, nI_add, q_sub, q_cl, p_bnd_s, p_bnd_v])
    · rw [decide_eq_false h2, show (true && false && decide (G.1 (2 * i) + G.1 (2 * i + 1) < q_wt n A i)) = false from rfl, show false.toNat = 0 from rfl]
      (conv => lhs; simp (disch := first | assumption | omega | (rw [nI_leI] <;> omega) | (rw [nI_ltI] <;> omega) | (rw [nI_eq] <;> omega) | (apply q_out <;> omega) | (apply q_nb; omega) | (apply q_n0 <;> omega)) only [M128, q_sizeAt hM, ↓if_pos, ↓if_neg, nI_add, q_sub, q_cl, p_bnd_s, p_bnd_v])
      (conv => rhs; simp (disch := first | assumption | omega | (rw [nI_leI] <;> omega) | (rw [nI_ltI] <;> omega) | (rw [nI_eq] <;> omega) | (apply q_out <;> omega) | (apply q_nb; omega) | (apply q_n0 <;> omega)) only [M128, ↓if_pos, ↓if_neg, nI_add, q_sub, q_cl, p_bnd_s, p_bnd_v])
  · rw [decide_eq_false h1, show (false && decide (2 ≤ q_wd n i) && decide (G.1 (2 * i) + G.1 (2 * i + 1) < q_wt n A i)) = false from rfl, show false.toNat = 0 from rfl]
    (conv => lhs; simp (disch := first | assumption | omega | (rw [nI_leI] <;> omega) | (rw [nI_ltI] <;> omega) | (rw [nI_eq] <;> omega) | (apply q_out <;> omega) | (apply q_nb; omega) | (apply q_n0 <;> omega)) only [M128, q_sizeAt hM, ↓if_pos, ↓if_neg, nI_add, q_sub, q_cl, p_bnd_s, p_bnd_v])
    (conv => rhs; simp (disch := first | assumption | omega | (rw [nI_leI] <;> omega) | (rw [nI_ltI] <;> omega) | (rw [nI_eq] <;> omega) | (apply q_out <;> omega) | (apply q_nb; omega) | (apply q_n0 <;> omega)) only [M128, ↓if_pos, ↓if_neg, nI_add, q_sub, q_cl, p_bnd_s, p_bnd_v])
theorem q_mCh2 (hn : n ≤ 32) (hq : ∀ i, i < 16 → ∀ k, k < q_wd n i → q_nm (A (32 * i + k))) {x1 : Int32} {E : Nat} (hE : E ≤ 8) : ∀ (i : Nat) (w : pW) (z4 z5 : Value), i < 2 * E → q_Mw n wv w → q_hA n (2 * E) (w.2.1 26) A → q_mU n A E i w → ∃ w' z4' z5', p_ev none 128 67 [.ref 24, .int x1, .int (nI E), .int (nI i), z4, z5] [] w = p_ev none 128 198 [.ref 24, .int x1, .int (nI E), .int (nI 2), z4', z5'] [] w' ∧ q_kU w w' ∧ q_mU n A E 0 w' := by
  have h26 : p_lg 26 := rfl
  intro i
  induction i with
  | zero =>
    intro w z4 z5 hi hM hH hU
    refine ⟨w, z4, z5, ?_, ⟨rfl, rfl, fun _ _ _ => rfl⟩, hU⟩
    rw [H128_67]
    (conv => lhs; simp (disch := first | assumption | omega | (rw [nI_leI] <;> omega) | (rw [nI_ltI] <;> omega) | (rw [nI_eq] <;> omega) | (apply q_out <;> omega) | (apply q_nb; omega) | (apply q_n0 <;> omega)) only [M128, ↓if_pos, ↓if_neg, nI_add, q_sub, q_cl, p_bnd_s, p_bnd_v])
  | succ i ih =>
    intro w z4 z5 hi hM hH hU
    have hGe : q_gg n A E (15 - i) = q_g1 n A E (i + 1) (q_gg n A E (15 - (i + 1))) := by
      rw [show 15 - i = (15 - (i + 1)) + 1 by omega, q_gg, show 15 - (15 - (i + 1)) = i + 1 by omega]
    have hGl := q_gg_le (n := n) (A := A) (E := E) hn (15 - (i + 1))
    obtain ⟨u1, u2, u3⟩ := hU
    have hb := q_mCh2a (x1 := x1) (z4 := z4) (z5 := z5) hn hq hE hi (by omega) hM hH
    have hb2 := q_mCh2b (x1 := x1) (z5 := z5) (A := A) hn hE hGl hi (by omega) hM (fun j j1 j2 => (u1 j j1 j2).1)
    rw [hb, hb2]
    have hnew : ∀ (c : Bool), c = q_gc n A E (i + 1) (q_gg n A E (15 - (i + 1))) → q_mU n A E i (w.1, w.2.1, q_r (q_r w.2.2 30 (fun j => if j = i + 1 then nI (if c = true then (q_gg n A E (15 - (i + 1))).1 (2 * (i + 1)) + (q_gg n A E (15 - (i + 1))).1 (2 * (i + 1) + 1) else q_wt n A (i + 1)) else w.2.2 30 j)) 25 (fun j => if j = i + 1 then nI (if c = true then 2 else 1) else w.2.2 25 j)) := by
      intro c hc
      refine ⟨fun j j1 j2 => ?_, fun j j1 j2 => ?_, ?_⟩
      · dsimp only
        rw [q_r_n (show (30 : Nat) ≠ 25 by decide), q_r_s, q_r_s, hGe]
        by_cases hj : j = i + 1
        · have e2 : (q_g1 n A E (i + 1) (q_gg n A E (15 - (i + 1)))).2 j = c := by rw [hj, hc]; exact if_pos rfl
          have e1 : (q_g1 n A E (i + 1) (q_gg n A E (15 - (i + 1)))).1 j = if c = true then (q_gg n A E (15 - (i + 1))).1 (2 * (i + 1)) + (q_gg n A E (15 - (i + 1))).1 (2 * (i + 1) + 1) else q_wt n A (i + 1) := by rw [hj, hc]; exact if_pos rfl
          rw [e1, e2, if_pos hj, if_pos hj]
          exact ⟨rfl, rfl⟩
        · have e2 : (q_g1 n A E (i + 1) (q_gg n A E (15 - (i + 1)))).2 j = (q_gg n A E (15 - (i + 1))).2 j := if_neg hj
          have e1 : (q_g1 n A E (i + 1) (q_gg n A E (15 - (i + 1)))).1 j = (q_gg n A E (15 - (i + 1))).1 j := if_neg hj
          rw [e1, e2, if_neg hj, if_neg hj]
          exact u1 j (by omega) j2
      · dsimp only
        rw [q_r_s, if_neg (by omega)]; exact u2 j j1 j2
      · dsimp only
        rw [q_r_s, if_neg (by omega)]; exact u3
    have hk : ∀ g g', q_kU w (w.1, w.2.1, q_r (q_r w.2.2 30 g) 25 g') := fun g g' => ⟨rfl, rfl, fun b h1 h2 => (q_r_n h1).trans (q_r_n h2)⟩
    have hM1 : ∀ g : Nat → Nat → Int32, q_Mw n wv (w.1, w.2.1, g) := fun _ => ⟨hM.1, hM.2.1, hM.2.2.1, hM.2.2.2⟩
    have hH1 : ∀ g : Nat → Nat → Int32, q_hA n (2 * E) (((w.1, w.2.1, g) : pW).2.1 26) A := fun _ => hH
    have e10 : ¬ nI 1 = nI 0 := by decide
    cases hc : q_gc n A E (i + 1) (q_gg n A E (15 - (i + 1)))
    · have hN := hnew false hc.symm
      rw [if_neg Bool.false_ne_true, if_neg Bool.false_ne_true] at hN
      obtain ⟨w', y4, y5, c1, c2, c3⟩ := ih _ (.int (nI (q_wt n A (i + 1)))) (.int (nI 0)) (by omega) (hM1 _) (hH1 _) hN
      refine ⟨w', y4, y5, ?_, (hk _ _).tr c2, c3⟩
      (conv => lhs; simp (disch := first | assumption | omega | (rw [nI_leI] <;> omega) | (rw [nI_ltI] <;> omega) | (rw [nI_eq] <;> omega) | (apply q_out <;> omega) | (apply q_nb; omega) | (apply q_n0 <;> omega)) only [M128, Bool.toNat_false, q_pu, q_r_n, q_m1, Nat.add_sub_cancel, ↓if_pos, ↓if_neg, nI_add, q_sub, q_cl, p_bnd_s, p_bnd_v])
      exact c1
    · have hN := hnew true hc.symm
      rw [if_pos rfl, if_pos rfl] at hN
      have hc2 := hc
      unfold q_gc at hc2
      rw [Bool.and_eq_true, Bool.and_eq_true, decide_eq_true_eq, decide_eq_true_eq] at hc2
      have b1 := (u1 (2 * (i + 1)) (by omega) (by omega)).1
      have b2 := (u1 (2 * (i + 1) + 1) (by omega) (by omega)).1
      obtain ⟨w', y4, y5, c1, c2, c3⟩ := ih _ (.int (nI (q_wt n A (i + 1)))) (.int (nI 1)) (by omega) (hM1 _) (hH1 _) hN
      refine ⟨w', y4, y5, ?_, (hk _ _).tr c2, c3⟩
      (conv => lhs; simp (disch := first | assumption | omega | (rw [nI_leI] <;> omega) | (rw [nI_ltI] <;> omega) | (rw [nI_eq] <;> omega) | (apply q_out <;> omega) | (apply q_nb; omega) | (apply q_n0 <;> omega)) only [M128, Bool.toNat_true, pk_mul, b1, b2, q_pu, q_r_n, q_m1, Nat.add_sub_cancel, ↓if_pos, ↓if_neg, nI_add, q_sub, q_cl, p_bnd_s, p_bnd_v])
      exact c1
/-- the kinds after the last loop has come to i -/
def q_mV (sp : Nat → Bool) (f : Nat → Bool) (E i : Nat) (w : pW) : Prop := (∀ j, j < i → w.2.2 25 j = nI (q_kd sp j)) ∧ (∀ j, i ≤ j → j < 2 * E → w.2.2 25 j = nI (if f j = true then 2 else 1)) ∧ ∀ j, 2 * E ≤ j → j < 16 → w.2.2 25 j = nI 0
theorem q_mCh3 {x1 : Int32} {E : Nat} (hE : E ≤ 8) {f : Nat → Bool} (hsp : ∀ j, 2 ≤ j → j < 16 → sp j = (f j && sp (j / 2))) {z4 z5 : Value} : ∀ (d i : Nat) (w : pW), i + d = 2 * E → 2 ≤ i → q_mV sp f E i w → ∃ g, p_ev none 128 198 [.ref 24, .int x1, .int (nI E), .int (nI i), z4, z5] [] w = some (.inl (some (.int (w.2.2 30 1))), (w.1, w.2.1, q_r w.2.2 25 g), 0) ∧ q_mV sp f E (2 * E) (w.1, w.2.1, q_r w.2.2 25 g) := by
  intro d
  induction d with
  | zero =>
    intro i w hi h2 hV
    rw [Nat.add_zero] at hi
    subst hi
    refine ⟨w.2.2 25, ?_, by rw [q_r_id]; exact hV⟩
    rw [H128_198]
    (conv => lhs; simp (disch := first | assumption | omega | (rw [nI_leI] <;> omega) | (rw [nI_ltI] <;> omega) | (rw [nI_eq] <;> omega) | (apply q_out <;> omega) | (apply q_nb; omega) | (apply q_n0 <;> omega)) only [M128, pk_mul, ↓if_pos, ↓if_neg, nI_add, q_sub, q_cl, p_bnd_s, p_bnd_v])
    rw [q_r_id]
  | succ d ih =>
    intro i w hi h2 hV
    obtain ⟨v1, v2, v3⟩ := hV
    have hk := v1 (i / 2) (by omega)
    have hki := v2 i (Nat.le_refl _) (by omega)
    have hs := hsp i h2 (by omega)
    have h20 : ¬ nI 2 = 0 := by decide
    have hdiv : nI i / nI 2 = nI (i / 2) := q_div (by omega) (by omega) (by omega)
    have hstep : ∀ v, v = nI (q_kd sp i) → q_mV sp f E (i + 1) (w.1, w.2.1, q_r w.2.2 25 (fun j => if j = i then v else w.2.2 25 j)) := by
      intro v hv
      refine ⟨fun j hj => ?_, fun j j1 j2 => ?_, fun j j1 j2 => ?_⟩
      · dsimp only
        rw [q_r_s]
        by_cases e : j = i
        · rw [if_pos e, hv, e]
        · rw [if_neg e]; exact v1 j (by omega)
      · dsimp only
        rw [q_r_s, if_neg (by omega)]; exact v2 j (by omega) j2
      · dsimp only
        rw [q_r_s, if_neg (by omega)]; exact v3 j j1 j2
    have e30 : ∀ v, q_r w.2.2 25 (fun j => if j = i then v else w.2.2 25 j) 30 = w.2.2 30 := fun v => q_r_n (by decide)
    rw [H128_198]
    cases hp : sp (i / 2)
    · have hz : ¬ nI (q_kd sp (i / 2)) = nI 2 := fun z => by have := q_kd_2.mp z; rw [hp] at this; exact Bool.false_ne_true this
      have hv : nI 0 = nI (q_kd sp i) := by
        unfold q_kd
        rw [hs, hp, Bool.and_false, if_neg Bool.false_ne_true, q_ex_kid (k := i / 2) h2 (by omega) rfl, hp, if_neg Bool.false_ne_true]
      obtain ⟨g, c1, c2⟩ := ih (i + 1) _ (by omega) (by omega) (hstep _ hv)
      simp only [q_r_r, e30] at c1 c2
      refine ⟨g, ?_, c2⟩
      (conv => lhs; simp (disch := first | assumption | omega | (rw [nI_leI] <;> omega) | (rw [nI_ltI] <;> omega) | (rw [nI_eq] <;> omega) | (apply q_out <;> omega) | (apply q_nb; omega) | (apply q_n0 <;> omega)) only [M128, pk_mul, hdiv, hk, q_pu, ↓if_pos, ↓if_neg, nI_add, q_sub, q_cl, p_bnd_s, p_bnd_v])
      exact c1
    · have hz : nI (q_kd sp (i / 2)) = nI 2 := q_kd_2.mpr hp
      have hz2 : ¬ ¬ nI (q_kd sp (i / 2)) = nI 2 := fun z => z hz
      have hv : nI (if f i = true then 2 else 1) = nI (q_kd sp i) := by
        unfold q_kd
        rw [hs, hp, Bool.and_true, q_ex_kid (k := i / 2) h2 (by omega) rfl, hp, if_pos rfl]
      obtain ⟨g, c1, c2⟩ := ih (i + 1) _ (by omega) (by omega) (hstep _ hv)
      simp only [q_r_r, e30] at c1 c2
      refine ⟨g, ?_, c2⟩
      (conv => lhs; simp (disch := first | assumption | omega | (rw [nI_leI] <;> omega) | (rw [nI_ltI] <;> omega) | (rw [nI_eq] <;> omega) | (apply q_out <;> omega) | (apply q_nb; omega) | (apply q_n0 <;> omega)) only [M128, pk_mul, hdiv, hk, hki, q_pu, ↓if_pos, ↓if_neg, nI_add, q_sub, q_cl, p_bnd_s, p_bnd_v])
      exact c1
theorem q_mChoose (h : q_R n wv sp x w) {l : Nat} (h1 : 1 ≤ l) (h3 : l ≤ 3) (c0 : Nat → Int32) (hq : ∀ i, i < 16 → ∀ k, k < q_wd n i → q_nm (q_DA n wv (q_un n wv sp 1 7 x) (32 * i + k))) : q_ZM w n wv (q_cb n wv l (sp, x, c0)).1 (q_cb n wv l (sp, x, c0)).2.1 (p_ev none 128 0 [.ref 24, .int (nI l), p_U, p_U, p_U, p_U] [] w) (.int (nI (q_cs (q_cb n wv l (sp, x, c0)).2.1 (q_so n 1) (q_wd n 1)))) 0 := by
  have hT := h.2.1
  have hn := hT.n32
  have hC := q_DA_C (n := n) (wv := wv) (y := q_un n wv sp 1 7 x) hn
  have hI := q_cb_I (wv := wv) (x := x) hT h1 h3 c0
  have hD1 : ∀ j, j < 32 → q_DA n wv (q_un n wv sp 1 7 x) (32 + j) = q_un n wv sp 1 7 x j := fun j hj => q_DA_1 hj
  generalize q_DA n wv (q_un n wv sp 1 7 x) = A at hC hI hD1 hq
  generalize q_cb n wv l (sp, x, c0) = S at hI
  obtain ⟨iT, iR, iL, iH, iG, _⟩ := hI
  have hE : 2 ^ l ≤ 8 ∧ 2 ≤ 2 ^ l ∧ 1 * 2 ^ l < 2 ^ 32 := by
    have : l = 1 ∨ l = 2 ∨ l = 3 := by omega
    rcases this with rfl | rfl | rfl <;> decide
  have hshl : nI 1 <<< (nI l &&& 31) = nI (2 ^ l) := by rw [q_shl (by omega) hE.2.2, Nat.one_mul]
  have hd : decide (nI 1 ≤ nI l ∧ nI l ≤ nI 3) = true := decide_eq_true ((q_inN (by omega) (by omega) (by omega)).mpr ⟨h1, h3⟩)
  have e10 : ¬ nI 1 = nI 0 := by decide
  obtain ⟨w1, a1, a2, a3⟩ := q_mJoinNode (w := q_th (nI 0) w) h.th (show 1 ≤ 1 from Nat.le_refl _) (by decide)
  have hx1 : q_ex (q_jn sp 1) 1 = true := rfl
  have hs1 : q_jn sp 1 1 = false := q_jn_in (by decide) (by decide) (q_inT 1 (by decide) (by decide))
  have hw1 : q_wd n 1 = n := Nat.div_one n
  have hso : q_so n 1 = 0 := by unfold q_so; rw [show 1 - 2 ^ q_lv 1 = 0 from rfl, Nat.zero_mul]
  have hA1 : q_hA n (2 * 1) (w1.2.1 26) A := by
    intro j j1 j2 k hk
    have e : j = 1 := by omega
    subst e
    have := a3.2.2.2 1 (by omega) hx1 hs1 k hk
    rw [hw1] at hk
    rw [this, hso, Nat.zero_add, ← hD1 k (by omega)]
  obtain ⟨w2, b1, b2, b3⟩ := q_mCh1 (x1 := nI l) hC hn hT.1 hE.1 (2 ^ l - 1) 1 w1 (by omega) (Nat.le_refl _) a3.1 hA1
  have hflat : ∀ j, q_jn sp 1 j = false := by
    intro j
    by_cases hj : 1 ≤ j ∧ j < 8
    · exact q_jn_in hj.1 hj.2 (q_inT j hj.1 hj.2)
    · rcases Nat.eq_zero_or_pos j with z | z
      · rw [z]; exact a3.2.1.2.1
      · exact a3.2.1.2.2.1 j (by omega)
  have hkd : ∀ j, j < 16 → j ≠ 1 → w2.2.2 25 j = nI 0 := by
    intro j hj hne
    rw [b2.2.1, a3.2.2.1 j hj]
    unfold q_kd q_ex
    rw [hflat j, if_neg Bool.false_ne_true, hflat (j / 2), Bool.and_false, Bool.or_false, decide_eq_false hne, if_neg Bool.false_ne_true]
  have hU : q_mU n A (2 ^ l) (2 * 2 ^ l - 1) w2 := ⟨fun j j1 j2 => by omega, fun j j1 j2 => hkd j j2 (by omega), hkd 0 (by omega) (by omega)⟩
  obtain ⟨w3, y4, y5, c1, c2, c3⟩ := q_mCh2 (x1 := nI l) hn hq hE.1 (2 * 2 ^ l - 1) w2 p_U p_U (by omega) (b2.M a3.1) b3 hU
  have hsp : ∀ j, 2 ≤ j → j < 16 → S.1 j = ((q_gg n A (2 ^ l) 15).2 j && S.1 (j / 2)) := by
    intro j j1 j2
    have := iH j (by omega) j2
    rw [decide_eq_false (show ¬ j / 2 ≤ 0 by omega), Bool.false_or] at this
    exact this
  have hsp1 : S.1 1 = (q_gg n A (2 ^ l) 15).2 1 := by
    have := iH 1 (by omega) (by omega)
    rw [decide_eq_true (show 1 / 2 ≤ 0 by decide), Bool.true_or, Bool.and_true] at this
    exact this
  have hV : q_mV S.1 (q_gg n A (2 ^ l) 15).2 (2 ^ l) 2 w3 := by
    refine ⟨fun j hj => ?_, fun j j1 j2 => (c3.1 j (by omega) j2).2, c3.2.1⟩
    rcases Nat.lt_or_ge j 1 with z | z
    · have e : j = 0 := by omega
      subst e
      rw [c3.2.2]
      unfold q_kd
      rw [iT.2.1, if_neg Bool.false_ne_true]
      rfl
    · have e : j = 1 := by omega
      subst e
      rw [(c3.1 1 (by omega) (by omega)).2]
      unfold q_kd
      rw [hsp1]
      rfl
  obtain ⟨g, d1, d2⟩ := q_mCh3 (x1 := nI l) (z4 := y4) (z5 := y5) hE.1 hsp (2 * 2 ^ l - 2) 2 w3 (by omega) (Nat.le_refl _) hV
  have hbest := (c3.1 1 (by omega) (by omega)).1
  have hroot : q_cs S.2.1 (q_so n 1) (q_wd n 1) = (q_gg n A (2 ^ l) (15 - 0)).1 1 := by
    rw [q_cs_sm iT iR (show q_ex S.1 1 = true from rfl)]
    exact iG 1 (by omega) (by omega) rfl
  have hHeld : w3.2.1 26 = w2.2.1 26 := by rw [c2.2.1]
  have hM3 : q_Mw n wv w3 := by
    have := b2.M a3.1
    exact ⟨by rw [c2.1]; exact this.1, by rw [c2.1]; exact this.2.1, this.2.2.1, this.2.2.2⟩
  refine ⟨(w3.1, w3.2.1, q_r w3.2.2 25 g), ?_, ⟨⟨hM3.1, hM3.2.1, hM3.2.2.1, hM3.2.2.2⟩, iT, fun j hj => ?_, fun i hi ei li k hk => ?_⟩, ?_, ?_⟩
  · (conv => lhs; simp (disch := first | assumption | omega | (rw [nI_leI] <;> omega) | (rw [nI_ltI] <;> omega) | (rw [nI_eq] <;> omega) | (apply q_out <;> omega) | (apply q_nb; omega) | (apply q_n0 <;> omega)) only [M128, ↓q_th_r, q_th_2, q_mIn, hd, Bool.toNat_true, a1, hshl, b1, ↓if_pos, ↓if_neg, nI_add, q_sub, q_cl, p_bnd_s, p_bnd_v])
    rw [c1, d1, hbest, hroot]
  · rcases Nat.lt_or_ge j (2 * 2 ^ l) with z | z
    · exact d2.1 j z
    · rw [d2.2.2 j z hj]
      unfold q_kd
      have e1 : S.1 j = false := by
        cases y : S.1 j
        · rfl
        · rw [hsp j (by omega) hj, Bool.and_eq_true] at y
          have := q_gg_f _ _ y.1; omega
      have e2 : S.1 (j / 2) = false := by
        cases y : S.1 (j / 2)
        · rfl
        · rw [hsp (j / 2) (by omega) (by omega), Bool.and_eq_true] at y
          have := q_gg_f _ _ y.1; omega
      rw [e1, if_neg Bool.false_ne_true, q_ex_kid (k := j / 2) (by omega) hj rfl, e2, if_neg Bool.false_ne_true]
  · have hb := q_ex_b ei
    have hi2 : i < 2 * 2 ^ l := by
      rcases Nat.lt_or_ge i (2 * 2 ^ l) with z | z
      · exact z
      · exfalso
        rw [q_ex_kid (k := i / 2) (by omega) hi rfl, hsp (i / 2) (by omega) (by omega), Bool.and_eq_true] at ei
        have := q_gg_f _ _ ei.1; omega
    rw [← iR i hi ei li k hk]
    show w3.2.1 26 (32 * i + k) = _
    rw [hHeld]
    exact b3 i hb.1 hi2 k hk
  · show w3.1 24 4 = nI 0
    rw [c2.1, b2.1, a2.1]; rfl
  · refine ((q_th_FM.tr a2.fm).tr (b2.fm (by simp))).tr ⟨fun o _ => congrFun c2.1 o, fun o _ => congrFun c2.2.1 o, fun o ho => ?_⟩
    show q_r w3.2.2 25 g o = _
    rw [q_r_n (by omega)]
    exact c2.2.2 o (by omega) (by omega)
theorem q_mChoose_x (h : q_R n wv sp x w) {a : Int32} (ha : a < nI 1 ∨ (¬ a < nI 1 ∧ ¬ a ≤ nI 3)) : q_ZTi w n wv sp x (p_ev none 128 0 [.ref 24, .int a, p_U, p_U, p_U, p_U] [] w) 1 := by
  have e2 : ¬ ¬ nI 0 = nI 0 := by decide
  have hd : decide (nI 1 ≤ a ∧ a ≤ nI 3) = false := decide_eq_false (fun z => by
    rcases ha with ha | ha
    · exact absurd ha (Int32.not_lt.mpr z.1)
    · exact ha.2 z.2)
  refine q_ZTi0 h ?_
  (conv => lhs; simp (disch := first | assumption | omega | (rw [nI_leI] <;> omega) | (rw [nI_ltI] <;> omega) | (rw [nI_eq] <;> omega) | (apply q_out <;> omega) | (apply q_nb; omega) | (apply q_n0 <;> omega)) only [M128, ↓q_th_r, q_th_2, q_mIn, hd, Bool.toNat_false, q_mFails, q_th_th, ↓if_pos, ↓if_neg, nI_add, q_sub, q_cl, p_bnd_s, p_bnd_v])
end Mb2
