/-! THE CLASS ENCODES AND READS -/
/-- the leaf that is reached by low bands alone -/
def q_lw (sp : Nat → Bool) : Nat := if sp 1 = true then if sp 2 = true then if sp 4 = true then 8 else 4 else 2 else 1
theorem q_lo_lw {n : Nat} {sp : Nat → Bool} (hT : q_T n sp) : q_lo n sp 0 3 1 = q_lw sp := by
  have key : ∀ n, (n = 4 ∨ n = 8 ∨ n = 16 ∨ n = 32) → ∀ nd, (nd = 1 ∨ nd = 2 ∨ nd = 4) → 2 ≤ q_wd n nd → 0 < q_so n (2 * nd + 1) := by
    intro n hn nd hnd h2
    rcases hnd with rfl | rfl | rfl <;> rcases hn with rfl | rfl | rfl | rfl <;> revert h2 <;> decide
  unfold q_lw
  rw [q_lo]
  by_cases h1 : sp 1 = true
  · rw [if_pos h1, if_pos h1, if_pos (key n hT.1 1 (by omega) (hT.2.2.2.2 1 (by omega) (by omega) h1)), q_lo]
    by_cases h2 : sp 2 = true
    · rw [if_pos h2, if_pos h2, if_pos (key n hT.1 2 (by omega) (hT.2.2.2.2 2 (by omega) (by omega) h2)), q_lo]
      by_cases h3 : sp 4 = true
      · rw [if_pos h3, if_pos h3, if_pos (key n hT.1 4 (by omega) (hT.2.2.2.2 4 (by omega) (by omega) h3)), q_lo]
      · rw [if_neg h3, if_neg h3]
    · rw [if_neg h2, if_neg h2]
  · rw [if_neg h1, if_neg h1]
theorem q_wd_half : ∀ nd, nd < 8 → 1 ≤ nd → ∀ n, (n = 4 ∨ n = 8 ∨ n = 16 ∨ n = 32) → q_wd n (2 * nd) = q_wd n nd / 2 ∧ q_wd n (2 * nd + 1) = q_wd n nd / 2 := by
  have key : ∀ nd : Fin 8, 1 ≤ nd.val → (q_wd 4 (2 * nd.val) = q_wd 4 nd.val / 2 ∧ q_wd 4 (2 * nd.val + 1) = q_wd 4 nd.val / 2) ∧ (q_wd 8 (2 * nd.val) = q_wd 8 nd.val / 2 ∧ q_wd 8 (2 * nd.val + 1) = q_wd 8 nd.val / 2) ∧ (q_wd 16 (2 * nd.val) = q_wd 16 nd.val / 2 ∧ q_wd 16 (2 * nd.val + 1) = q_wd 16 nd.val / 2) ∧ (q_wd 32 (2 * nd.val) = q_wd 32 nd.val / 2 ∧ q_wd 32 (2 * nd.val + 1) = q_wd 32 nd.val / 2) := by decide +kernel
  intro nd h8 h1 n hn
  have k := key ⟨nd, h8⟩ h1
  rcases hn with rfl | rfl | rfl | rfl
  · exact k.1
  · exact k.2.1
  · exact k.2.2.1
  · exact k.2.2.2
theorem q_wd_pos {n k : Nat} {sp : Nat → Bool} (hT : q_T n sp) (hx : q_ex sp k = true) : 1 ≤ q_wd n k := by
  by_cases h1 : k = 1
  · subst h1
    have : q_wd n 1 = n / 1 := rfl
    rw [this]
    rcases hT.1 with z | z | z | z <;> omega
  · have hx2 : 1 < k ∧ k < 16 ∧ sp (k / 2) = true := by
      unfold q_ex at hx
      simp only [Bool.or_eq_true, Bool.and_eq_true, decide_eq_true_eq] at hx
      rcases hx with z | ⟨⟨z1, z2⟩, z3⟩
      · exact absurd z h1
      · exact ⟨z1, z2, z3⟩
    have h2 := hT.2.2.2.2 (k / 2) (by omega) (by omega) hx2.2.2
    have h3 := q_wd_half (k / 2) (by omega) (by omega) n hT.1
    rcases Nat.mod_two_eq_zero_or_one k with hm | hm
    · have e : k = 2 * (k / 2) := by omega
      rw [e, h3.1]; omega
    · have e : k = 2 * (k / 2) + 1 := by omega
      rw [e, h3.2]; omega
theorem q_lw_ex {sp : Nat → Bool} : q_ex sp (q_lw sp) = true := by
  unfold q_lw
  cases h1 : sp 1
  · rfl
  · cases h2 : sp 2
    · simp [q_ex, h1]
    · cases h3 : sp 4
      · simp [q_ex, h2]
      · simp [q_ex, h3]
theorem q_lw_b {sp : Nat → Bool} : 1 ≤ q_lw sp ∧ q_lw sp < 16 := by
  unfold q_lw; split
  · split
    · split <;> omega
    · omega
  · omega
theorem q_lw_wd {n : Nat} {sp : Nat → Bool} (hT : q_T n sp) : 1 ≤ q_wd n (q_lw sp) ∧ q_wd n (q_lw sp) ≤ n := ⟨q_wd_pos hT q_lw_ex, q_wdle _ _⟩
/-- the world but for rows 13 to 15 (or 12 to 15) is the same -/
def q_V (m : Nat) (w w' : pW) : Prop := w'.1 = w.1 ∧ w'.2.2 = w.2.2 ∧ ∀ a, a < m ∨ 15 < a → w'.2.1 a = w.2.1 a
theorem q_V.rf {m : Nat} {w : pW} : q_V m w w := ⟨rfl, rfl, fun _ _ => rfl⟩
theorem q_V.tr {m : Nat} {a b c : pW} (h : q_V m a b) (g : q_V m b c) : q_V m a c := ⟨g.1.trans h.1, g.2.1.trans h.2.1, fun o ho => (g.2.2 o ho).trans (h.2.2 o ho)⟩
theorem q_V.wk {a b : pW} (h : q_V 13 a b) : q_V 12 a b := ⟨h.1, h.2.1, fun o ho => h.2.2 o (by omega)⟩
theorem q_V.fc {m : Nat} {a b : pW} (h : q_V m a b) : q_FC a b := ⟨fun o _ => congrFun h.1 o, fun o ho => h.2.2 o (by omega), fun o _ => congrFun h.2.1 o⟩
theorem q_Y.fc {a b : pW} (h : q_Y a b) : q_FC a b := ⟨fun o ho => h.1 o (by omega), fun o ho => h.2.1 o (by omega) (by omega), fun o ho => h.2.2 o (by omega)⟩
section En
variable {n wv : Nat} {sp : Nat → Bool} {x : Nat → Int64} {w w' : pW}
theorem q_C.ww (h : q_C n wv sp w) (e1 : w'.1 1 = w.1 1) (e2 : w'.1 2 = w.1 2) (e3 : w'.2.2 18 = w.2.2 18) : q_C n wv sp w' := by
  obtain ⟨a, b, c, d, e, f⟩ := h
  refine ⟨?_, ?_, c, d, ?_, f⟩
  · rw [e1]; exact a
  · rw [e2]; exact b
  · rw [e3]; exact e
theorem q_K.y (h : q_K n wv sp x w) (g : q_Y w w') : q_K n wv sp x w' := ⟨h.1.ww (g.1 1 (by decide)) (g.1 2 (by decide)) (g.2.2 18 (by omega)), h.2.1, by rw [g.2.1 11 (by decide) (by decide)]; exact h.2.2⟩
theorem q_K.v {m : Nat} (hm : 12 ≤ m) (h : q_K n wv sp x w) (g : q_V m w w') : q_K n wv sp x w' := ⟨h.1.ww (by rw [g.1]) (by rw [g.1]) (by rw [g.2.1]), h.2.1, by rw [g.2.2 11 (by omega)]; exact h.2.2⟩
/-- the code is written -/
def q_P (n wv : Nat) (sp : Nat → Bool) (x : Nat → Int64) (w : pW) : Prop := q_K n wv sp x w ∧ q_E (q_cd n (q_wd n (q_lw sp)) x) w ∧ ∀ j, j < 32 → w.2.1 16 j = x j
theorem q_P.v {m : Nat} (hm : 12 ≤ m) (h : q_P n wv sp x w) (g : q_V m w w') : q_P n wv sp x w' := by
  refine ⟨h.1.v hm g, ?_, fun j hj => by rw [g.2.2 16 (by omega)]; exact h.2.2 j hj⟩
  obtain ⟨a, b⟩ := h.2.1
  refine ⟨by rw [g.1]; exact a, fun i e hi => ?_⟩
  rw [g.2.1]; exact b i e hi
theorem q_encode (h : q_K n wv sp x w) : ∃ w', p_ev none 90 0 [.ref 0] [] w = some (.inl none, w', 0) ∧ q_P n wv sp x w' ∧ q_Y w w' := by
  have hl := q_lw_wd h.2.1
  have hn := h.2.1.n32
  have hb := q_lw_b (sp := sp)
  have hO := q_leafOver h.1 h.2.1 (p := 0) (by decide)
  rw [q_lo_lw h.2.1] at hO
  obtain ⟨w', a1, a2, a3, a4, a5⟩ := q_write (r := 4) (n := n) (lo := q_wd n (q_lw sp)) (w := w) (x := fun j => if j < 32 then w.2.1 11 j else w.2.1 16 j) q_r4 (by decide) hn hl.1 hl.2 rfl
  refine ⟨w', ?_, ⟨h.y a5, ?_, ?_⟩, a5⟩
  · (conv => lhs; simp (disch := first | assumption | omega | (rw [nI_leI] <;> omega) | (rw [nI_ltI] <;> omega) | (rw [nI_eq] <;> omega) | (apply q_out <;> omega) | (apply q_nb; omega) | (apply q_n0 <;> omega)) only [M90, q_width h.1, hO, q_widthOf h.1, a1, ↓if_pos, ↓if_neg, nI_add, q_sub, q_cl, p_bnd_s, p_bnd_v])
  · have e : q_code n (q_wd n (q_lw sp)) (fun j => if j < 32 then w.2.1 11 j else w.2.1 16 j) (w.2.1 17) = q_cd n (q_wd n (q_lw sp)) x := by
      refine q_code_cg hl.1 (fun j hj => ?_)
      rw [if_pos (show j < 32 by omega), h.2.2]
    rw [← e]; exact a2
  · intro j hj
    rw [a4, ← h.2.2]
    exact if_pos hj
/-- what is told after k bits -/
def q_td (E : List q_ev) (x : Nat → Int64) : Nat → Nat → Int64
  | 0, _ => lN 0
  | k + 1, j => match E[k]? with
    | some e => if 2 ≤ e.1 ∧ j = e.2.2.1 then q_kn (x j) e.2.2.2 else q_td E x k j
    | none => q_td E x k j
theorem q_tellE {c k : Nat} {E : List q_ev} {e : q_ev} (hE : q_E E w) (hl : E.length ≤ 4038) (hk : E[k]? = some e) (ho : q_ok e) (hx : ∀ j, j < 32 → w.2.1 16 j = x j) (hT : ∀ j, j < 32 → w.2.1 13 j = q_td E x k j) : ∃ w', p_ev none 4 0 [.ref 3, .int (nI k), .ref 6, p_U] [] w = some (.inl (some (.int (nI (decide (2 ≤ e.1)).toNat))), w', 0) ∧ (∀ j, j < 32 → w'.2.1 13 j = q_td E x (k + 1) j) ∧ q_V 13 w w' ∧ (¬ 2 ≤ e.1 → w' = w) := by
  have hr : p_rw 6 := ⟨rfl, rfl⟩
  have hk2 : k < E.length := (List.getElem?_eq_some_iff.mp hk).1
  have hA := hE.2 k e hk
  by_cases h2 : 2 ≤ e.1
  · have e21 : w.2.2 21 k = nI e.2.2.1 := by rw [hA.2.1]; exact if_neg (by omega)
    have e22 : w.2.2 22 k = nI e.2.2.2 := by rw [hA.2.2]; exact if_neg (by omega)
    have hh := q_tell (pl := e.2.2.2) hr hE.1 hk2 hl ho.2.1 (by have := ho.2.2; omega) e21 e22
    simp only [Nat.reduceAdd] at hh
    rw [decide_eq_true h2]
    refine ⟨_, hh, fun j hj => ?_, ⟨rfl, rfl, fun a ha => ?_⟩, fun z => absurd h2 z⟩
    · dsimp only
      rw [q_r_s, q_td, hk]
      dsimp only
      by_cases hj2 : j = e.2.2.1
      · rw [if_pos hj2, if_pos ⟨h2, hj2⟩, ← hj2, hx j hj]
      · rw [if_neg hj2, if_neg (fun z => hj2 z.2)]; exact hT j hj
    · dsimp only
      rw [q_r_n (by omega)]
  · have e21 : w.2.2 21 k = (-1 : Int32) := by rw [hA.2.1]; exact if_pos (by omega)
    have hh := q_tell_n hr hE.1 hk2 hl e21
    rw [decide_eq_false h2]
    refine ⟨w, hh, fun j hj => ?_, q_V.rf, fun _ => rfl⟩
    rw [q_td, hk]
    dsimp only
    rw [if_neg (fun z => h2 z.1)]; exact hT j hj
theorem q_rf_l {E : List q_ev} (hl : E.length ≤ 4038) (hok : ∀ e ∈ E, q_ok e) {B : Nat} (hB : B < 2 ^ 31) : ∀ (d k : Nat) (w : pW), k + d = min B E.length → q_E E w → (∀ j, j < 32 → w.2.1 16 j = x j) → (∀ j, j < 32 → w.2.1 13 j = q_td E x k j) → ∃ w', p_ev none 91 9 [.ref 0, .int (nI B), .int (nI k)] [] w = some (.inl none, w', 0) ∧ (∀ j, j < 32 → w'.2.1 13 j = q_td E x (min B E.length) j) ∧ q_V 13 w w' := by
  intro d
  induction d with
  | zero =>
    intro k w hk hE hx hT
    rw [Nat.add_zero] at hk
    refine ⟨w, ?_, by rw [← hk]; exact hT, q_V.rf⟩
    rw [H91_9]
    by_cases hb : B ≤ k
    · (conv => lhs; simp (disch := first | assumption | omega | (rw [nI_leI] <;> omega) | (rw [nI_ltI] <;> omega) | (rw [nI_eq] <;> omega) | (apply q_out <;> omega) | (apply q_nb; omega) | (apply q_n0 <;> omega)) only [M91, ↓if_pos, ↓if_neg, nI_add, q_sub, q_cl, p_bnd_s, p_bnd_v])
    · have hc : E.length ≤ k := by omega
      (conv => lhs; simp (disch := first | assumption | omega | (rw [nI_leI] <;> omega) | (rw [nI_ltI] <;> omega) | (rw [nI_eq] <;> omega) | (apply q_out <;> omega) | (apply q_nb; omega) | (apply q_n0 <;> omega)) only [M91, q_count hE.1, ↓if_pos, ↓if_neg, nI_add, q_sub, q_cl, p_bnd_s, p_bnd_v])
  | succ d ih =>
    intro k w hk hE hx hT
    have hk2 : k < E.length := by omega
    have hk3 : k < B := by omega
    obtain ⟨w1, a1, a2, a3, _⟩ := q_tellE (c := 0) hE hl (List.getElem?_eq_getElem hk2) (hok _ (List.getElem_mem hk2)) hx hT
    have hE1 : q_E E w1 := ⟨by rw [a3.1]; exact hE.1, by rw [a3.2.1]; exact hE.2⟩
    obtain ⟨w', b1, b2, b3⟩ := ih (k + 1) w1 (by omega) hE1 (by rw [a3.2.2 16 (by omega)]; exact hx) a2
    refine ⟨w', ?_, b2, a3.tr b3⟩
    rw [H91_9]
    (conv => lhs; simp (disch := first | assumption | omega | (rw [nI_leI] <;> omega) | (rw [nI_ltI] <;> omega) | (rw [nI_eq] <;> omega) | (apply q_out <;> omega) | (apply q_nb; omega) | (apply q_n0 <;> omega)) only [M91, q_count hE.1, a1, ↓if_pos, ↓if_neg, nI_add, q_sub, q_cl, p_bnd_s, p_bnd_v])
    exact b1
theorem q_readFirst (h : q_P n wv sp x w) {B : Nat} (hB : B < 2 ^ 31) : ∃ w', p_ev none 91 0 [.ref 0, .int (nI B), p_U] [] w = some (.inl none, w', 0) ∧ (∀ j, j < 32 → w'.2.1 13 j = q_td (q_cd n (q_wd n (q_lw sp)) x) x (min B (q_cd n (q_wd n (q_lw sp)) x).length) j) ∧ q_V 13 w w' := by
  have hr : p_rw 6 := ⟨rfl, rfl⟩
  have hn := h.1.2.1.n32
  have hc := q_clear (w := w) hr
  simp only [Nat.reduceAdd] at hc
  have hV : q_V 13 w (w.1, q_r w.2.1 13 (fun j => if j < 32 then lN 0 else w.2.1 13 j), w.2.2) := ⟨rfl, rfl, fun a ha => q_r_n (by omega)⟩
  have hP := h.v (by omega) hV
  obtain ⟨w', b1, b2, b3⟩ := q_rf_l (E := q_cd n (q_wd n (q_lw sp)) x) (x := x) (q_cd_len hn) (q_cd_ok hn) hB (min B (q_cd n (q_wd n (q_lw sp)) x).length) 0 _ (by omega) hP.2.1 hP.2.2 (fun j hj => by dsimp only; rw [q_r_s, if_pos hj]; rfl)
  refine ⟨w', ?_, b2, hV.tr b3⟩
  (conv => lhs; simp (disch := first | assumption | omega | (rw [nI_leI] <;> omega) | (rw [nI_ltI] <;> omega) | (rw [nI_eq] <;> omega) | (apply q_out <;> omega) | (apply q_nb; omega) | (apply q_n0 <;> omega)) only [M91, hc, ↓if_pos, ↓if_neg, nI_add, q_sub, q_cl, p_bnd_s, p_bnd_v])
  exact b1
end En
