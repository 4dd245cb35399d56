/-! THE CLASS: THE CALLS THAT ASK -/
/-- the class's state: length, wavelet, which nodes have children, the row -/
def q_K (n wv : Nat) (sp : Nat → Bool) (x : Nat → Int64) (w : pW) : Prop := q_C n wv sp w ∧ q_T n sp ∧ w.2.1 11 = x
/-- what a call of the class leaves alone -/
def q_FC (w w' : pW) : Prop := (∀ o, 23 ≤ o → w'.1 o = w.1 o) ∧ (∀ a, 23 ≤ a → w'.2.1 a = w.2.1 a) ∧ ∀ a, 23 ≤ a → w'.2.2 a = w.2.2 a
theorem q_FC.rf {w : pW} : q_FC w w := ⟨fun _ _ => rfl, fun _ _ => rfl, fun _ _ => rfl⟩
theorem q_FC.tr {a b c : pW} (h : q_FC a b) (g : q_FC b c) : q_FC a c := ⟨fun o ho => (g.1 o ho).trans (h.1 o ho), fun o ho => (g.2.1 o ho).trans (h.2.1 o ho), fun o ho => (g.2.2 o ho).trans (h.2.2 o ho)⟩
theorem q_FC.l {w : pW} {J : Nat → Nat → Int64} (h : ∀ a, 23 ≤ a → J a = w.2.1 a) : q_FC w (w.1, J, w.2.2) := ⟨fun _ _ => rfl, h, fun _ _ => rfl⟩
/-- the class answers: the call `e` from world w gives o and leaves the state told -/
def q_Z (w : pW) (n wv : Nat) (sp : Nat → Bool) (x : Nat → Int64) (e : Option pR) (v : Option Value) : Prop := ∃ w', e = some (.inl v, w', 0) ∧ q_K n wv sp x w' ∧ q_FC w w'
theorem q_Z0 {w : pW} {n wv : Nat} {sp : Nat → Bool} {x : Nat → Int64} {e : Option pR} {v : Option Value} (h : q_K n wv sp x w) (he : e = some (.inl v, w, 0)) : q_Z w n wv sp x e v := ⟨w, he, h, q_FC.rf⟩
section Ca
variable {n wv : Nat} {sp : Nat → Bool} {x : Nat → Int64} {w : pW}
theorem q_cLength (h : q_K n wv sp x w) : p_ev none 47 0 [.ref 0] [] w = some (.inl (some (.int (nI n))), w, 0) := by
  (conv => lhs; simp (disch := first | assumption | omega | (rw [nI_leI] <;> omega) | (rw [nI_ltI] <;> omega) | (rw [nI_eq] <;> omega) | (apply q_out <;> omega) | (apply q_nb; omega) | (apply q_n0 <;> omega)) only [M47, q_width h.1, ↓if_pos, ↓if_neg, nI_add, q_sub, q_cl, p_bnd_s, p_bnd_v])
theorem q_cIsNode (h : q_K n wv sp x w) (a : Int32) : p_ev none 51 0 [.ref 0, .int a] [] w = some (.inl (some (.int (nI (q_ex sp (q_nt a)).toNat))), w, 0) := by
  have hb := Bool.toNat_lt (q_ex sp (q_nt a))
  (conv => lhs; simp (disch := first | assumption | omega | (rw [nI_leI] <;> omega) | (rw [nI_ltI] <;> omega) | (rw [nI_eq] <;> omega) | (apply q_out <;> omega) | (apply q_nb; omega) | (apply q_n0 <;> omega)) only [M51, q_exi h.1 a, ↓if_pos, ↓if_neg, nI_add, q_sub, q_cl, p_bnd_s, p_bnd_v])
theorem q_cLeaves (h : q_K n wv sp x w) : p_ev none 53 0 [.ref 0] [] w = some (.inl (some (.int (nI (1 + ((List.range 7).map (fun i => (sp (1 + i)).toNat)).sum)))), w, 0) := by
  (conv => lhs; simp (disch := first | assumption | omega | (rw [nI_leI] <;> omega) | (rw [nI_ltI] <;> omega) | (rw [nI_eq] <;> omega) | (apply q_out <;> omega) | (apply q_nb; omega) | (apply q_n0 <;> omega)) only [M53, q_leafCount h.1, ↓if_pos, ↓if_neg, nI_add, q_sub, q_cl, p_bnd_s, p_bnd_v])
theorem q_ntx {a : Int32} (hx : q_ex sp (q_nt a) = true) : ∃ k, 1 ≤ k ∧ k < 16 ∧ a = nI k ∧ q_nt a = k := by
  rcases q_nt_c a with ⟨h1, _⟩ | h1
  · rw [h1] at hx; exact absurd hx Bool.false_ne_true
  · exact h1
theorem q_cIsLeaf (h : q_K n wv sp x w) (a : Int32) : p_ev none 52 0 [.ref 0, .int a] [] w = if q_ex sp (q_nt a) = true then some (.inl (some (.int (nI (!(sp (q_nt a))).toNat))), w, 0) else some (.inr (.inl 2), w, 1) := by
  by_cases hx : q_ex sp (q_nt a) = true
  · have h0 := hx
    obtain ⟨k, h1, h2, rfl, h3⟩ := q_ntx hx
    rw [if_pos hx]
    have h4 : k < 2 ^ 31 := by omega
    have e : ¬ nI 1 = nI 0 := by decide
    cases hs : sp k
    · (conv => lhs; simp (disch := first | assumption | omega | (rw [nI_leI] <;> omega) | (rw [nI_ltI] <;> omega) | (rw [nI_eq] <;> omega) | (apply q_out <;> omega) | (apply q_nb; omega) | (apply q_n0 <;> omega)) only [M52, q_reqNode h.1, hx, q_hasChildren h.1, hs, Bool.toNat_false, ↓if_pos, ↓if_neg, nI_add, q_sub, q_cl, p_bnd_s, p_bnd_v]); rw [h3, hs]; rfl
    · (conv => lhs; simp (disch := first | assumption | omega | (rw [nI_leI] <;> omega) | (rw [nI_ltI] <;> omega) | (rw [nI_eq] <;> omega) | (apply q_out <;> omega) | (apply q_nb; omega) | (apply q_n0 <;> omega)) only [M52, q_reqNode h.1, hx, q_hasChildren h.1, hs, Bool.toNat_true, ↓if_pos, ↓if_neg, nI_add, q_sub, q_cl, p_bnd_s, p_bnd_v]); rw [h3, hs]; rfl
  · rw [if_neg hx]
    (conv => lhs; simp (disch := first | assumption | omega | (rw [nI_leI] <;> omega) | (rw [nI_ltI] <;> omega) | (rw [nI_eq] <;> omega) | (apply q_out <;> omega) | (apply q_nb; omega) | (apply q_n0 <;> omega)) only [M52, q_reqNode h.1, ↓if_pos, ↓if_neg, nI_add, q_sub, q_cl, p_bnd_s, p_bnd_v])
    exact p_bnd_x (by decide +kernel) (by decide +kernel)
theorem q_cCostOf (h : q_K n wv sp x w) (a : Int32) : p_ev none 55 0 [.ref 0, .int a] [] w = if q_ex sp (q_nt a) = true then some (.inl (some (.int (nI (q_cs x (q_so n (q_nt a)) (q_wd n (q_nt a)))))), w, 0) else some (.inr (.inl 2), w, 1) := by
  by_cases hx : q_ex sp (q_nt a) = true
  · obtain ⟨k, h1, h2, rfl, h3⟩ := q_ntx hx
    rw [if_pos hx]
    (conv => lhs; simp (disch := first | assumption | omega | (rw [nI_leI] <;> omega) | (rw [nI_ltI] <;> omega) | (rw [nI_eq] <;> omega) | (apply q_out <;> omega) | (apply q_nb; omega) | (apply q_n0 <;> omega)) only [M55, q_reqNode h.1, hx, q_branchCost h.1 h.2.1, ↓if_pos, ↓if_neg, nI_add, q_sub, q_cl, p_bnd_s, p_bnd_v])
    rw [h3, h.2.2]
  · rw [if_neg hx]
    (conv => lhs; simp (disch := first | assumption | omega | (rw [nI_leI] <;> omega) | (rw [nI_ltI] <;> omega) | (rw [nI_eq] <;> omega) | (apply q_out <;> omega) | (apply q_nb; omega) | (apply q_n0 <;> omega)) only [M55, q_reqNode h.1, ↓if_pos, ↓if_neg, nI_add, q_sub, q_cl, p_bnd_s, p_bnd_v])
    exact p_bnd_x (by decide +kernel) (by decide +kernel)
theorem q_cSizeOf (h : q_K n wv sp x w) (a : Int32) : p_ev none 57 0 [.ref 0, .int a] [] w = if q_ex sp (q_nt a) = true then if sp (q_nt a) = true then some (.inr (.inl 1), w, 1) else some (.inl (some (.int (nI (q_wd n (q_nt a))))), w, 0) else some (.inr (.inl 2), w, 1) := by
  by_cases hx : q_ex sp (q_nt a) = true
  · obtain ⟨k, h1, h2, rfl, h3⟩ := q_ntx hx
    rw [if_pos hx]
    have h4 : k < 2 ^ 31 := by omega
    by_cases hs : sp k = true
    · rw [h3, if_pos hs]
      (conv => lhs; simp (disch := first | assumption | omega | (rw [nI_leI] <;> omega) | (rw [nI_ltI] <;> omega) | (rw [nI_eq] <;> omega) | (apply q_out <;> omega) | (apply q_nb; omega) | (apply q_n0 <;> omega)) only [M57, q_reqNode h.1, hx, q_reqLeaf h.1, ↓if_pos, ↓if_neg, nI_add, q_sub, q_cl, p_bnd_s, p_bnd_v])
      exact p_bnd_x (by decide +kernel) (by decide +kernel)
    · rw [h3, if_neg hs]
      (conv => lhs; simp (disch := first | assumption | omega | (rw [nI_leI] <;> omega) | (rw [nI_ltI] <;> omega) | (rw [nI_eq] <;> omega) | (apply q_out <;> omega) | (apply q_nb; omega) | (apply q_n0 <;> omega)) only [M57, q_reqNode h.1, hx, q_reqLeaf h.1, q_widthOf h.1, ↓if_pos, ↓if_neg, nI_add, q_sub, q_cl, p_bnd_s, p_bnd_v])
  · rw [if_neg hx]
    (conv => lhs; simp (disch := first | assumption | omega | (rw [nI_leI] <;> omega) | (rw [nI_ltI] <;> omega) | (rw [nI_eq] <;> omega) | (apply q_out <;> omega) | (apply q_nb; omega) | (apply q_n0 <;> omega)) only [M57, q_reqNode h.1, ↓if_pos, ↓if_neg, nI_add, q_sub, q_cl, p_bnd_s, p_bnd_v])
    exact p_bnd_x (by decide +kernel) (by decide +kernel)
theorem q_cNumber (h : q_K n wv sp x w) (a b : Int32) : p_ev none 58 0 [.ref 0, .int a, .int b] [] w = if q_ex sp (q_nt a) = true then if sp (q_nt a) = true then some (.inr (.inl 1), w, 1) else if q_pt (q_wd n (q_nt a)) b < q_wd n (q_nt a) then some (.inl (some (.long (x (q_so n (q_nt a) + q_pt (q_wd n (q_nt a)) b)))), w, 0) else some (.inr (.inl 2), w, 1) else some (.inr (.inl 2), w, 1) := by
  by_cases hx : q_ex sp (q_nt a) = true
  · obtain ⟨k, h1, h2, rfl, h3⟩ := q_ntx hx
    rw [if_pos hx]
    have h4 : k < 2 ^ 31 := by omega
    have hg := q_geo0 k h1 h2 n h.2.1.1
    have hn : n ≤ 32 := by rcases h.2.1.1 with z | z | z | z <;> omega
    have hw := q_wdle n k
    by_cases hs : sp k = true
    · rw [h3, if_pos hs]
      (conv => lhs; simp (disch := first | assumption | omega | (rw [nI_leI] <;> omega) | (rw [nI_ltI] <;> omega) | (rw [nI_eq] <;> omega) | (apply q_out <;> omega) | (apply q_nb; omega) | (apply q_n0 <;> omega)) only [M58, q_reqNode h.1, hx, q_reqLeaf h.1, ↓if_pos, ↓if_neg, nI_add, q_sub, q_cl, p_bnd_s, p_bnd_v])
      exact p_bnd_x (by decide +kernel) (by decide +kernel)
    · rw [h3, if_neg hs]
      rcases q_pt_c (m := q_wd n k) (by omega) b with ⟨h5, h6⟩ | ⟨j, h5, rfl, h6⟩
      · rw [h5, if_neg (Nat.lt_irrefl _)]
        have h7 : ¬ q_pt (q_wd n k) b < q_wd n k := by omega
        (conv => lhs; simp (disch := first | assumption | omega | (rw [nI_leI] <;> omega) | (rw [nI_ltI] <;> omega) | (rw [nI_eq] <;> omega) | (apply q_out <;> omega) | (apply q_nb; omega) | (apply q_n0 <;> omega)) only [M58, q_reqNode h.1, hx, q_reqLeaf h.1, q_widthOf h.1, q_reqBelow, ↓if_pos, ↓if_neg, nI_add, q_sub, q_cl, p_bnd_s, p_bnd_v])
        exact p_bnd_x (by decide +kernel) (by decide +kernel)
      · rw [h6, if_pos h5]
        have h7 : q_pt (q_wd n k) (nI j) < q_wd n k := by omega
        (conv => lhs; simp (disch := first | assumption | omega | (rw [nI_leI] <;> omega) | (rw [nI_ltI] <;> omega) | (rw [nI_eq] <;> omega) | (apply q_out <;> omega) | (apply q_nb; omega) | (apply q_n0 <;> omega)) only [M58, q_reqNode h.1, hx, q_reqLeaf h.1, q_widthOf h.1, q_reqBelow, q_startOf h.1, q_get q_r4, ↓if_pos, ↓if_neg, nI_add, q_sub, q_cl, p_bnd_s, p_bnd_v])
        rw [← h.2.2]
  · rw [if_neg hx]
    (conv => lhs; simp (disch := first | assumption | omega | (rw [nI_leI] <;> omega) | (rw [nI_ltI] <;> omega) | (rw [nI_eq] <;> omega) | (apply q_out <;> omega) | (apply q_nb; omega) | (apply q_n0 <;> omega)) only [M58, q_reqNode h.1, ↓if_pos, ↓if_neg, nI_add, q_sub, q_cl, p_bnd_s, p_bnd_v])
    exact p_bnd_x (by decide +kernel) (by decide +kernel)
/-- the row as it is after all is joined, but for cells behind -/
theorem q_cSample (h : q_K n wv sp x w) (a : Int32) : if q_pt n a < n then ∃ y, (∀ j, j < 32 → y j = x j) ∧ q_Z w n wv sp x (p_ev none 46 0 [.ref 0, .int a] [] w) (some (.long (q_un n wv sp 1 7 y (q_pt n a)))) else p_ev none 46 0 [.ref 0, .int a] [] w = some (.inr (.inl 2), w, 1) := by
  have hn : n ≤ 32 := by rcases h.2.1.1 with z | z | z | z <;> omega
  rcases q_pt_c (m := n) (by omega) a with ⟨h5, h6⟩ | ⟨j, h5, rfl, h6⟩
  · rw [h5, if_neg (Nat.lt_irrefl _)]
    have h7 : ¬ q_pt n a < n := by omega
    (conv => lhs; simp (disch := first | assumption | omega | (rw [nI_leI] <;> omega) | (rw [nI_ltI] <;> omega) | (rw [nI_eq] <;> omega) | (apply q_out <;> omega) | (apply q_nb; omega) | (apply q_n0 <;> omega)) only [M46, q_reqPlace h.1, ↓if_pos, ↓if_neg, nI_add, q_sub, q_cl, p_bnd_s, p_bnd_v])
    exact p_bnd_x (by decide +kernel) (by decide +kernel)
  · rw [h6, if_pos h5]
    have h7 : q_pt n (nI j) < n := by omega
    obtain ⟨M, hM⟩ := q_gather h.1 h.2.1
    have h5r : p_rw 5 := ⟨rfl, rfl⟩
    refine ⟨fun j => if j < 32 then x j else w.2.1 12 j, fun j hj => if_pos hj, (w.1, q_r (q_r w.2.1 15 M) 12 (q_un n wv sp 1 7 (fun j => if j < 32 then x j else w.2.1 12 j)), w.2.2), ?_, ⟨h.1, h.2.1, ?_⟩, ?_⟩
    · (conv => lhs; simp (disch := first | assumption | omega | (rw [nI_leI] <;> omega) | (rw [nI_ltI] <;> omega) | (rw [nI_eq] <;> omega) | (apply q_out <;> omega) | (apply q_nb; omega) | (apply q_n0 <;> omega)) only [M46, q_reqPlace h.1, hM, q_get h5r, ↓if_pos, ↓if_neg, nI_add, q_sub, q_cl, p_bnd_s, p_bnd_v])
      rw [h.2.2]; rfl
    · exact h.2.2
    · exact q_FC.l (fun a ha => by rw [q_r_n (by omega), q_r_n (by omega)])
end Ca
