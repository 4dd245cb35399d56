/-! THE CLASS: THE CALLS THAT CHANGE -/
theorem q_inT0 : ∀ j, j < 8 → 1 ≤ j → q_in j 1 = true := by decide
theorem q_inT (j : Nat) (h : 1 ≤ j) (h2 : j < 8) : q_in j 1 = true := q_inT0 j h2 h
theorem q_in_half0 : ∀ i, i < 8 → 2 ≤ i → ∀ k, k < 16 → q_in (i / 2) k = true → q_in i k = true := by decide +kernel
theorem q_in_half {i k : Nat} (h2 : 2 ≤ i) (h8 : i < 8) (hk : k < 16) (h : q_in (i / 2) k = true) : q_in i k = true := q_in_half0 i h8 h2 k hk h
section Ed
variable {n wv : Nat} {sp : Nat → Bool} {x : Nat → Int64} {w : pW}
theorem q_plant {m : Nat} : p_ev none 31 0 [.ref 1, .int (nI m)] [] w = some (.inl none, (q_r w.1 1 (fun j => if j = 1 then nI m else w.1 1 j), w.2.1, q_r w.2.2 18 (fun j => if 1 ≤ j ∧ j < 8 ∧ q_in j 1 = true then nI 0 else w.2.2 18 j)), 0) := by
  (conv => lhs; simp (disch := first | assumption | omega | (rw [nI_leI] <;> omega) | (rw [nI_ltI] <;> omega) | (rw [nI_eq] <;> omega) | (apply q_out <;> omega) | (apply q_nb; omega) | (apply q_n0 <;> omega)) only [M31, q_pu, q_take, ↓if_pos, ↓if_neg, nI_add, q_sub, q_cl, p_bnd_s, p_bnd_v])
theorem q_K_begin (h : q_K n wv sp x w) {m : Nat} (hm : m = 4 ∨ m = 8 ∨ m = 16 ∨ m = 32) {y : Nat → Int64} {J : Nat → Nat → Int64} (hJ : J 11 = y) : q_K m wv (fun _ => false) y (q_r w.1 1 (fun j => if j = 1 then nI m else w.1 1 j), J, q_r w.2.2 18 (fun j => if 1 ≤ j ∧ j < 8 ∧ q_in j 1 = true then nI 0 else w.2.2 18 j)) := by
  refine ⟨⟨?_, ?_, ?_, h.1.2.2.2.1, ?_, fun _ _ => rfl⟩, ⟨hm, rfl, fun _ _ => rfl, fun _ _ _ z => absurd z Bool.false_ne_true, fun _ _ _ z => absurd z Bool.false_ne_true⟩, hJ⟩
  · dsimp only; rw [q_r_s]; exact if_pos rfl
  · dsimp only; rw [q_r_n (by decide)]; exact h.1.2.1
  · rcases hm with z | z | z | z <;> omega
  · intro i hi
    dsimp only; rw [q_r_s]
    by_cases hi1 : 1 ≤ i
    · rw [if_pos ⟨hi1, hi, q_inT i hi1 hi⟩]; rfl
    · rw [if_neg (fun z => hi1 z.1)]
      have e : i = 0 := by omega
      rw [h.1.2.2.2.2.1 i hi, e, h.2.1.2.1]
theorem q_cBegin (h : q_K n wv sp x w) {m : Nat} (hm : m = 4 ∨ m = 8 ∨ m = 16 ∨ m = 32) : q_Z w m wv (fun _ => false) (fun j => if j < 32 then lN 0 else x j) (p_ev none 44 0 [.ref 0, .int (nI m), p_U] [] w) (some (.int (nI n))) := by
  refine ⟨_, ?_, q_K_begin h hm (J := q_r w.2.1 11 (fun j => if j < 32 then lN 0 else w.2.1 11 j)) ?_, ?_, ?_, ?_⟩
  · rcases hm with rfl | rfl | rfl | rfl
    · (conv => lhs; simp (disch := first | assumption | omega | (rw [nI_leI] <;> omega) | (rw [nI_ltI] <;> omega) | (rw [nI_eq] <;> omega) | (apply q_out <;> omega) | (apply q_nb; omega) | (apply q_n0 <;> omega)) only [M44, q_width h.1, q_plant, q_clear q_r4, ↓if_pos, ↓if_neg, nI_add, q_sub, q_cl, p_bnd_s, p_bnd_v])
    · (conv => lhs; simp (disch := first | assumption | omega | (rw [nI_leI] <;> omega) | (rw [nI_ltI] <;> omega) | (rw [nI_eq] <;> omega) | (apply q_out <;> omega) | (apply q_nb; omega) | (apply q_n0 <;> omega)) only [M44, q_width h.1, q_plant, q_clear q_r4, ↓if_pos, ↓if_neg, nI_add, q_sub, q_cl, p_bnd_s, p_bnd_v])
    · (conv => lhs; simp (disch := first | assumption | omega | (rw [nI_leI] <;> omega) | (rw [nI_ltI] <;> omega) | (rw [nI_eq] <;> omega) | (apply q_out <;> omega) | (apply q_nb; omega) | (apply q_n0 <;> omega)) only [M44, q_width h.1, q_plant, q_clear q_r4, ↓if_pos, ↓if_neg, nI_add, q_sub, q_cl, p_bnd_s, p_bnd_v])
    · (conv => lhs; simp (disch := first | assumption | omega | (rw [nI_leI] <;> omega) | (rw [nI_ltI] <;> omega) | (rw [nI_eq] <;> omega) | (apply q_out <;> omega) | (apply q_nb; omega) | (apply q_n0 <;> omega)) only [M44, q_width h.1, q_plant, q_clear q_r4, ↓if_pos, ↓if_neg, nI_add, q_sub, q_cl, p_bnd_s, p_bnd_v])
  · rw [q_r_s, h.2.2]
  · intro o ho; exact q_r_n (by omega)
  · intro o ho; exact q_r_n (by omega)
  · intro o ho; exact q_r_n (by omega)
theorem q_K_row (h : q_K n wv sp x w) {J : Nat → Nat → Int64} {y : Nat → Int64} (hJ : J 11 = y) : q_K n wv sp y (w.1, J, w.2.2) := ⟨q_CJ h.1, h.2.1, hJ⟩
theorem q_cSetSample (h : q_K n wv sp x w) (a b : Int32) : if q_pt n a < n then if (-1000 : Int32) ≤ b ∧ b ≤ nI 1000 then if sp 1 = true then p_ev none 45 0 [.ref 0, .int a, .int b, p_U, p_U] [] w = some (.inr (.inl 1), w, 1) else q_Z w n wv sp (fun j => if j = q_pt n a then b.toInt64 else x j) (p_ev none 45 0 [.ref 0, .int a, .int b, p_U, p_U] [] w) (some (.long (x (q_pt n a)))) else p_ev none 45 0 [.ref 0, .int a, .int b, p_U, p_U] [] w = some (.inr (.inl 0), w, 1) else p_ev none 45 0 [.ref 0, .int a, .int b, p_U, p_U] [] w = some (.inr (.inl 2), w, 1) := by
  have hn : n ≤ 32 := by rcases h.2.1.1 with z | z | z | z <;> omega
  rcases q_pt_c (m := n) (by omega) a with ⟨h5, h6⟩ | ⟨j, h5, rfl, h6⟩
  · rw [h5, if_neg (Nat.lt_irrefl _)]
    have h7 : ¬ q_pt n a < n := by omega
    (conv => lhs; simp (disch := first | assumption | omega | (rw [nI_leI] <;> omega) | (rw [nI_ltI] <;> omega) | (rw [nI_eq] <;> omega) | (apply q_out <;> omega) | (apply q_nb; omega) | (apply q_n0 <;> omega)) only [M45, q_reqPlace h.1, ↓if_pos, ↓if_neg, nI_add, q_sub, q_cl, p_bnd_s, p_bnd_v])
    exact p_bnd_x (by decide +kernel) (by decide +kernel)
  · rw [h6, if_pos h5]
    have h7 : q_pt n (nI j) < n := by omega
    by_cases hb1 : (-1000 : Int32) ≤ b
    · have hb2 : ¬ b < (-1000 : Int32) := Int32.not_lt.mpr hb1
      by_cases hb3 : b ≤ nI 1000
      · rw [if_pos ⟨hb1, hb3⟩]
        by_cases hs : sp 1 = true
        · rw [if_pos hs]
          (conv => lhs; simp (disch := first | assumption | omega | (rw [nI_leI] <;> omega) | (rw [nI_ltI] <;> omega) | (rw [nI_eq] <;> omega) | (apply q_out <;> omega) | (apply q_nb; omega) | (apply q_n0 <;> omega)) only [M45, q_reqPlace h.1, q_reqRoot h.1, ↓if_pos, ↓if_neg, nI_add, q_sub, q_cl, p_bnd_s, p_bnd_v])
          exact p_bnd_x (by decide +kernel) (by decide +kernel)
        · rw [if_neg hs]
          refine ⟨(w.1, q_r w.2.1 11 (fun i => if i = j then b.toInt64 else w.2.1 11 i), w.2.2), ?_, q_K_row h ?_, q_FC.l (fun a ha => q_r_n (by omega))⟩
          · (conv => lhs; simp (disch := first | assumption | omega | (rw [nI_leI] <;> omega) | (rw [nI_ltI] <;> omega) | (rw [nI_eq] <;> omega) | (apply q_out <;> omega) | (apply q_nb; omega) | (apply q_n0 <;> omega)) only [M45, q_reqPlace h.1, q_reqRoot h.1, q_get q_r4, q_set q_r4, ↓if_pos, ↓if_neg, nI_add, q_sub, q_cl, p_bnd_s, p_bnd_v])
            rw [h.2.2]
          · rw [q_r_s, h.2.2]
      · rw [if_neg (fun z => hb3 z.2)]
        (conv => lhs; simp (disch := first | assumption | omega | (rw [nI_leI] <;> omega) | (rw [nI_ltI] <;> omega) | (rw [nI_eq] <;> omega) | (apply q_out <;> omega) | (apply q_nb; omega) | (apply q_n0 <;> omega)) only [M45, q_reqPlace h.1, ↓if_pos, ↓if_neg, nI_add, q_sub, q_cl, p_bnd_s, p_bnd_v])
    · have hb2 : b < (-1000 : Int32) := Int32.not_le.mp hb1
      rw [if_neg (fun z => hb1 z.1)]
      (conv => lhs; simp (disch := first | assumption | omega | (rw [nI_leI] <;> omega) | (rw [nI_ltI] <;> omega) | (rw [nI_eq] <;> omega) | (apply q_out <;> omega) | (apply q_nb; omega) | (apply q_n0 <;> omega)) only [M45, q_reqPlace h.1, ↓if_pos, ↓if_neg, nI_add, q_sub, q_cl, p_bnd_s, p_bnd_v])
theorem q_cSetWavelet (h : q_K n wv sp x w) {m : Nat} (hm : m < 3) : if sp 1 = true then p_ev none 48 0 [.ref 0, .int (nI m), p_U] [] w = some (.inr (.inl 1), w, 1) else q_Z w n m sp x (p_ev none 48 0 [.ref 0, .int (nI m), p_U] [] w) (some (.int (nI wv))) := by
  have h0 : ¬ nI m < nI 0 := by rw [nI_ltI (by omega) (by omega)]; omega
  by_cases hs : sp 1 = true
  · rw [if_pos hs]
    (conv => lhs; simp (disch := first | assumption | omega | (rw [nI_leI] <;> omega) | (rw [nI_ltI] <;> omega) | (rw [nI_eq] <;> omega) | (apply q_out <;> omega) | (apply q_nb; omega) | (apply q_n0 <;> omega)) only [M48, q_reqRoot h.1, ↓if_pos, ↓if_neg, nI_add, q_sub, q_cl, p_bnd_s, p_bnd_v])
    exact p_bnd_x (by decide +kernel) (by decide +kernel)
  · rw [if_neg hs]
    refine ⟨(q_r w.1 2 (fun j => if j = 1 then nI m else w.1 2 j), w.2.1, w.2.2), ?_, ⟨⟨?_, ?_, h.1.2.2.1, by omega, h.1.2.2.2.2⟩, h.2⟩, fun o ho => q_r_n (by omega), fun _ _ => rfl, fun _ _ => rfl⟩
    · (conv => lhs; simp (disch := first | assumption | omega | (rw [nI_leI] <;> omega) | (rw [nI_ltI] <;> omega) | (rw [nI_eq] <;> omega) | (apply q_out <;> omega) | (apply q_nb; omega) | (apply q_n0 <;> omega)) only [M48, q_reqRoot h.1, M15, M16, q_pu, h.1.2.1, ↓if_pos, ↓if_neg, nI_add, q_sub, q_cl, p_bnd_s, p_bnd_v])
    · dsimp only; rw [q_r_n (by decide)]; exact h.1.1
    · dsimp only; rw [q_r_s]; exact if_pos rfl
theorem q_K_split (h : q_K n wv sp x w) {k : Nat} (h1 : 1 ≤ k) (hx : q_ex sp k = true) (h8 : k < 8) (h2 : 2 ≤ q_wd n k) {J : Nat → Nat → Int64} {y : Nat → Int64} (hJ : J 11 = y) : q_K n wv (fun j => if j = k then true else sp j) y (w.1, J, q_r w.2.2 18 (fun j => if j = k then nI 1 else w.2.2 18 j)) := by
  obtain ⟨⟨a1, a2, a3, a4, a5, a6⟩, ⟨b1, b2, b3, b4, b5⟩, _⟩ := h
  refine ⟨⟨a1, a2, a3, a4, ?_, fun i hi => (if_neg (fun z => by omega)).trans (a6 i hi)⟩, ⟨b1, (if_neg (fun z => by omega)).trans b2, fun i hi => (if_neg (fun z => by omega)).trans (b3 i hi), ?_, ?_⟩, hJ⟩
  · intro i hi
    dsimp only; rw [q_r_s]
    by_cases e : i = k
    · rw [if_pos e, if_pos e]; rfl
    · rw [if_neg e, if_neg e]; exact a5 i hi
  · intro i hi hi8 hs
    dsimp only at hs ⊢
    by_cases e2 : i / 2 = k
    · rw [if_pos e2]
    · rw [if_neg e2]
      by_cases e : i = k
      · subst e
        unfold q_ex at hx
        simp only [Bool.or_eq_true, decide_eq_true_eq, Bool.and_eq_true] at hx
        rcases hx with hx | hx
        · omega
        · exact hx.2
      · rw [if_neg e] at hs; exact b4 i hi hi8 hs
  · intro i hi hi8 hs
    dsimp only at hs
    by_cases e : i = k
    · rw [e]; exact h2
    · rw [if_neg e] at hs; exact b5 i hi hi8 hs
theorem q_cSplit (h : q_K n wv sp x w) {k : Nat} (h1 : 1 ≤ k) (hx : q_ex sp k = true) (hs : sp k = false) (h8 : k < 8) (h2 : 2 ≤ q_wd n k) : q_Z w n wv (fun j => if j = k then true else sp j) (q_ups wv (q_so n k) (q_wd n k / 2) (q_nst wv) 0 (q_deal (q_so n k) (q_wd n k / 2) x)) (p_ev none 49 0 [.ref 0, .int (nI k)] [] w) (some (.int (nI (q_wd n k / 2)))) := by
  have h3 : q_ex sp (q_nt (nI k)) = true := by rw [q_nt_n (by omega)]; exact hx
  have h4 : (q_ex sp k && !(sp k) && decide (k < 8) && decide (2 ≤ q_wd n k)) = true := by rw [hx, hs, decide_eq_true h8, decide_eq_true h2]; rfl
  have e : ¬ nI 1 = nI 0 := by decide
  have hw := q_wdle n k
  have hn := h.1.2.2.1
  obtain ⟨M, hM⟩ := q_splitLeaf h.1 h.2.1 h1 h8 h2
  rw [h.2.2] at hM
  have hK := q_K_split h h1 hx h8 h2 (J := q_r (q_r w.2.1 15 M) 11 (q_ups wv (q_so n k) (q_wd n k / 2) (q_nst wv) 0 (q_deal (q_so n k) (q_wd n k / 2) x))) q_r_s
  refine ⟨_, ?_, hK, fun _ _ => rfl, fun o ho => ?_, fun o ho => q_r_n (by omega)⟩
  · (conv => lhs; simp (disch := first | assumption | omega | (rw [nI_leI] <;> omega) | (rw [nI_ltI] <;> omega) | (rw [nI_eq] <;> omega) | (apply q_out <;> omega) | (apply q_nb; omega) | (apply q_n0 <;> omega)) only [M49, q_reqNode h.1, q_canBeSplit h.1, h4, Bool.toNat_true, hM, q_widthOf hK.1, q_div, ↓if_pos, ↓if_neg, nI_add, q_sub, q_cl, p_bnd_s, p_bnd_v])
  · dsimp only; rw [q_r_n (by omega), q_r_n (by omega)]
def q_jn (sp : Nat → Bool) (k : Nat) : Nat → Bool := fun j => if 1 ≤ j ∧ j < 8 ∧ q_in j k = true then false else sp j
theorem q_K_join (h : q_K n wv sp x w) {k : Nat} (h16 : k < 16) {J : Nat → Nat → Int64} {y : Nat → Int64} (hJ : J 11 = y) : q_K n wv (q_jn sp k) y (w.1, J, q_r w.2.2 18 (fun j => if 1 ≤ j ∧ j < 8 ∧ q_in j k = true then nI 0 else w.2.2 18 j)) := by
  obtain ⟨⟨a1, a2, a3, a4, a5, a6⟩, ⟨b1, b2, b3, b4, b5⟩, _⟩ := h
  refine ⟨⟨a1, a2, a3, a4, ?_, fun i hi => (if_neg (fun z => by omega)).trans (a6 i hi)⟩, ⟨b1, (if_neg (fun z => by omega)).trans b2, fun i hi => (if_neg (fun z => by omega)).trans (b3 i hi), ?_, ?_⟩, hJ⟩
  · intro i hi
    dsimp only; rw [q_r_s]
    unfold q_jn
    by_cases e : 1 ≤ i ∧ i < 8 ∧ q_in i k = true
    · rw [if_pos e, if_pos e]; rfl
    · rw [if_neg e, if_neg e]; exact a5 i hi
  · intro i hi hi8 hs
    unfold q_jn at hs ⊢
    by_cases e : 1 ≤ i ∧ i < 8 ∧ q_in i k = true
    · rw [if_pos e] at hs; exact absurd hs Bool.false_ne_true
    · rw [if_neg e] at hs
      rw [if_neg (fun z => e ⟨by omega, hi8, q_in_half hi hi8 h16 z.2.2⟩)]
      exact b4 i hi hi8 hs
  · intro i hi hi8 hs
    unfold q_jn at hs
    by_cases e : 1 ≤ i ∧ i < 8 ∧ q_in i k = true
    · rw [if_pos e] at hs; exact absurd hs Bool.false_ne_true
    · rw [if_neg e] at hs; exact b5 i hi hi8 hs
theorem q_cJoin (h : q_K n wv sp x w) {k : Nat} (h2 : k < 16) (hx : q_ex sp k = true) (hs : sp k = true) : q_Z w n wv (q_jn sp k) (q_un n wv sp k 7 x) (p_ev none 50 0 [.ref 0, .int (nI k)] [] w) (some (.int (nI (q_cn sp k 7)))) := by
  have h3 : q_ex sp (q_nt (nI k)) = true := by rw [q_nt_n h2]; exact hx
  have h4 : k < 2 ^ 31 := by omega
  have e : ¬ nI 1 = nI 0 := by decide
  obtain ⟨M, hM⟩ := q_joinBranch h.1 h.2.1 h4
  rw [h.2.2] at hM
  have hK := q_K_join h h2 (J := q_r (q_r w.2.1 15 M) 11 (q_un n wv sp k 7 x)) q_r_s
  refine ⟨_, ?_, hK, fun _ _ => rfl, fun o ho => ?_, fun o ho => q_r_n (by omega)⟩
  · (conv => lhs; simp (disch := first | assumption | omega | (rw [nI_leI] <;> omega) | (rw [nI_ltI] <;> omega) | (rw [nI_eq] <;> omega) | (apply q_out <;> omega) | (apply q_nb; omega) | (apply q_n0 <;> omega)) only [M50, q_reqNode h.1, q_hasChildren h.1, hs, Bool.toNat_true, hM, ↓if_pos, ↓if_neg, nI_add, q_sub, q_cl, p_bnd_s, p_bnd_v])
  · dsimp only; rw [q_r_n (by omega), q_r_n (by omega)]
end Ed
