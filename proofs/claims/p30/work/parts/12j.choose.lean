/-! THE CLASS: THE BEST BASIS -/
abbrev q_S : Type := (Nat → Bool) × (Nat → Int64) × (Nat → Int32)
def q_can (n : Nat) (sp : Nat → Bool) (i : Nat) : Bool := q_ex sp i && !(sp i) && decide (i < 8) && decide (2 ≤ q_wd n i)
/-- what the way down does at node i -/
def q_d1 (n wv i : Nat) (S : q_S) : q_S := if q_ex S.1 i = true then (if q_can n S.1 i = true then (fun j => if j = i then true else S.1 j, q_ups wv (q_so n i) (q_wd n i / 2) (q_nst wv) 0 (q_deal (q_so n i) (q_wd n i / 2) S.2.1), fun j => if j = i then nI (q_cs S.2.1 (q_so n i) (q_wd n i)) else S.2.2 j) else (S.1, S.2.1, fun j => if j = i then nI (q_cs S.2.1 (q_so n i) (q_wd n i)) else S.2.2 j)) else S
def q_dsn (n wv : Nat) : Nat → Nat → q_S → q_S
  | 0, _, S => S
  | d + 1, i, S => q_dsn n wv d (i + 1) (q_d1 n wv i S)
def q_KC (n wv : Nat) (S : q_S) (w : pW) : Prop := q_K n wv S.1 S.2.1 w ∧ w.2.2 19 = S.2.2
section Ch
variable {n wv : Nat} {sp : Nat → Bool} {x : Nat → Int64} {w : pW}
theorem q_K_19 (h : q_K n wv sp x w) {g : Nat → Int32} : q_K n wv sp x (w.1, w.2.1, q_r w.2.2 19 g) := by
  obtain ⟨⟨a1, a2, a3, a4, a5, a6⟩, b⟩ := h
  exact ⟨⟨a1, a2, a3, a4, fun i hi => by dsimp only; rw [q_r_n (by decide)]; exact a5 i hi, a6⟩, b⟩
theorem q_down_l {K : Nat} (hK : K ≤ 8) : ∀ (d i : Nat) (S : q_S) (w : pW), i + d = K → 1 ≤ i → q_KC n wv S w → ∃ w', p_ev none 83 2 [.ref 0, .int (nI K), .int (nI i)] [] w = some (.inl none, w', 0) ∧ q_KC n wv (q_dsn n wv d i S) w' ∧ q_FC w w' := by
  intro d
  induction d with
  | zero =>
    intro i S w hi h1 h
    obtain rfl : i = K := by omega
    refine ⟨w, ?_, h, q_FC.rf⟩
    rw [H83_2]
    (conv => lhs; simp (disch := first | assumption | omega | (rw [nI_leI] <;> omega) | (rw [nI_ltI] <;> omega) | (rw [nI_eq] <;> omega) | (apply q_out <;> omega) | (apply q_nb; omega) | (apply q_n0 <;> omega)) only [M83, ↓if_pos, ↓if_neg, nI_add, q_sub, q_cl, p_bnd_s, p_bnd_v])
  | succ d ih =>
    intro i S w hi h1 h
    have e1 : ¬ nI 1 = nI 0 := by decide
    have hn := h.1.2.1.n32
    rw [q_dsn]
    by_cases hx : q_ex S.1 i = true
    · have hK2 := q_K_19 h.1 (g := fun j => if j = i then nI (q_cs S.2.1 (q_so n i) (q_wd n i)) else S.2.2 j)
      by_cases hc : q_can n S.1 i = true
      · have hd : q_d1 n wv i S = (fun j => if j = i then true else S.1 j, q_ups wv (q_so n i) (q_wd n i / 2) (q_nst wv) 0 (q_deal (q_so n i) (q_wd n i / 2) S.2.1), fun j => if j = i then nI (q_cs S.2.1 (q_so n i) (q_wd n i)) else S.2.2 j) := by rw [q_d1, if_pos hx, if_pos hc]
        have hc2 : (q_ex S.1 i && !(S.1 i) && decide (i < 8) && decide (2 ≤ q_wd n i)) = true := hc
        have h2 : 2 ≤ q_wd n i := by
          rw [Bool.and_eq_true] at hc2; exact of_decide_eq_true hc2.2
        obtain ⟨M, hM⟩ := q_splitLeaf hK2.1 hK2.2.1 h1 (show i < 8 by omega) h2
        have hK3 := q_K_split hK2 h1 hx (show i < 8 by omega) h2 (J := q_r (q_r w.2.1 15 M) 11 (q_ups wv (q_so n i) (q_wd n i / 2) (q_nst wv) 0 (q_deal (q_so n i) (q_wd n i / 2) S.2.1))) q_r_s
        rw [show ((w.1, w.2.1, q_r w.2.2 19 (fun j => if j = i then nI (q_cs S.2.1 (q_so n i) (q_wd n i)) else S.2.2 j)) : pW).2.1 11 = S.2.1 from h.1.2.2] at hM
        obtain ⟨w', a1, a2, a3⟩ := ih (i + 1) (q_d1 n wv i S) _ (by omega) (by omega) (by rw [hd]; exact ⟨hK3, by dsimp only; rw [q_r_n (by decide), q_r_s]⟩)
        have hcb := q_canBeSplit hK2.1 h1 (show i < 16 by omega)
        rw [hc2] at hcb
        refine ⟨w', ?_, a2, q_FC.tr ?_ a3⟩
        · rw [H83_2]
          (conv => lhs; simp (disch := first | assumption | omega | (rw [nI_leI] <;> omega) | (rw [nI_ltI] <;> omega) | (rw [nI_eq] <;> omega) | (apply q_out <;> omega) | (apply q_nb; omega) | (apply q_n0 <;> omega)) only [M83, q_exists h.1.1, hx, Bool.toNat_true, q_branchCost h.1.1 h.1.2.1, q_pu, h.1.2.2, h.2, hcb, hM, ↓if_pos, ↓if_neg, nI_add, q_sub, q_cl, p_bnd_s, p_bnd_v])
          exact a1
        · exact ⟨fun _ _ => rfl, fun a ha => by dsimp only; rw [q_r_n (by omega), q_r_n (by omega)], fun a ha => by dsimp only; rw [q_r_n (by omega), q_r_n (by omega)]⟩
      · have hd : q_d1 n wv i S = (S.1, S.2.1, fun j => if j = i then nI (q_cs S.2.1 (q_so n i) (q_wd n i)) else S.2.2 j) := by rw [q_d1, if_pos hx, if_neg hc]
        have hc2 : (q_ex S.1 i && !(S.1 i) && decide (i < 8) && decide (2 ≤ q_wd n i)) = false := Bool.eq_false_iff.mpr hc
        obtain ⟨w', a1, a2, a3⟩ := ih (i + 1) (q_d1 n wv i S) _ (by omega) (by omega) (by rw [hd]; exact ⟨hK2, by dsimp only; rw [q_r_s]⟩)
        have hcb := q_canBeSplit hK2.1 h1 (show i < 16 by omega)
        rw [hc2] at hcb
        refine ⟨w', ?_, a2, q_FC.tr ?_ a3⟩
        · rw [H83_2]
          (conv => lhs; simp (disch := first | assumption | omega | (rw [nI_leI] <;> omega) | (rw [nI_ltI] <;> omega) | (rw [nI_eq] <;> omega) | (apply q_out <;> omega) | (apply q_nb; omega) | (apply q_n0 <;> omega)) only [M83, q_exists h.1.1, hx, Bool.toNat_true, Bool.toNat_false, q_branchCost h.1.1 h.1.2.1, q_pu, h.1.2.2, h.2, hcb, ↓if_pos, ↓if_neg, nI_add, q_sub, q_cl, p_bnd_s, p_bnd_v])
          exact a1
        · exact ⟨fun _ _ => rfl, fun a ha => rfl, fun a ha => by dsimp only; rw [q_r_n (by omega)]⟩
    · have hd : q_d1 n wv i S = S := by rw [q_d1, if_neg hx]
      have hx2 : q_ex S.1 i = false := Bool.eq_false_iff.mpr hx
      obtain ⟨w', a1, a2, a3⟩ := ih (i + 1) S w (by omega) (by omega) h
      refine ⟨w', ?_, by rw [hd]; exact a2, a3⟩
      rw [H83_2]
      (conv => lhs; simp (disch := first | assumption | omega | (rw [nI_leI] <;> omega) | (rw [nI_ltI] <;> omega) | (rw [nI_eq] <;> omega) | (apply q_out <;> omega) | (apply q_nb; omega) | (apply q_n0 <;> omega)) only [M83, q_exists h.1.1, hx2, Bool.toNat_false, ↓if_pos, ↓if_neg, nI_add, q_sub, q_cl, p_bnd_s, p_bnd_v])
      exact a1
end Ch
