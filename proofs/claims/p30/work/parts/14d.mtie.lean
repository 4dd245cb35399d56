/-! BOTH SIDES LIFT ALIKE -/
def q_ag (s h : Nat) (y : Nat → Int64) (p : (Nat → Int64) × (Nat → Int64)) : Prop := ∀ j, j < h → y (s + j) = p.1 j ∧ y (s + h + j) = p.2 j
theorem q_lf_out {wv st : Nat} {sg : Int64} {s h : Nat} {y : Nat → Int64} {j : Nat} (hj : ¬ (s ≤ j ∧ j < s + 2 * h)) : q_lf wv st sg s h y j = y j := by
  unfold q_lf
  split
  · unfold q_seg; rw [if_neg (by omega)]
  · unfold q_seg; rw [if_neg (by omega)]
theorem q_ups_out {wv s h : Nat} {j : Nat} (hj : ¬ (s ≤ j ∧ j < s + 2 * h)) : ∀ (d k : Nat) (y : Nat → Int64), q_ups wv s h d k y j = y j
  | 0, _, _ => rfl
  | d + 1, k, y => by rw [q_ups, q_ups_out hj d, q_lf_out hj]
theorem q_dns_out {wv s h : Nat} {j : Nat} (hj : ¬ (s ≤ j ∧ j < s + 2 * h)) : ∀ (k : Nat) (y : Nat → Int64), q_dns wv s h k y j = y j
  | 0, _ => rfl
  | k + 1, y => by rw [q_dns, q_dns_out hj k, q_lf_out hj]
theorem q_deal_out {s h : Nat} {j : Nat} {y : Nat → Int64} (hj : ¬ (s ≤ j ∧ j < s + 2 * h)) : q_deal s h y j = y j := by
  unfold q_deal; rw [if_neg (by omega), if_neg (by omega)]
theorem q_mix_out {s h : Nat} {j : Nat} {y : Nat → Int64} (hj : ¬ (s ≤ j ∧ j < s + 2 * h)) : q_mix s h y j = y j := by
  unfold q_mix; rw [if_neg (by omega)]
theorem q_lf_ag {wv st : Nat} {sg : Int64} {s h : Nat} {y : Nat → Int64} {p : (Nat → Int64) × (Nat → Int64)} (h1 : 1 ≤ h) (hy : q_ag s h y p) : q_ag s h (q_lf wv st sg s h y) (q_ps wv st sg h p) := by
  intro j hj
  unfold q_lf q_ps
  by_cases he : st % 2 = 0
  · rw [if_pos he, if_pos he]
    unfold q_seg q_pO q_seg q_newO
    dsimp only
    rw [if_neg (show ¬ (s + h ≤ s + j ∧ s + j < s + h + h) by omega), if_pos (show s + h ≤ s + h + j ∧ s + h + j < s + h + h by omega), if_pos (show 0 ≤ j ∧ j < 0 + h by omega)]
    refine ⟨(hy j hj).1, ?_⟩
    rw [show s + h + j - h = s + j by omega, show s + h + j - (s + h) = j by omega, (hy j hj).1, (hy j hj).2, (hy _ (q_nx_lt h1 hj)).1]
  · rw [if_neg he, if_neg he]
    unfold q_seg q_pE q_seg q_newE
    dsimp only
    rw [if_pos (show s ≤ s + j ∧ s + j < s + h by omega), if_neg (show ¬ (s ≤ s + h + j ∧ s + h + j < s + h) by omega), if_pos (show 0 ≤ j ∧ j < 0 + h by omega)]
    refine ⟨?_, (hy j hj).2⟩
    rw [show s + j - s - 1 = j - 1 by omega, show s + j + h = s + h + j by omega, (hy j hj).1, (hy j hj).2, (hy (j - 1) (by omega)).2]
theorem q_ups_ag {wv s h : Nat} (h1 : 1 ≤ h) : ∀ (d k : Nat) {y : Nat → Int64} {p : (Nat → Int64) × (Nat → Int64)}, q_ag s h y p → q_ag s h (q_ups wv s h d k y) (q_pu2 wv h d k p)
  | 0, _, _, _, hy => hy
  | d + 1, k, _, _, hy => by rw [q_ups, q_pu2]; exact q_ups_ag h1 d (k + 1) (q_lf_ag h1 hy)
theorem q_dns_ag {wv s h : Nat} (h1 : 1 ≤ h) : ∀ (k : Nat) {y : Nat → Int64} {p : (Nat → Int64) × (Nat → Int64)}, q_ag s h y p → q_ag s h (q_dns wv s h k y) (q_pd2 wv h k p)
  | 0, _, _, hy => hy
  | k + 1, _, _, hy => by rw [q_dns, q_pd2]; exact q_dns_ag h1 k (q_lf_ag h1 hy)
/-- a node is split: the row behind -/
def q_spl (n wv k : Nat) (x : Nat → Int64) : Nat → Int64 := q_ups wv (q_so n k) (q_wd n k / 2) (q_nst wv) 0 (q_deal (q_so n k) (q_wd n k / 2) x)
/-- a node is joined: the row behind -/
def q_joi (n wv k : Nat) (x : Nat → Int64) : Nat → Int64 := q_mix (q_so n k) (q_wd n k / 2) (q_dns wv (q_so n k) (q_wd n k / 2) (q_nst wv) x)
theorem q_nfin {n : Nat} (hn : n = 4 ∨ n = 8 ∨ n = 16 ∨ n = 32) : ∃ m : Fin 4, n = 4 * 2 ^ m.val := by
  rcases hn with rfl | rfl | rfl | rfl
  · exact ⟨0, rfl⟩
  · exact ⟨1, rfl⟩
  · exact ⟨2, rfl⟩
  · exact ⟨3, rfl⟩
theorem q_geo1 : ∀ n, (n = 4 ∨ n = 8 ∨ n = 16 ∨ n = 32) → ∀ i, i < 8 → 1 ≤ i → 2 ≤ q_wd n i → q_so n (2 * i) = q_so n i ∧ q_so n (2 * i + 1) = q_so n i + q_wd n i / 2 ∧ q_wd n (2 * i) = q_wd n i / 2 ∧ q_wd n (2 * i + 1) = q_wd n i / 2 ∧ 2 * (q_wd n i / 2) = q_wd n i := by
  have key : ∀ n : Fin 4, ∀ i : Fin 8, i.val = 0 ∨ q_wd (4 * 2 ^ n.val) i.val < 2 ∨ (q_so (4 * 2 ^ n.val) (2 * i.val) = q_so (4 * 2 ^ n.val) i.val ∧ q_so (4 * 2 ^ n.val) (2 * i.val + 1) = q_so (4 * 2 ^ n.val) i.val + q_wd (4 * 2 ^ n.val) i.val / 2 ∧ q_wd (4 * 2 ^ n.val) (2 * i.val) = q_wd (4 * 2 ^ n.val) i.val / 2 ∧ q_wd (4 * 2 ^ n.val) (2 * i.val + 1) = q_wd (4 * 2 ^ n.val) i.val / 2 ∧ 2 * (q_wd (4 * 2 ^ n.val) i.val / 2) = q_wd (4 * 2 ^ n.val) i.val) := by decide +kernel
  intro n hn i h8 h1 h2
  obtain ⟨m, rfl⟩ := q_nfin hn
  rcases key m ⟨i, h8⟩ with z | z | z
  · exact absurd z (by dsimp only; omega)
  · exact absurd z (by dsimp only; omega)
  · exact z
/-- a tree with node k set to b -/
def q_st (sp : Nat → Bool) (k : Nat) (b : Bool) : Nat → Bool := fun j => if j = k then b else sp j
theorem q_st_s {sp : Nat → Bool} {k : Nat} {b : Bool} : q_st sp k b k = b := if_pos rfl
theorem q_st_n {sp : Nat → Bool} {k j : Nat} {b : Bool} (h : j ≠ k) : q_st sp k b j = sp j := if_neg h
theorem q_T_spl {n k : Nat} {sp : Nat → Bool} (hT : q_T n sp) (h1 : 1 ≤ k) (h8 : k < 8) (hx : q_ex sp k = true) (h2 : 2 ≤ q_wd n k) : q_T n (q_st sp k true) := by
  refine ⟨hT.1, ?_, fun i hi => ?_, fun i i2 i8 hi => ?_, fun i i1 i8 hi => ?_⟩
  · rw [q_st_n (by omega)]; exact hT.2.1
  · rw [q_st_n (by omega)]; exact hT.2.2.1 i hi
  · by_cases hk : i / 2 = k
    · rw [hk, q_st_s]
    · rw [q_st_n hk]
      by_cases hik : i = k
      · subst hik
        unfold q_ex at hx
        simp only [Bool.or_eq_true, Bool.and_eq_true, decide_eq_true_eq] at hx
        rcases hx with z | ⟨_, z⟩
        · omega
        · exact z
      · rw [q_st_n hik] at hi
        exact hT.2.2.2.1 i i2 i8 hi
  · by_cases hik : i = k
    · subst hik; exact h2
    · rw [q_st_n hik] at hi
      exact hT.2.2.2.2 i i1 i8 hi
theorem q_T_joi {n k : Nat} {sp : Nat → Bool} (hT : q_T n sp) (hc : sp (2 * k) = false ∧ sp (2 * k + 1) = false) : q_T n (q_st sp k false) := by
  have key : ∀ i, q_st sp k false i = true → sp i = true ∧ i ≠ k := by
    intro i hi
    by_cases hik : i = k
    · subst hik; rw [q_st_s] at hi; exact absurd hi Bool.false_ne_true
    · rw [q_st_n hik] at hi; exact ⟨hi, hik⟩
  refine ⟨hT.1, ?_, fun i hi => ?_, fun i i2 i8 hi => ?_, fun i i1 i8 hi => hT.2.2.2.2 i i1 i8 (key i hi).1⟩
  · by_cases h0 : 0 = k
    · rw [← h0, q_st_s]
    · rw [q_st_n h0]; exact hT.2.1
  · by_cases h0 : i = k
    · rw [h0, q_st_s]
    · rw [q_st_n h0]; exact hT.2.2.1 i hi
  · have hi2 := key i hi
    have hne : i / 2 ≠ k := by
      intro z
      rcases Nat.mod_two_eq_zero_or_one i with hm | hm
      · have e : i = 2 * k := by omega
        rw [e, hc.1] at hi2; exact absurd hi2.1 Bool.false_ne_true
      · have e : i = 2 * k + 1 := by omega
        rw [e, hc.2] at hi2; exact absurd hi2.1 Bool.false_ne_true
    rw [q_st_n hne]
    exact hT.2.2.2.1 i i2 i8 hi2.1
theorem q_ex_st {sp : Nat → Bool} {k i : Nat} {b : Bool} (h : i / 2 ≠ k) : q_ex (q_st sp k b) i = q_ex sp i := by
  unfold q_ex; rw [q_st_n h]
theorem q_ex_kid {sp : Nat → Bool} {k i : Nat} (hi : 2 ≤ i) (hi2 : i < 16) (h : i / 2 = k) : q_ex sp i = sp k := by
  have e1 : decide (i = 1) = false := decide_eq_false (by omega)
  have e2 : decide (1 < i) = true := decide_eq_true (by omega)
  have e3 : decide (i < 16) = true := decide_eq_true hi2
  unfold q_ex
  rw [e1, e2, e3, h]; simp
theorem q_RR_spl {n wv k : Nat} {sp : Nat → Bool} {A A' x : Nat → Int64} (hT : q_T n sp) (h1 : 1 ≤ k) (h8 : k < 8) (hx : q_ex sp k = true) (hs : sp k = false) (h2 : 2 ≤ q_wd n k) (h : q_RR n sp A x)
    (a1 : ∀ j, j < q_wd n k / 2 → A' (64 * k + j) = (q_pu2 wv (q_wd n k / 2) (q_nst wv) 0 (q_un2 A k)).1 j ∧ A' (64 * k + 32 + j) = (q_pu2 wv (q_wd n k / 2) (q_nst wv) 0 (q_un2 A k)).2 j) (a2 : ∀ j, ¬ (64 * k ≤ j ∧ j < 64 * k + 64) → A' j = A j) : q_RR n (q_st sp k true) A' (q_spl n wv k x) := by
  have hT' := q_T_spl hT h1 h8 hx h2
  have hg := q_geo1 n hT.1 k h8 h1 h2
  have hn := hT.n32
  have hag : q_ag (q_so n k) (q_wd n k / 2) (q_deal (q_so n k) (q_wd n k / 2) x) (q_un2 A k) := by
    intro j hj
    unfold q_deal q_un2
    dsimp only
    rw [if_pos (by omega), if_neg (by omega), if_pos (by omega), Nat.add_assoc (32 * k) (2 * j) 1, h k (by omega) hx hs (2 * j) (by omega), h k (by omega) hx hs (2 * j + 1) (by omega)]
    refine ⟨?_, ?_⟩ <;> exact congrArg x (by omega)
  have hup := q_ups_ag (wv := wv) (show 1 ≤ q_wd n k / 2 by omega) (q_nst wv) 0 hag
  intro i hi ei li j hj
  have hb := q_ex_b ei
  by_cases hk2 : i / 2 = k
  · rcases Nat.mod_two_eq_zero_or_one i with hm | hm
    · have e : i = 2 * k := by omega
      subst e
      rw [hg.2.2.1] at hj
      rw [hg.1, show 32 * (2 * k) + j = 64 * k + j by omega, (a1 j hj).1]
      exact (hup j hj).1.symm
    · have e : i = 2 * k + 1 := by omega
      subst e
      rw [hg.2.2.2.1] at hj
      rw [hg.2.1, show 32 * (2 * k + 1) + j = 64 * k + 32 + j by omega, (a1 j hj).2]
      exact (hup j hj).2.symm
  · rw [q_ex_st hk2] at ei
    have hik : i ≠ k := by
      intro z; subst z; rw [q_st_s] at li; exact absurd li.symm Bool.false_ne_true
    rw [q_st_n hik] at li
    have hd := q_disj hT ei hx li hs hik hb.1 hi h1 (by omega)
    have hwl := q_wdle n i
    rw [a2 _ (by omega), h i hi ei li j hj]
    unfold q_spl
    rw [q_ups_out (by omega), q_deal_out (by omega)]
theorem q_RR_joi {n wv k : Nat} {sp : Nat → Bool} {A A' x : Nat → Int64} (hT : q_T n sp) (hs : sp k = true) (hc : sp (2 * k) = false ∧ sp (2 * k + 1) = false) (h : q_RR n sp A x)
    (a1 : ∀ j, j < q_wd n k / 2 → A' (32 * k + 2 * j) = (q_pd2 wv (q_wd n k / 2) (q_nst wv) (q_ch2 A k)).1 j ∧ A' (32 * k + 2 * j + 1) = (q_pd2 wv (q_wd n k / 2) (q_nst wv) (q_ch2 A k)).2 j) (a2 : ∀ j, ¬ (32 * k ≤ j ∧ j < 32 * k + 2 * (q_wd n k / 2)) → A' j = A j) : q_RR n (q_st sp k false) A' (q_joi n wv k x) := by
  have hk := hT.sp1 hs
  have hT' := q_T_joi hT hc
  have h2 := hT.2.2.2.2 k hk.1 hk.2 hs
  have hg := q_geo1 n hT.1 k hk.2 hk.1 h2
  have hn := hT.n32
  have hwk := q_wdle n k
  have hag : q_ag (q_so n k) (q_wd n k / 2) x (q_ch2 A k) := by
    intro j hj
    unfold q_ch2
    dsimp only
    have g1 := h (2 * k) (by omega) (by rw [q_ex_kid (k := k) (by omega) (by omega) (by omega)]; exact hs) hc.1 j (by rw [hg.2.2.1]; exact hj)
    have g2 := h (2 * k + 1) (by omega) (by rw [q_ex_kid (k := k) (by omega) (by omega) (by omega)]; exact hs) hc.2 j (by rw [hg.2.2.2.1]; exact hj)
    rw [hg.1] at g1
    rw [hg.2.1] at g2
    rw [← g1, ← g2]
    refine ⟨?_, ?_⟩ <;> exact congrArg A (by omega)
  have hdn := q_dns_ag (wv := wv) (show 1 ≤ q_wd n k / 2 by omega) (q_nst wv) hag
  intro i hi ei li j hj
  have hb := q_ex_b ei
  by_cases hik : i = k
  · subst hik
    unfold q_joi q_mix
    rw [if_pos (by omega)]
    rcases Nat.mod_two_eq_zero_or_one j with hm | hm
    · have e := (a1 (j / 2) (by omega)).1
      rw [show 32 * i + 2 * (j / 2) = 32 * i + j by omega] at e
      rw [e, if_pos (by omega), show q_so n i + j - q_so n i = j by omega]
      exact (hdn (j / 2) (by omega)).1.symm
    · have e := (a1 (j / 2) (by omega)).2
      rw [show 32 * i + 2 * (j / 2) + 1 = 32 * i + j by omega] at e
      rw [e, if_neg (by omega), show q_so n i + j - q_so n i = j by omega]
      exact (hdn (j / 2) (by omega)).2.symm
  · have hk2 : i / 2 ≠ k := by
      intro z
      have hl : q_ex (q_st sp k false) i = false := by
        by_cases h1 : i = 1
        · omega
        · rw [q_ex_kid (k := k) (by omega) hi z, q_st_s]
      rw [hl] at ei; exact absurd ei Bool.false_ne_true
    have ex' : q_ex (q_st sp k false) k = true := by
      rw [q_ex_st (by omega)]; exact hT.ex hk.1 hs
    have hd := q_disj hT' ei ex' li q_st_s hik hb.1 hi hk.1 (by omega)
    rw [q_ex_st hk2] at ei
    rw [q_st_n hik] at li
    have hwl := q_wdle n i
    rw [a2 _ (by omega), h i hi ei li j hj]
    unfold q_joi
    rw [q_mix_out (by omega), q_dns_out (by omega)]
