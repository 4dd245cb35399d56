/-! EACH CALL OF THE LAW: BOTH SIDES AGREE AND STEP -/
/-- what a call may do to the state -/
def q_step (S S' : q_AS) : Prop :=
  S' = S ∨ (∃ m, (m = 4 ∨ m = 8 ∨ m = 16 ∨ m = 32) ∧ S' = (m, S.2.1, (fun _ => false), fun j => if j < 32 then lN 0 else S.2.2.2 j)) ∨
  (∃ (k j : Nat) (v : Int32), q_ex S.2.2.1 k = true ∧ S.2.2.1 k = false ∧ j < q_wd S.1 k ∧ ((-100000 : Int32) ≤ v ∧ v ≤ nI 100000) ∧ S' = (S.1, S.2.1, S.2.2.1, fun i => if i = q_so S.1 k + j then v.toInt64 else S.2.2.2 i)) ∨
  (∃ m, m < 3 ∧ S.2.2.1 1 = false ∧ S' = (S.1, m, S.2.2.1, S.2.2.2)) ∨
  (∃ k, 1 ≤ k ∧ q_ex S.2.2.1 k = true ∧ S.2.2.1 k = false ∧ k < 8 ∧ 2 ≤ q_wd S.1 k ∧ S' = (S.1, S.2.1, q_st S.2.2.1 k true, q_spl S.1 S.2.1 k S.2.2.2)) ∨
  (∃ k, k < 16 ∧ S.2.2.1 k = true ∧ S' = (S.1, S.2.1, q_jn S.2.2.1 k, q_un S.1 S.2.1 S.2.2.1 k 7 S.2.2.2)) ∨
  (∃ k t e, q_ex S.2.2.1 k = true ∧ S.2.2.1 k = false ∧ t ≤ 100000 ∧ (e = 0 ∨ e = t) ∧ S' = (S.1, S.2.1, S.2.2.1, q_seg (q_so S.1 k) (q_wd S.1 k) (fun j => q_z t e (S.2.2.2 j)) S.2.2.2)) ∨
  ∃ l c0, 1 ≤ l ∧ l ≤ 3 ∧ S' = (S.1, S.2.1, (q_cb S.1 S.2.1 l (S.2.2.1, S.2.2.2, c0)).1, (q_cb S.1 S.2.1 l (S.2.2.1, S.2.2.2, c0)).2.1)
/-- all numbers of all trees over the signal are far from the ends of the longs -/
def q_safe (S : q_AS) : Prop := ∀ i, 1 ≤ i → i < 16 → ∀ k, k < q_wd S.1 i → q_sz (q_DA S.1 S.2.1 (q_un S.1 S.2.1 S.2.2.1 1 7 S.2.2.2) (32 * i + k))
def q_cvk (n : Nat) (sp : Nat → Bool) : Bool := (List.range n).all fun j => (List.range 16).any fun i => q_ex sp i && !(sp i) && decide (q_so n i ≤ j) && decide (j < q_so n i + q_wd n i)
theorem q_cover {n : Nat} {sp : Nat → Bool} (hT : q_T n sp) {j : Nat} (hj : j < n) : ∃ i, i < 16 ∧ q_ex sp i = true ∧ sp i = false ∧ q_so n i ≤ j ∧ j < q_so n i + q_wd n i := by
  obtain ⟨b, h1, h2, h3⟩ := q_T_bits hT
  have key : ∀ k : Fin 4, ((List.range 256).all fun b => !(q_Tb (4 * 2 ^ k.val) (q_bs b)) || q_cvk (4 * 2 ^ k.val) (q_bs b)) = true := by decide +kernel
  obtain ⟨k, hk⟩ := q_nfin hT.1
  have h4 := List.all_eq_true.mp (key k) b (List.mem_range.mpr h1)
  rw [← hk, h3, ← h2] at h4
  have h5 : q_cvk n sp = true := by simpa using h4
  unfold q_cvk at h5
  have h6 := List.all_eq_true.mp h5 j (List.mem_range.mpr hj)
  obtain ⟨i, i1, i2⟩ := List.any_eq_true.mp h6
  rw [List.mem_range] at i1
  simp only [Bool.and_eq_true, decide_eq_true_eq, Bool.not_eq_true'] at i2
  exact ⟨i, i1, i2.1.1.1, i2.1.1.2, i2.1.2, i2.2⟩
section St
variable {n wv : Nat} {sp : Nat → Bool} {x : Nat → Int64} {w : pW}
theorem q_safe.bd (h : q_safe (n, wv, sp, x)) (hT : q_T n sp) : q_bd n x := by
  intro j hj
  obtain ⟨i, i1, i2, i3, i4, i5⟩ := q_cover hT hj
  have hD := q_RR_D (wv := wv) (x := x) hT i i1 i2 i3 (j - q_so n i) (by omega)
  rw [show q_so n i + (j - q_so n i) = j by omega] at hD
  rw [← hD]
  exact h i (q_ex_b i2).1 i1 _ (show j - q_so n i < q_wd n i by omega)
theorem q_safe.da (h : q_safe (n, wv, sp, x)) (hT : q_T n sp) : ∀ i, i < 16 → ∀ k, k < q_wd n i → q_nm (q_DA n wv (q_un n wv sp 1 7 x) (32 * i + k)) := by
  intro i hi k hk
  rcases Nat.eq_zero_or_pos i with z | z
  · subst z
    have hn1 := hT.n1
    have hn := hT.n32
    have hk2 : k < n := by have : q_wd n 0 = n := Nat.div_one n; omega
    have hw1 : q_wd n 1 = n := Nat.div_one n
    have e0 : q_DA n wv (q_un n wv sp 1 7 x) (32 * 0 + k) = q_un n wv sp 1 7 x 0 := by
      unfold q_DA
      have := q_Dn_row (n := n) (wv := wv) (A := fun m => q_un n wv sp 1 7 x (m - 32)) 7 0 (32 * 0 + k) (by omega)
      rw [Nat.zero_add] at this
      rw [this, q_Dn]
      exact congrArg (q_un n wv sp 1 7 x) (by omega)
    rw [e0, ← q_DA_1 (n := n) (wv := wv) (y := q_un n wv sp 1 7 x) (show 0 < 32 by decide)]
    exact q_sz_nm (h 1 (Nat.le_refl _) (by decide) 0 (show 0 < q_wd n 1 by omega))
  · exact q_sz_nm (h i z hi k hk)
variable {N : Nat} {xs : Nat → Int32} {i : Nat} {z5 z6 z7 : Value}
def q_rnd (N : Nat) (xs : Nat → Int32) (i : Nat) (z5 z6 z7 : Value) (S : q_AS) (w : pW) : Prop := ∃ S', q_step S S' ∧ q_IT i S' (p_ev (some (N, xs)) 186 23 [.ref 999, .ref 0, .ref 24, .ref 23, .int (nI (4 * i)), z5, z6, z7] [] w)
theorem q_rnd_s {S : q_AS} (h : q_IT i S (p_ev (some (N, xs)) 186 23 [.ref 999, .ref 0, .ref 24, .ref 23, .int (nI (4 * i)), z5, z6, z7] [] w)) : q_rnd N xs i z5 z6 z7 S w := ⟨S, Or.inl rfl, h⟩
theorem q_nlt {c : Int32} (h : ¬ nI 0 ≤ c) : c < nI 0 := Int32.not_le.mp h
theorem q_op0 (hi : 4 * i + 3 < N) (hN : N < 2 ^ 31) (hop : xs (4 * i) &&& nI 31 = nI 0) (hK : q_KS (n, wv, sp, x) w) (hR : q_RS (n, wv, sp, x) w) : q_rnd N xs i z5 z6 z7 (n, wv, sp, x) w := by
  by_cases hm : ∃ m, (m = 4 ∨ m = 8 ∨ m = 16 ∨ m = 32) ∧ xs (4 * i + 1) = nI m
  · obtain ⟨m, hm, ha⟩ := hm
    refine ⟨_, Or.inr (Or.inl ⟨m, hm, rfl⟩), q_it0 (t := 0) (by decide) hi hN hop (q_w163 (by rw [ha]; exact q_cBegin hK hm)) (fun w1 f => ?_) (fun _ => rfl)⟩
    rw [ha]
    exact (q_mBegin (hR.fw f) hm).i
  · have h4 : ¬ xs (4 * i + 1) = nI 4 := fun z => hm ⟨4, by omega, z⟩
    have h8 : ¬ xs (4 * i + 1) = nI 8 := fun z => hm ⟨8, by omega, z⟩
    have h16 : ¬ xs (4 * i + 1) = nI 16 := fun z => hm ⟨16, by omega, z⟩
    have h32 : ¬ xs (4 * i + 1) = nI 32 := fun z => hm ⟨32, by omega, z⟩
    exact q_rnd_s (q_it0 (t := 1) (v := 0) (b := 0) (by decide) hi hN hop (q_x163_0 (q_Zx0 hK (q_cBegin_x h4 h8 h16 h32))) (fun w1 f => (q_mBegin_x (hR.fw f) h4 h8 h16 h32).r (by decide)) (fun z => absurd z (by decide)))
theorem q_so1 {n : Nat} : q_so n 1 = 0 := by unfold q_so; rw [show 1 - 2 ^ q_lv 1 = 0 from rfl, Nat.zero_mul]
theorem q_op1 (hi : 4 * i + 3 < N) (hN : N < 2 ^ 31) (hop : xs (4 * i) &&& nI 31 = nI 1) (hK : q_KS (n, wv, sp, x) w) (hR : q_RS (n, wv, sp, x) w) : q_rnd N xs i z5 z6 z7 (n, wv, sp, x) w := by
  have hc := q_cSetSample hK (xs (4 * i + 1)) (xs (4 * i + 2))
  have hm := fun (w1 : pW) (f : q_FW w w1) => q_mSetSample (hR.fw f) (xs (4 * i + 1)) (xs (4 * i + 2))
  dsimp only at hc hm
  by_cases ha : q_pt n (xs (4 * i + 1)) < n
  · simp only [if_pos ha] at hc hm
    by_cases hb : (-1000 : Int32) ≤ xs (4 * i + 2) ∧ xs (4 * i + 2) ≤ nI 1000
    · simp only [if_pos hb] at hc hm
      by_cases hs : sp 1 = true
      · simp only [if_pos hs] at hc hm
        exact q_rnd_s (q_it1 (t := 3) (v := 0) (b := 0) (by decide) hi hN hop (q_x164_1 (q_Zx0 hK hc)) (fun w1 f => (hm w1 f).r (by decide)) (fun z => absurd z (by decide)))
      · simp only [if_neg hs] at hc hm
        have hw1 : q_wd n 1 = n := Nat.div_one n
        refine ⟨(n, wv, sp, fun j => if j = q_pt n (xs (4 * i + 1)) then (xs (4 * i + 2)).toInt64 else x j), Or.inr (Or.inr (Or.inl ⟨1, q_pt n (xs (4 * i + 1)), xs (4 * i + 2), rfl, Bool.eq_false_iff.mpr hs, by dsimp only; rw [hw1]; exact ha, ⟨Int32.le_trans (by decide) hb.1, Int32.le_trans hb.2 (by decide)⟩, by dsimp only; rw [q_so1, Nat.zero_add]⟩)), q_it1 (t := 0) (by decide) hi hN hop (q_w164 hc) (fun w1 f => (hm w1 f).l) (fun _ => rfl)⟩
    · simp only [if_neg hb] at hc hm
      exact q_rnd_s (q_it1 (t := 2) (v := 0) (b := 0) (by decide) hi hN hop (q_x164_0 (q_Zx0 hK hc)) (fun w1 f => (hm w1 f).r (by decide)) (fun z => absurd z (by decide)))
  · simp only [if_neg ha] at hc hm
    exact q_rnd_s (q_it1 (t := 1) (v := 0) (b := 0) (by decide) hi hN hop (q_x164_2 (q_Zx0 hK hc)) (fun w1 f => (hm w1 f).r (by decide)) (fun z => absurd z (by decide)))
theorem q_op2 (hi : 4 * i + 3 < N) (hN : N < 2 ^ 31) (hop : xs (4 * i) &&& nI 31 = nI 2) (hK : q_KS (n, wv, sp, x) w) (hR : q_RS (n, wv, sp, x) w) : q_rnd N xs i z5 z6 z7 (n, wv, sp, x) w := by
  have hc := q_cSample2 hK (xs (4 * i + 1))
  have hm := fun (w1 : pW) (f : q_FW w w1) => q_mSample (hR.fw f) (xs (4 * i + 1))
  dsimp only at hc hm
  by_cases ha : q_pt n (xs (4 * i + 1)) < n
  · simp only [if_pos ha] at hc hm
    exact q_rnd_s (q_it2 (t := 0) (by decide) hi hN hop (q_w165 hc) (fun w1 f => (hm w1 f).l) (fun _ => rfl))
  · simp only [if_neg ha] at hc hm
    exact q_rnd_s (q_it2 (t := 1) (v := 0) (b := 0) (by decide) hi hN hop (q_x165_2 (q_Zx0 hK hc)) (fun w1 f => (hm w1 f).r (by decide)) (fun z => absurd z (by decide)))
theorem q_op3 (hi : 4 * i + 3 < N) (hN : N < 2 ^ 31) (hop : xs (4 * i) &&& nI 31 = nI 3) (hK : q_KS (n, wv, sp, x) w) (hR : q_RS (n, wv, sp, x) w) : q_rnd N xs i z5 z6 z7 (n, wv, sp, x) w :=
  q_rnd_s (q_it3 hi hN hop (q_cLength hK) hK (q_mLength hR).i)
theorem q_op4 (hi : 4 * i + 3 < N) (hN : N < 2 ^ 31) (hop : xs (4 * i) &&& nI 31 = nI 4) (hK : q_KS (n, wv, sp, x) w) (hR : q_RS (n, wv, sp, x) w) : q_rnd N xs i z5 z6 z7 (n, wv, sp, x) w := by
  by_cases ha : nI 0 ≤ xs (4 * i + 1) ∧ xs (4 * i + 1) ≤ nI 2
  · obtain ⟨m, m1, hm⟩ := nI_of (x := xs (4 * i + 1)) (Int32.not_lt.mpr ha.1)
    have hm3 : m < 3 := by
      have := ha.2
      rw [hm, nI_leI m1 (by omega)] at this; omega
    have hc := q_cSetWavelet hK hm3
    have hm2 := fun (w1 : pW) (f : q_FW w w1) => q_mSetWavelet (hR.fw f) hm3
    dsimp only at hc hm2
    by_cases hs : sp 1 = true
    · simp only [if_pos hs] at hc hm2
      exact q_rnd_s (q_it4 (t := 2) (v := 0) (b := 0) (by decide) hi hN hop (by rw [hm]; exact q_x166_1 (q_Zx0 hK hc)) (fun w1 f => by rw [hm]; exact (hm2 w1 f).r (by decide)) (fun z => absurd z (by decide)))
    · simp only [if_neg hs] at hc hm2
      exact ⟨_, Or.inr (Or.inr (Or.inr (Or.inl ⟨m, hm3, Bool.eq_false_iff.mpr hs, rfl⟩))), q_it4 (t := 0) (by decide) hi hN hop (by rw [hm]; exact q_w166 hc) (fun w1 f => by rw [hm]; exact (hm2 w1 f).i) (fun _ => rfl)⟩
  · have hx : xs (4 * i + 1) < nI 0 ∨ (¬ xs (4 * i + 1) < nI 0 ∧ ¬ xs (4 * i + 1) ≤ nI 2) := by
      by_cases h0 : xs (4 * i + 1) < nI 0
      · exact Or.inl h0
      · exact Or.inr ⟨h0, fun z => ha ⟨Int32.not_lt.mp h0, z⟩⟩
    exact q_rnd_s (q_it4 (t := 1) (v := 0) (b := 0) (by decide) hi hN hop (q_x166_0 (q_Zx0 hK (q_cSetWavelet_x hx))) (fun w1 f => (q_mSetWavelet_x (hR.fw f) hx).r (by decide)) (fun z => absurd z (by decide)))
theorem q_op5 (hi : 4 * i + 3 < N) (hN : N < 2 ^ 31) (hop : xs (4 * i) &&& nI 31 = nI 5) (hK : q_KS (n, wv, sp, x) w) (hR : q_RS (n, wv, sp, x) w) : q_rnd N xs i z5 z6 z7 (n, wv, sp, x) w := by
  by_cases hx : q_ex sp (q_nt (xs (4 * i + 1))) = true
  · obtain ⟨k, h1, h2, hk, h3⟩ := q_ntx hx
    rw [h3] at hx
    cases hs : (q_ex sp k && !(sp k) && decide (k < 8) && decide (2 ≤ q_wd n k))
    · exact q_rnd_s (q_it5 (t := 2) (v := 0) (b := 0) (by decide) hi hN hop (by rw [hk]; exact q_x167_1 (q_Zx0 hK (q_cSplit_s hK h1 h2 hx hs))) (fun w1 f => by rw [hk]; exact (q_mSplit_s (hR.fw f) h2 hx hs).r (by decide)) (fun z => absurd z (by decide)))
    · simp only [Bool.and_eq_true, decide_eq_true_eq, Bool.not_eq_true'] at hs
      exact ⟨(n, wv, q_st sp k true, q_spl n wv k x), Or.inr (Or.inr (Or.inr (Or.inr (Or.inl ⟨k, h1, hx, hs.1.1.2, hs.1.2, hs.2, rfl⟩)))), q_it5 (t := 0) (by decide) hi hN hop (by rw [hk]; exact q_w167 (q_cSplit hK h1 hx hs.1.1.2 hs.1.2 hs.2)) (fun w1 f => by rw [hk]; exact (q_mSplit (hR.fw f) h1 hx hs.1.1.2 hs.1.2 hs.2).i) (fun _ => rfl)⟩
  · exact q_rnd_s (q_it5 (t := 1) (v := 0) (b := 0) (by decide) hi hN hop (q_x167_2 (q_Zx0 hK (q_cSplit_x hK hx))) (fun w1 f => (q_mSplit_x (hR.fw f) hx).r (by decide)) (fun z => absurd z (by decide)))
theorem q_op6 (hi : 4 * i + 3 < N) (hN : N < 2 ^ 31) (hop : xs (4 * i) &&& nI 31 = nI 6) (hK : q_KS (n, wv, sp, x) w) (hR : q_RS (n, wv, sp, x) w) : q_rnd N xs i z5 z6 z7 (n, wv, sp, x) w := by
  by_cases hx : q_ex sp (q_nt (xs (4 * i + 1))) = true
  · obtain ⟨k, h1, h2, hk, h3⟩ := q_ntx hx
    rw [h3] at hx
    cases hs : sp k
    · exact q_rnd_s (q_it6 (t := 2) (v := 0) (b := 0) (by decide) hi hN hop (by rw [hk]; exact q_x168_1 (q_Zx0 hK (q_cJoin_s hK h2 hx hs))) (fun w1 f => by rw [hk]; exact (q_mJoin_s (hR.fw f) h2 hx hs).r (by decide)) (fun z => absurd z (by decide)))
    · exact ⟨(n, wv, q_jn sp k, q_un n wv sp k 7 x), Or.inr (Or.inr (Or.inr (Or.inr (Or.inr (Or.inl ⟨k, h2, hs, rfl⟩))))), q_it6 (t := 0) (by decide) hi hN hop (by rw [hk]; exact q_w168 (q_cJoin hK h2 hx hs)) (fun w1 f => by rw [hk]; exact (q_mJoin (hR.fw f) h2 hx hs).i) (fun _ => rfl)⟩
  · exact q_rnd_s (q_it6 (t := 1) (v := 0) (b := 0) (by decide) hi hN hop (q_x168_2 (q_Zx0 hK (q_cJoin_x hK hx))) (fun w1 f => (q_mJoin_x (hR.fw f) hx).r (by decide)) (fun z => absurd z (by decide)))
theorem q_op7 (hi : 4 * i + 3 < N) (hN : N < 2 ^ 31) (hop : xs (4 * i) &&& nI 31 = nI 7) (hK : q_KS (n, wv, sp, x) w) (hR : q_RS (n, wv, sp, x) w) : q_rnd N xs i z5 z6 z7 (n, wv, sp, x) w :=
  q_rnd_s (q_it7 hi hN hop (q_cIsNode hK _) hK (q_mIsNode hR _).i)
theorem q_op8 (hi : 4 * i + 3 < N) (hN : N < 2 ^ 31) (hop : xs (4 * i) &&& nI 31 = nI 8) (hK : q_KS (n, wv, sp, x) w) (hR : q_RS (n, wv, sp, x) w) : q_rnd N xs i z5 z6 z7 (n, wv, sp, x) w := by
  have hc := q_cIsLeaf hK (xs (4 * i + 1))
  have hm := fun (w1 : pW) (f : q_FW w w1) => q_mIsLeaf (hR.fw f) (xs (4 * i + 1))
  dsimp only at hc hm
  by_cases hx : q_ex sp (q_nt (xs (4 * i + 1))) = true
  · simp only [if_pos hx] at hc hm
    exact q_rnd_s (q_it8 (t := 0) (by decide) hi hN hop (q_w169 (q_Z0 hK hc)) (fun w1 f => (hm w1 f).i) (fun _ => rfl))
  · simp only [if_neg hx] at hc hm
    exact q_rnd_s (q_it8 (t := 1) (v := 0) (b := false) (by decide) hi hN hop (q_x169_2 (q_Zx0 hK hc)) (fun w1 f => (hm w1 f).r (by decide)) (fun z => absurd z (by decide)))
theorem q_op9 (hi : 4 * i + 3 < N) (hN : N < 2 ^ 31) (hop : xs (4 * i) &&& nI 31 = nI 9) (hK : q_KS (n, wv, sp, x) w) (hR : q_RS (n, wv, sp, x) w) : q_rnd N xs i z5 z6 z7 (n, wv, sp, x) w :=
  q_rnd_s (q_it9 hi hN hop (q_cLeaves hK) hK (q_mLeaves hR).i)
theorem q_op10 (hi : 4 * i + 3 < N) (hN : N < 2 ^ 31) (hop : xs (4 * i) &&& nI 31 = nI 10) (hK : q_KS (n, wv, sp, x) w) (hR : q_RS (n, wv, sp, x) w) : q_rnd N xs i z5 z6 z7 (n, wv, sp, x) w := by
  have hc := q_cLeafAt hK (xs (4 * i + 1))
  have hm := fun (w1 : pW) (f : q_FW w w1) => q_mLeafAt (hR.fw f) (xs (4 * i + 1))
  dsimp only at hc hm
  by_cases hx : q_pt (q_lc sp) (xs (4 * i + 1)) < q_lc sp
  · simp only [if_pos hx] at hc hm
    exact q_rnd_s (q_it10 (t := 0) (by decide) hi hN hop (q_w170 (q_Z0 hK hc)) (fun w1 f => (hm w1 f).i) (fun _ => rfl))
  · simp only [if_neg hx] at hc hm
    exact q_rnd_s (q_it10 (t := 1) (v := 0) (b := 0) (by decide) hi hN hop (q_x170_2 (q_Zx0 hK hc)) (fun w1 f => (hm w1 f).r (by decide)) (fun z => absurd z (by decide)))
theorem q_op11 (hi : 4 * i + 3 < N) (hN : N < 2 ^ 31) (hop : xs (4 * i) &&& nI 31 = nI 11) (hK : q_KS (n, wv, sp, x) w) (hR : q_RS (n, wv, sp, x) w) (hS : q_safe (n, wv, sp, x)) : q_rnd N xs i z5 z6 z7 (n, wv, sp, x) w := by
  have hns := (hS.bd hK.2.1).ns
  have hc := q_cCostOf hK (xs (4 * i + 1))
  have hm := fun (w1 : pW) (f : q_FW w w1) => q_mCostOf (hR.fw f) hns (xs (4 * i + 1))
  dsimp only at hc hm
  by_cases hx : q_ex sp (q_nt (xs (4 * i + 1))) = true
  · simp only [if_pos hx] at hc hm
    exact q_rnd_s (q_it11 (t := 0) (by decide) hi hN hop (q_w171 (q_Z0 hK hc)) (fun w1 f => (hm w1 f).i) (fun _ => rfl))
  · simp only [if_neg hx] at hc hm
    exact q_rnd_s (q_it11 (t := 1) (v := 0) (b := 0) (by decide) hi hN hop (q_x171_2 (q_Zx0 hK hc)) (fun w1 f => (hm w1 f).r (by decide)) (fun z => absurd z (by decide)))
theorem q_op12 (hi : 4 * i + 3 < N) (hN : N < 2 ^ 31) (hop : xs (4 * i) &&& nI 31 = nI 12) (hK : q_KS (n, wv, sp, x) w) (hR : q_RS (n, wv, sp, x) w) (hS : q_safe (n, wv, sp, x)) : q_rnd N xs i z5 z6 z7 (n, wv, sp, x) w := by
  by_cases ha : nI 1 ≤ xs (4 * i + 1) ∧ xs (4 * i + 1) ≤ nI 3
  · obtain ⟨l, l1, hl⟩ := nI_of (x := xs (4 * i + 1)) (fun z => absurd (Int32.lt_of_le_of_lt ha.1 z) (by decide))
    have h1 : 1 ≤ l := by have := ha.1; rw [hl, nI_leI (by omega) l1] at this; exact this
    have h3 : l ≤ 3 := by have := ha.2; rw [hl, nI_leI l1 (by omega)] at this; exact this
    have hda := hS.da hK.2.1
    exact ⟨_, Or.inr (Or.inr (Or.inr (Or.inr (Or.inr (Or.inr (Or.inr ⟨l, w.2.2 19, h1, h3, rfl⟩)))))), q_it12 (t := 0) (by decide) hi hN hop (by rw [hl]; exact q_w172 (q_cChoose hK h1 h3)) (fun w1 f => by rw [hl]; exact (q_mChoose (hR.fw f) h1 h3 (w.2.2 19) hda).i) (fun _ => rfl)⟩
  · have hx : xs (4 * i + 1) < nI 1 ∨ (¬ xs (4 * i + 1) < nI 1 ∧ ¬ xs (4 * i + 1) ≤ nI 3) := by
      by_cases h0 : xs (4 * i + 1) < nI 1
      · exact Or.inl h0
      · exact Or.inr ⟨h0, fun z => ha ⟨Int32.not_lt.mp h0, z⟩⟩
    exact q_rnd_s (q_it12 (t := 1) (v := 0) (b := 0) (by decide) hi hN hop (q_x172_0 (q_Zx0 hK (q_cChoose_x hx))) (fun w1 f => (q_mChoose_x (hR.fw f) hx).r (by decide)) (fun z => absurd z (by decide)))
theorem q_op13 (hi : 4 * i + 3 < N) (hN : N < 2 ^ 31) (hop : xs (4 * i) &&& nI 31 = nI 13) (hK : q_KS (n, wv, sp, x) w) (hR : q_RS (n, wv, sp, x) w) : q_rnd N xs i z5 z6 z7 (n, wv, sp, x) w := by
  have hc := q_cSizeOf hK (xs (4 * i + 1))
  have hm := fun (w1 : pW) (f : q_FW w w1) => q_mSizeOf (hR.fw f) (xs (4 * i + 1))
  dsimp only at hc hm
  by_cases hx : q_ex sp (q_nt (xs (4 * i + 1))) = true
  · simp only [if_pos hx] at hc hm
    by_cases hs : sp (q_nt (xs (4 * i + 1))) = true
    · simp only [if_pos hs] at hc hm
      exact q_rnd_s (q_it13 (t := 2) (v := 0) (b := 0) (by decide) hi hN hop (q_x173_1 (q_Zx0 hK hc)) (fun w1 f => (hm w1 f).r (by decide)) (fun z => absurd z (by decide)))
    · simp only [if_neg hs] at hc hm
      exact q_rnd_s (q_it13 (t := 0) (by decide) hi hN hop (q_w173 (q_Z0 hK hc)) (fun w1 f => (hm w1 f).i) (fun _ => rfl))
  · simp only [if_neg hx] at hc hm
    exact q_rnd_s (q_it13 (t := 1) (v := 0) (b := 0) (by decide) hi hN hop (q_x173_2 (q_Zx0 hK hc)) (fun w1 f => (hm w1 f).r (by decide)) (fun z => absurd z (by decide)))
theorem q_op14 (hi : 4 * i + 3 < N) (hN : N < 2 ^ 31) (hop : xs (4 * i) &&& nI 31 = nI 14) (hK : q_KS (n, wv, sp, x) w) (hR : q_RS (n, wv, sp, x) w) : q_rnd N xs i z5 z6 z7 (n, wv, sp, x) w := by
  have hc := q_cNumber hK (xs (4 * i + 1)) (xs (4 * i + 2))
  have hm := fun (w1 : pW) (f : q_FW w w1) => q_mNumber (hR.fw f) (xs (4 * i + 1)) (xs (4 * i + 2))
  dsimp only at hc hm
  by_cases hx : q_ex sp (q_nt (xs (4 * i + 1))) = true
  · simp only [if_pos hx] at hc hm
    by_cases hs : sp (q_nt (xs (4 * i + 1))) = true
    · simp only [if_pos hs] at hc hm
      exact q_rnd_s (q_it14 (t := 2) (v := 0) (b := 0) (by decide) hi hN hop (q_x174_1 (q_Zx0 hK hc)) (fun w1 f => (hm w1 f).r (by decide)) (fun z => absurd z (by decide)))
    · simp only [if_neg hs] at hc hm
      by_cases hp : q_pt (q_wd n (q_nt (xs (4 * i + 1)))) (xs (4 * i + 2)) < q_wd n (q_nt (xs (4 * i + 1)))
      · simp only [if_pos hp] at hc hm
        exact q_rnd_s (q_it14 (t := 0) (by decide) hi hN hop (q_w174 (q_Z0 hK hc)) (fun w1 f => (hm w1 f).l) (fun _ => rfl))
      · simp only [if_neg hp] at hc hm
        exact q_rnd_s (q_it14 (t := 1) (v := 0) (b := 0) (by decide) hi hN hop (q_x174_2 (q_Zx0 hK hc)) (fun w1 f => (hm w1 f).r (by decide)) (fun z => absurd z (by decide)))
  · simp only [if_neg hx] at hc hm
    exact q_rnd_s (q_it14 (t := 1) (v := 0) (b := 0) (by decide) hi hN hop (q_x174_2 (q_Zx0 hK hc)) (fun w1 f => (hm w1 f).r (by decide)) (fun z => absurd z (by decide)))
theorem q_op15 (hi : 4 * i + 3 < N) (hN : N < 2 ^ 31) (hop : xs (4 * i) &&& nI 31 = nI 15) (hK : q_KS (n, wv, sp, x) w) (hR : q_RS (n, wv, sp, x) w) : q_rnd N xs i z5 z6 z7 (n, wv, sp, x) w := by
  have hm := fun (w1 : pW) (f : q_FW w w1) => q_mSetNumber (hR.fw f) (xs (4 * i + 1)) (xs (4 * i + 2)) (xs (4 * i + 3))
  dsimp only at hm
  by_cases hx : q_ex sp (q_nt (xs (4 * i + 1))) = true
  · obtain ⟨k, h1, h2, hk, h3⟩ := q_ntx hx
    simp only [if_pos hx] at hm
    simp only [h3] at hm
    rw [h3] at hx
    by_cases hs : sp k = true
    · simp only [if_pos hs] at hm
      exact q_rnd_s (q_it15 (t := 2) (v := 0) (b := 0) (by decide) hi hN hop (by rw [hk]; exact q_x175_1 (q_Zx0 hK (q_cSetNumber_s hK h2 hx hs))) (fun w1 f => (hm w1 f).r (by decide)) (fun z => absurd z (by decide)))
    · simp only [if_neg hs] at hm
      have hs' := Bool.eq_false_iff.mpr hs
      by_cases hp : q_pt (q_wd n k) (xs (4 * i + 2)) < q_wd n k
      · simp only [if_pos hp] at hm
        by_cases hv : (-100000 : Int32) ≤ xs (4 * i + 3) ∧ xs (4 * i + 3) ≤ nI 100000
        · simp only [if_pos hv] at hm
          have hwn := q_wdle n k
          have hn := hK.2.1.n32
          rcases q_pt_c (m := q_wd n k) (show q_wd n k < 2 ^ 31 by dsimp only at hn; omega) (xs (4 * i + 2)) with ⟨h5, h6⟩ | ⟨j, h5, hj, h6⟩
          · omega
          · rw [h6] at hm
            exact ⟨_, Or.inr (Or.inr (Or.inl ⟨k, j, xs (4 * i + 3), hx, hs', h5, hv, rfl⟩)), q_it15 (t := 0) (by decide) hi hN hop (by rw [hk, hj]; exact q_w175 (q_cSetNumber hK h1 h2 hx hs' h5 hv)) (fun w1 f => (hm w1 f).l) (fun _ => rfl)⟩
        · simp only [if_neg hv] at hm
          exact q_rnd_s (q_it15 (t := 3) (v := 0) (b := 0) (by decide) hi hN hop (by rw [hk]; exact q_x175_0 (q_Zx0 hK (q_cSetNumber_v hK h2 hx hs' hp hv))) (fun w1 f => (hm w1 f).r (by decide)) (fun z => absurd z (by decide)))
      · simp only [if_neg hp] at hm
        exact q_rnd_s (q_it15 (t := 1) (v := 0) (b := 0) (by decide) hi hN hop (by rw [hk]; exact q_x175_2 (q_Zx0 hK (q_cSetNumber_p hK h2 hx hs' hp))) (fun w1 f => (hm w1 f).r (by decide)) (fun z => absurd z (by decide)))
  · simp only [if_neg hx] at hm
    exact q_rnd_s (q_it15 (t := 1) (v := 0) (b := 0) (by decide) hi hN hop (q_x175_2 (q_Zx0 hK (q_cSetNumber_x hK hx))) (fun w1 f => (hm w1 f).r (by decide)) (fun z => absurd z (by decide)))
theorem q_op16 (hi : 4 * i + 3 < N) (hN : N < 2 ^ 31) (hop : xs (4 * i) &&& nI 31 = nI 16) (hK : q_KS (n, wv, sp, x) w) (hR : q_RS (n, wv, sp, x) w) (hS : q_safe (n, wv, sp, x)) : q_rnd N xs i z5 z6 z7 (n, wv, sp, x) w := by
  have hbd := hS.bd hK.2.1
  by_cases hx : q_ex sp (q_nt (xs (4 * i + 1))) = true
  · obtain ⟨k, h1, h2, hk, h3⟩ := q_ntx hx
    rw [h3] at hx
    by_cases hs : sp k = true
    · exact q_rnd_s (q_it16 (t := 2) (v := 0) (b := 0) (by decide) hi hN hop (by rw [hk]; exact q_x176_1 (q_Zx0 hK (q_cFilt_s hK h2 hx hs))) (fun w1 f => by rw [hk]; exact (q_mFilt_s (hR.fw f) h2 hx hs).r (by decide)) (fun z => absurd z (by decide)))
    · have hs' := Bool.eq_false_iff.mpr hs
      by_cases hp : q_pt (q_wd n k / 2) (xs (4 * i + 2)) < q_wd n k / 2
      · have hwv : wv ≤ 2 := hR.1.2.2.2
        by_cases hw2 : wv = 2
        · subst hw2
          exact q_rnd_s (q_it16 (t := 2) (v := 0) (b := 0) (by decide) hi hN hop (by rw [hk]; exact q_x176_1 (q_Zx0 hK (q_cFilt_w hK h2 hx hs' hp))) (fun w1 f => by rw [hk]; exact (q_mFilt_w (hR.fw f) h2 hx hs' hp).r (by decide)) (fun z => absurd z (by decide)))
        · have hwn := q_wdle n k
          have hn := hK.2.1.n32
          have hwv2 : wv < 2 := by omega
          rcases q_pt_c (m := q_wd n k / 2) (show q_wd n k / 2 < 2 ^ 31 by dsimp only at hn; omega) (xs (4 * i + 2)) with ⟨h5, h6⟩ | ⟨j, h5, hj, h6⟩
          · omega
          · exact q_rnd_s (q_it16 (t := 0) (by decide) hi hN hop (by rw [hk, hj]; exact q_w176 (q_Z0 hK (q_cFilt hK h1 h2 hx hs' h5 hwv2))) (fun w1 f => by rw [hk, hj]; exact (q_mFilt (hR.fw f) hbd h1 h2 hx hs' h5 hwv2).l) (fun _ => rfl))
      · exact q_rnd_s (q_it16 (t := 1) (v := 0) (b := 0) (by decide) hi hN hop (by rw [hk]; exact q_x176_2 (q_Zx0 hK (q_cFilt_p hK h2 hx hs' hp))) (fun w1 f => by rw [hk]; exact (q_mFilt_p (hR.fw f) h2 hx hs' hp).r (by decide)) (fun z => absurd z (by decide)))
  · exact q_rnd_s (q_it16 (t := 1) (v := 0) (b := 0) (by decide) hi hN hop (q_x176_2 (q_Zx0 hK (q_cFilt_x hK hx))) (fun w1 f => (q_mFilt_x (hR.fw f) hx).r (by decide)) (fun z => absurd z (by decide)))
theorem q_tN {c : Int32} (h : nI 0 ≤ c ∧ c ≤ nI 100000) : ∃ t, t ≤ 100000 ∧ c = nI t := by
  obtain ⟨t, t1, ht⟩ := nI_of (x := c) (Int32.not_lt.mpr h.1)
  refine ⟨t, ?_, ht⟩
  have := h.2
  rw [ht, nI_leI t1 (by omega)] at this; exact this
theorem q_op17 (hi : 4 * i + 3 < N) (hN : N < 2 ^ 31) (hop : xs (4 * i) &&& nI 31 = nI 17) (hK : q_KS (n, wv, sp, x) w) (hR : q_RS (n, wv, sp, x) w) : q_rnd N xs i z5 z6 z7 (n, wv, sp, x) w := by
  by_cases hx : q_ex sp (q_nt (xs (4 * i + 1))) = true
  · by_cases ht : nI 0 ≤ xs (4 * i + 2) ∧ xs (4 * i + 2) ≤ nI 100000
    · obtain ⟨k, h1, h2, hk, h3⟩ := q_ntx hx
      rw [h3] at hx
      by_cases hs : sp k = true
      · exact q_rnd_s (q_it17 (t := 3) (v := 0) (b := 0) (by decide) hi hN hop (by rw [hk]; exact q_x177_1 (q_Zx0 hK (q_cHard_s hK h2 hx ht hs))) (fun w1 f => by rw [hk]; exact (q_mHard_s (hR.fw f) h2 hx ht hs).r (by decide)) (fun z => absurd z (by decide)))
      · have hs' := Bool.eq_false_iff.mpr hs
        obtain ⟨t, t1, t2⟩ := q_tN ht
        exact ⟨_, Or.inr (Or.inr (Or.inr (Or.inr (Or.inr (Or.inr (Or.inl ⟨k, t, 0, hx, hs', t1, Or.inl rfl, rfl⟩)))))), q_it17 (t := 0) (by decide) hi hN hop (by rw [hk, t2]; exact q_w177 (q_cHard hK h1 h2 hx hs' t1)) (fun w1 f => by rw [hk, t2]; exact (q_mHard (hR.fw f) h1 h2 hx hs' t1).i) (fun _ => rfl)⟩
    · exact q_rnd_s (q_it17 (t := 2) (v := 0) (b := 0) (by decide) hi hN hop (q_x177_0 (q_Zx0 hK (q_cHard_t hK hx ht))) (fun w1 f => (q_mHard_t (hR.fw f) hx ht).r (by decide)) (fun z => absurd z (by decide)))
  · exact q_rnd_s (q_it17 (t := 1) (v := 0) (b := 0) (by decide) hi hN hop (q_x177_2 (q_Zx0 hK (q_cHard_x hK hx))) (fun w1 f => (q_mHard_x (hR.fw f) hx).r (by decide)) (fun z => absurd z (by decide)))
theorem q_op18 (hi : 4 * i + 3 < N) (hN : N < 2 ^ 31) (hop : xs (4 * i) &&& nI 31 = nI 18) (hK : q_KS (n, wv, sp, x) w) (hR : q_RS (n, wv, sp, x) w) : q_rnd N xs i z5 z6 z7 (n, wv, sp, x) w := by
  by_cases hx : q_ex sp (q_nt (xs (4 * i + 1))) = true
  · by_cases ht : nI 0 ≤ xs (4 * i + 2) ∧ xs (4 * i + 2) ≤ nI 100000
    · obtain ⟨k, h1, h2, hk, h3⟩ := q_ntx hx
      rw [h3] at hx
      by_cases hs : sp k = true
      · exact q_rnd_s (q_it18 (t := 3) (v := 0) (b := 0) (by decide) hi hN hop (by rw [hk]; exact q_x178_1 (q_Zx0 hK (q_cSoft_s hK h2 hx ht hs))) (fun w1 f => by rw [hk]; exact (q_mSoft_s (hR.fw f) h2 hx ht hs).r (by decide)) (fun z => absurd z (by decide)))
      · have hs' := Bool.eq_false_iff.mpr hs
        obtain ⟨t, t1, t2⟩ := q_tN ht
        exact ⟨_, Or.inr (Or.inr (Or.inr (Or.inr (Or.inr (Or.inr (Or.inl ⟨k, t, t, hx, hs', t1, Or.inr rfl, rfl⟩)))))), q_it18 (t := 0) (by decide) hi hN hop (by rw [hk, t2]; exact q_w178 (q_cSoft hK h1 h2 hx hs' t1)) (fun w1 f => by rw [hk, t2]; exact (q_mSoft (hR.fw f) h1 h2 hx hs' t1).i) (fun _ => rfl)⟩
    · exact q_rnd_s (q_it18 (t := 2) (v := 0) (b := 0) (by decide) hi hN hop (q_x178_0 (q_Zx0 hK (q_cSoft_t hK hx ht))) (fun w1 f => (q_mSoft_t (hR.fw f) hx ht).r (by decide)) (fun z => absurd z (by decide)))
  · exact q_rnd_s (q_it18 (t := 1) (v := 0) (b := 0) (by decide) hi hN hop (q_x178_2 (q_Zx0 hK (q_cSoft_x hK hx))) (fun w1 f => (q_mSoft_x (hR.fw f) hx).r (by decide)) (fun z => absurd z (by decide)))
theorem q_op19 (hi : 4 * i + 3 < N) (hN : N < 2 ^ 31) (hop : xs (4 * i) &&& nI 31 = nI 19) (hK : q_KS (n, wv, sp, x) w) (hR : q_RS (n, wv, sp, x) w) : q_rnd N xs i z5 z6 z7 (n, wv, sp, x) w := by
  by_cases hx : q_ex sp (q_nt (xs (4 * i + 1))) = true
  · by_cases hb : nI 0 ≤ xs (4 * i + 2) ∧ xs (4 * i + 2) ≤ nI 1000
    · by_cases ht : nI 0 ≤ xs (4 * i + 3) ∧ xs (4 * i + 3) ≤ nI 100000
      · obtain ⟨k, h1, h2, hk, h3⟩ := q_ntx hx
        rw [h3] at hx
        by_cases hs : sp k = true
        · exact q_rnd_s (q_it19 (t := 3) (v := 0) (b := 0) (by decide) hi hN hop (by rw [hk]; exact q_x179_1 (q_Zx0 hK (q_cRisk_s hK h2 hx hb ht hs))) (fun w1 f => by rw [hk]; exact (q_mRisk_s (hR.fw f) h2 hx hb ht hs).r (by decide)) (fun z => absurd z (by decide)))
        · have hs' := Bool.eq_false_iff.mpr hs
          obtain ⟨t, t1, t2⟩ := q_tN ht
          exact q_rnd_s (q_it19 (t := 0) (by decide) hi hN hop (by rw [hk, t2]; exact q_w179 (q_Z0 hK (q_cRisk hK h1 h2 hx hs' hb t1))) (fun w1 f => by rw [hk, t2]; exact (q_mRisk (hR.fw f) h1 h2 hx hs' hb t1).l) (fun _ => rfl))
      · exact q_rnd_s (q_it19 (t := 2) (v := 0) (b := 0) (by decide) hi hN hop (q_x179_0 (q_Zx0 hK (q_cRisk_t hK hx hb ht))) (fun w1 f => (q_mRisk_t (hR.fw f) hx hb ht).r (by decide)) (fun z => absurd z (by decide)))
    · exact q_rnd_s (q_it19 (t := 2) (v := 0) (b := 0) (by decide) hi hN hop (q_x179_0 (q_Zx0 hK (q_cRisk_n hK hx hb))) (fun w1 f => (q_mRisk_n (hR.fw f) hx hb).r (by decide)) (fun z => absurd z (by decide)))
  · exact q_rnd_s (q_it19 (t := 1) (v := 0) (b := 0) (by decide) hi hN hop (q_x179_2 (q_Zx0 hK (q_cRisk_x hK hx))) (fun w1 f => (q_mRisk_x (hR.fw f) hx).r (by decide)) (fun z => absurd z (by decide)))
theorem q_op20 (hi : 4 * i + 3 < N) (hN : N < 2 ^ 31) (hop : xs (4 * i) &&& nI 31 = nI 20) (hK : q_KS (n, wv, sp, x) w) (hR : q_RS (n, wv, sp, x) w) : q_rnd N xs i z5 z6 z7 (n, wv, sp, x) w := by
  by_cases hx : q_ex sp (q_nt (xs (4 * i + 1))) = true
  · by_cases hb : nI 0 ≤ xs (4 * i + 2) ∧ xs (4 * i + 2) ≤ nI 1000
    · obtain ⟨k, h1, h2, hk, h3⟩ := q_ntx hx
      rw [h3] at hx
      by_cases hs : sp k = true
      · exact q_rnd_s (q_it20 (t := 3) (v := 0) (b := 0) (by decide) hi hN hop (by rw [hk]; exact q_x180_1 (q_Zx0 hK (q_cBest_s hK h2 hx hb hs))) (fun w1 f => by rw [hk]; exact (q_mBest_s (hR.fw f) h2 hx hb hs).r (by decide)) (fun z => absurd z (by decide)))
      · have hs' := Bool.eq_false_iff.mpr hs
        exact q_rnd_s (q_it20 (t := 0) (by decide) hi hN hop (by rw [hk]; exact q_w180 (q_Z0 hK (q_cBest hK h1 h2 hx hs' hb))) (fun w1 f => by rw [hk]; exact (q_mBest (hR.fw f) hx hs' hb).l) (fun _ => rfl))
    · exact q_rnd_s (q_it20 (t := 2) (v := 0) (b := 0) (by decide) hi hN hop (q_x180_0 (q_Zx0 hK (q_cBest_n hK hx hb))) (fun w1 f => (q_mBest_n (hR.fw f) hx hb).r (by decide)) (fun z => absurd z (by decide)))
  · exact q_rnd_s (q_it20 (t := 1) (v := 0) (b := 0) (by decide) hi hN hop (q_x180_2 (q_Zx0 hK (q_cBest_x hK hx))) (fun w1 f => (q_mBest_x (hR.fw f) hx).r (by decide)) (fun z => absurd z (by decide)))
theorem q_op21 (hi : 4 * i + 3 < N) (hN : N < 2 ^ 31) (hop : xs (4 * i) &&& nI 31 = nI 21) (hK : q_KS (n, wv, sp, x) w) (hR : q_RS (n, wv, sp, x) w) : q_rnd N xs i z5 z6 z7 (n, wv, sp, x) w :=
  q_rnd_s (q_it21 hi hN hop (q_pyr hK.1) hK (q_mIsPyr hR).i)
theorem q_op22 (hi : 4 * i + 3 < N) (hN : N < 2 ^ 31) (hop : xs (4 * i) &&& nI 31 = nI 22) (hK : q_KS (n, wv, sp, x) w) (hR : q_RS (n, wv, sp, x) w) (hS : q_safe (n, wv, sp, x)) : q_rnd N xs i z5 z6 z7 (n, wv, sp, x) w := by
  have hns := (hS.bd hK.2.1).ns
  by_cases hp : q_py sp = true
  · exact q_rnd_s (q_it22 (t := 0) (by decide) hi hN hop (q_w181 (q_cBits hK hp)) (fun w1 f => (q_mBits (hR.fw f) hp hns).i) (fun _ => rfl))
  · exact q_rnd_s (q_it22 (t := 1) (v := 0) (b := 0) (by decide) hi hN hop (q_x181_1 (q_Zx0 hK (q_cBits_s hK hp))) (fun w1 f => (q_mBits_s (hR.fw f) hp).r (by decide)) (fun z => absurd z (by decide)))
theorem q_op23 (hi : 4 * i + 3 < N) (hN : N < 2 ^ 31) (hop : xs (4 * i) &&& nI 31 = nI 23) (hK : q_KS (n, wv, sp, x) w) (hR : q_RS (n, wv, sp, x) w) (hS : q_safe (n, wv, sp, x)) : q_rnd N xs i z5 z6 z7 (n, wv, sp, x) w := by
  have hns := (hS.bd hK.2.1).ns
  by_cases hp : q_py sp = true
  · have hc := q_cBitAt hK hp (xs (4 * i + 1))
    have hm := fun (w1 : pW) (f : q_FW w w1) => q_mBitAt (hR.fw f) hp hns (xs (4 * i + 1))
    dsimp only at hc hm
    by_cases hx : q_pt (q_CD n sp x).length (xs (4 * i + 1)) < (q_CD n sp x).length
    · simp only [if_pos hx] at hc hm
      exact q_rnd_s (q_it23 (t := 0) (by decide) hi hN hop (q_w182 hc) (fun w1 f => (hm w1 f).i) (fun _ => rfl))
    · simp only [if_neg hx] at hc hm
      exact q_rnd_s (q_it23 (t := 2) (v := 0) (b := 0) (by decide) hi hN hop (q_x182_2 hc) (fun w1 f => (hm w1 f).r (by decide)) (fun z => absurd z (by decide)))
  · exact q_rnd_s (q_it23 (t := 1) (v := 0) (b := 0) (by decide) hi hN hop (q_x182_1 (q_Zx0 hK (q_cBitAt_s hK hp))) (fun w1 f => (q_mBitAt_s (hR.fw f) hp).r (by decide)) (fun z => absurd z (by decide)))
theorem q_op24 (hi : 4 * i + 3 < N) (hN : N < 2 ^ 31) (hop : xs (4 * i) &&& nI 31 = nI 24) (hK : q_KS (n, wv, sp, x) w) (hR : q_RS (n, wv, sp, x) w) (hS : q_safe (n, wv, sp, x)) : q_rnd N xs i z5 z6 z7 (n, wv, sp, x) w := by
  have hns := (hS.bd hK.2.1).ns
  by_cases hp : q_py sp = true
  · by_cases ha : nI 0 ≤ xs (4 * i + 1)
    · by_cases hb : q_pt n (xs (4 * i + 2)) < n
      · obtain ⟨B, B1, hB⟩ := nI_of (x := xs (4 * i + 1)) (Int32.not_lt.mpr ha)
        have hn := hK.2.1.n32
        rcases q_pt_c (m := n) (show n < 2 ^ 31 by dsimp only at hn; omega) (xs (4 * i + 2)) with ⟨h5, h6⟩ | ⟨j, h5, hj, h6⟩
        · omega
        · exact q_rnd_s (q_it24 (t := 0) (by decide) hi hN hop (by rw [hB, hj]; exact q_w183 (q_cBack hK hp B1 h5)) (fun w1 f => by rw [hB, hj]; exact (q_mBB (hR.fw f) hp hns B1 h5).l) (fun _ => rfl))
      · exact q_rnd_s (q_it24 (t := 3) (v := 0) (b := 0) (by decide) hi hN hop (q_x183_2 (q_Zx0 hK (q_cBack_p hK hp ha hb))) (fun w1 f => (q_mBB_p (hR.fw f) hp ha hb).r (by decide)) (fun z => absurd z (by decide)))
    · exact q_rnd_s (q_it24 (t := 2) (v := 0) (b := 0) (by decide) hi hN hop (q_x183_0 (q_Zx0 hK (q_cBack_n hK hp ha))) (fun w1 f => (q_mBB_n (hR.fw f) hp ha).r (by decide)) (fun z => absurd z (by decide)))
  · exact q_rnd_s (q_it24 (t := 1) (v := 0) (b := 0) (by decide) hi hN hop (q_x183_1 (q_Zx0 hK (q_cBack_s hK hp))) (fun w1 f => (q_mBB_s (hR.fw f) hp).r (by decide)) (fun z => absurd z (by decide)))
theorem q_op25 (hi : 4 * i + 3 < N) (hN : N < 2 ^ 31) (hop : xs (4 * i) &&& nI 31 = nI 25) (hK : q_KS (n, wv, sp, x) w) (hR : q_RS (n, wv, sp, x) w) (hS : q_safe (n, wv, sp, x)) : q_rnd N xs i z5 z6 z7 (n, wv, sp, x) w := by
  have hns := (hS.bd hK.2.1).ns
  by_cases hp : q_py sp = true
  · by_cases ha : nI 0 ≤ xs (4 * i + 1)
    · obtain ⟨B, B1, hB⟩ := nI_of (x := xs (4 * i + 1)) (Int32.not_lt.mpr ha)
      exact q_rnd_s (q_it25 (t := 0) (by decide) hi hN hop (by rw [hB]; exact q_w184 (q_cErr hK hp B1)) (fun w1 f => by rw [hB]; exact (q_mEW (hR.fw f) hp hns B1).l) (fun _ => rfl))
    · exact q_rnd_s (q_it25 (t := 2) (v := 0) (b := 0) (by decide) hi hN hop (q_x184_0 (q_Zx0 hK (q_cErr_n hK hp ha))) (fun w1 f => (q_mEW_n (hR.fw f) hp ha).r (by decide)) (fun z => absurd z (by decide)))
  · exact q_rnd_s (q_it25 (t := 1) (v := 0) (b := 0) (by decide) hi hN hop (q_x184_1 (q_Zx0 hK (q_cErr_s hK hp))) (fun w1 f => (q_mEW_s (hR.fw f) hp).r (by decide)) (fun z => absurd z (by decide)))
theorem q_op26 (hi : 4 * i + 3 < N) (hN : N < 2 ^ 31) (hop : xs (4 * i) &&& nI 31 = nI 26) (hK : q_KS (n, wv, sp, x) w) (hR : q_RS (n, wv, sp, x) w) (hS : q_safe (n, wv, sp, x)) : q_rnd N xs i z5 z6 z7 (n, wv, sp, x) w := by
  have hns := (hS.bd hK.2.1).ns
  by_cases hp : q_py sp = true
  · by_cases ha : nI 0 ≤ xs (4 * i + 1)
    · exact q_rnd_s (q_it26 (t := 0) (by decide) hi hN hop (q_w185 (q_cBitsFor hK hp ha)) (fun w1 f => (q_mBF (hR.fw f) hp hns ha).i) (fun _ => rfl))
    · exact q_rnd_s (q_it26 (t := 2) (v := 0) (b := 0) (by decide) hi hN hop (q_x185_0 (q_Zx0 hK (q_cBitsFor_n hK hp ha))) (fun w1 f => (q_mBF_n (hR.fw f) hp ha).r (by decide)) (fun z => absurd z (by decide)))
  · exact q_rnd_s (q_it26 (t := 1) (v := 0) (b := 0) (by decide) hi hN hop (q_x185_1 (q_Zx0 hK (q_cBitsFor_s hK hp))) (fun w1 f => (q_mBF_s (hR.fw f) hp).r (by decide)) (fun z => absurd z (by decide)))
end St
