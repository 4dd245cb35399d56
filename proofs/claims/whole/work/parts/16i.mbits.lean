/-! THE REFERENCE: THE CALLS OF BITS -/
def q_eb2 (n : Nat) (e : q_ev) : Prop := e.2.2.2 < 63 ∧ e.2.2.1 < n
section Mbt
variable {n wv : Nat} {sp : Nat → Bool} {x : Nat → Int64} {w : pW}
theorem q_f1_b {lo pl p : Nat} {R : Nat → Int64} (hp : p < n) (hl : pl < 63) : ∀ e ∈ q_f1 n lo x R pl p, q_eb2 n e := by
  intro e he
  unfold q_f1 at he
  by_cases h1 : q_sh (p_abs (x p)) pl = lN 1
  · rw [if_pos h1] at he
    simp only [List.mem_cons, List.not_mem_nil, or_false] at he
    rcases he with rfl | rfl
    · exact ⟨hl, hp⟩
    · exact ⟨hl, hp⟩
  · rw [if_neg h1] at he
    by_cases h2 : q_sh (p_abs (x p)) pl = lN 0 ∧ q_lft lo p pl R = false
    · rw [if_pos h2] at he
      rcases List.mem_cons.mp he with rfl | he
      · exact ⟨by show 0 < 63; omega, hp⟩
      · by_cases h3 : q_de n lo p = true
        · rw [if_pos h3] at he
          rcases List.mem_singleton.mp he with rfl
          exact ⟨by show 0 < 63; omega, hp⟩
        · rw [if_neg h3] at he; exact absurd he (by simp)
    · rw [if_neg h2] at he; exact absurd he (by simp)
theorem q_f2_b {lo pl : Nat} {R : Nat → Int64} (hl : pl < 63) : ∀ d k, k + d ≤ n → ∀ e ∈ q_f2 n lo x R pl k d, q_eb2 n e
  | 0, _, _, e, he => absurd he (by simp [q_f2])
  | d + 1, k, hk, e, he => by
    rw [q_f2] at he
    rcases List.mem_append.mp he with he | he
    · exact q_f1_b (by omega) hl e he
    · exact q_f2_b hl d (k + 1) (by omega) e he
theorem q_s2_b {pl : Nat} (hl : pl < 63) : ∀ d k, k + d ≤ n → ∀ e ∈ q_s2 x pl k d, q_eb2 n e
  | 0, _, _, e, he => absurd he (by simp [q_s2])
  | d + 1, k, hk, e, he => by
    rw [q_s2] at he
    rcases List.mem_append.mp he with he | he
    · unfold q_s1 at he
      by_cases h : lN 1 < q_sh (p_abs (x k)) pl
      · rw [if_pos h] at he
        rcases List.mem_singleton.mp he with rfl
        exact ⟨hl, show k < n by omega⟩
      · rw [if_neg h] at he; exact absurd he (by simp)
    · exact q_s2_b hl d (k + 1) (by omega) e he
theorem q_pl_b {lo : Nat} {R : Nat → Int64} : ∀ k, k ≤ 63 → ∀ e ∈ q_pl n lo x R k, q_eb2 n e
  | 0, _, e, he => absurd he (by simp [q_pl])
  | k + 1, hk, e, he => by
    rw [q_pl] at he
    rcases List.mem_append.mp he with he | he
    · exact q_f2_b (by omega) n 0 (by omega) e he
    · rcases List.mem_append.mp he with he | he
      · exact q_s2_b (by omega) n 0 (by omega) e he
      · exact q_pl_b k (by omega) e he
theorem q_hd_b {P : Nat} (hn : 1 ≤ n) : ∀ d, ∀ e ∈ q_hd P d, q_eb2 n e
  | 0, e, he => absurd he (by simp [q_hd])
  | d + 1, e, he => by
    rw [q_hd] at he
    rcases List.mem_cons.mp he with rfl | he
    · exact ⟨by show 0 < 63; omega, by show 0 < n; omega⟩
    · exact q_hd_b hn d e he
theorem q_cd_b {lo : Nat} (hn : 1 ≤ n) : ∀ e ∈ q_cd n lo x, q_eb2 n e := by
  intro e he
  unfold q_cd q_code at he
  rcases List.mem_append.mp he with he | he
  · exact q_hd_b hn 6 e he
  · exact q_pl_b _ q_dg_le e he
theorem q_T.n1 (hT : q_T n sp) : 1 ≤ n := by rcases hT.1 with z | z | z | z <;> omega
/-- the code is laid -/
def q_PM (n wv : Nat) (sp : Nat → Bool) (x : Nat → Int64) (w : pW) : Prop := q_R n wv sp x w ∧ w.1 24 19 = nI (q_lw sp) ∧ q_mE (q_CD n sp x) w
theorem q_PM.l {a b : pW} (h : q_PM n wv sp x a) (g : q_kL a b) : q_PM n wv sp x b := ⟨g.R h.1, by rw [g.1]; exact h.2.1, g.E h.2.2⟩
theorem q_PM.j {a b : pW} {S : List Nat} (h : q_PM n wv sp x a) (g : q_kJ a b S) (h26 : 26 ∉ S) : q_PM n wv sp x b := by
  refine ⟨h.1.kj g h26, by rw [g.1]; exact h.2.1, by rw [g.1]; exact h.2.2.1, fun i e hi => ?_⟩
  rw [g.2.1]; exact h.2.2.2 i e hi
theorem q_St.j {a b : pW} {S : List Nat} {st : Nat → q_ls} (h : q_St n st a) (g : q_kJ a b S) (h37 : 37 ∉ S) : q_St n st b := fun j hj => by
  rw [g.2.1, g.2.2 37 h37]; exact h j hj
/-- what is known after k bits -/
def q_sk2 (n : Nat) (sp : Nat → Bool) (x : Nat → Int64) (k : Nat) : Nat → q_ls := q_stl (fun _ => (0, 0, 0)) ((q_CD n sp x).take k)
theorem q_stl_d (E : List q_ev) (st : Nat → q_ls) (h : ∀ e ∈ E, e.2.2.2 < 63) (hs : ∀ j, (st j).2.1 ≤ 65) : ∀ j, (q_stl st E j).2.1 ≤ 65 := by
  induction E generalizing st with
  | nil => exact hs
  | cons e es ih =>
    rw [q_stl]
    refine ih _ (fun e' he' => h e' (by simp [he'])) (fun j => ?_)
    have he := h e (by simp)
    unfold q_stp
    by_cases hj : j = e.2.2.1
    · rw [if_pos hj]
      split
      · exact hs j
      · split
        · show e.2.2.2 + 1 ≤ 65; omega
        · split
          · exact hs j
          · show e.2.2.2 + 1 ≤ 65; omega
    · rw [if_neg hj]; exact hs j
theorem q_sk2_d (hT : q_T n sp) (k j : Nat) : (q_sk2 n sp x k j).2.1 ≤ 65 := q_stl_d _ _ (fun e he => (q_cd_b hT.n1 e (List.mem_of_mem_take he)).1) (fun _ => by show 0 ≤ 65; omega) j
theorem q_sk2_S {k : Nat} (hk : k < (q_CD n sp x).length) : q_sk2 n sp x (k + 1) = q_stp (q_sk2 n sp x k) ((q_CD n sp x)[k]) := by
  unfold q_sk2
  rw [q_take_S (List.getElem?_eq_getElem hk), q_stl_app]
  rfl
theorem q_mLearnP (h : q_PM n wv sp x w) {k : Nat} (hk : k < (q_CD n sp x).length) (hst : q_St n (q_sk2 n sp x k) w) : ∃ w', p_ev none 151 0 [.ref 24, .int (nI k), p_U, p_U, p_U] [] w = some (.inl none, w', 0) ∧ q_PM n wv sp x w' ∧ q_St n (q_sk2 n sp x (k + 1)) w' ∧ q_kL w w' := by
  have hT := h.1.2.1
  have hn := hT.n32
  have hl : (q_CD n sp x).length ≤ 4038 := q_cd_len hn
  obtain ⟨w', a1, a2, a3⟩ := q_mLearn (e := (q_CD n sp x)[k]) h.2.2 (List.getElem?_eq_getElem hk) (by omega) (q_cd_ok hn _ (List.getElem_mem hk)) hn (q_cd_b hT.n1 _ (List.getElem_mem hk)).2 hst
  refine ⟨w', a1, h.l a3, ?_, a3⟩
  rw [q_sk2_S hk]; exact a2
theorem q_mLF_l {B : Nat} (hB : B < 2 ^ 31) : ∀ (d k : Nat) (w : pW), k + d = min B (q_CD n sp x).length → q_PM n wv sp x w → q_St n (q_sk2 n sp x k) w → ∃ w', p_ev none 157 10 [.ref 24, .int (nI B), .int (nI k)] [] w = p_ev none 157 34 [.ref 24, .int (nI B), .int (nI (min B (q_CD n sp x).length))] [] w' ∧ q_PM n wv sp x w' ∧ q_St n (q_sk2 n sp x (min B (q_CD n sp x).length)) w' ∧ q_kL w w' := by
  intro d
  induction d with
  | zero =>
    intro k w hk hP hst
    have hl : (q_CD n sp x).length ≤ 4038 := q_cd_len hP.1.2.1.n32
    rw [Nat.add_zero] at hk
    refine ⟨w, ?_, hP, by rw [← hk]; exact hst, q_kL.rf⟩
    rw [← hk, H157_10]
    have h18 := hP.2.2.1
    by_cases hb : B ≤ k
    · (conv => lhs; simp (disch := first | assumption | omega | (rw [nI_leI] <;> omega) | (rw [nI_ltI] <;> omega) | (rw [nI_eq] <;> omega) | (apply q_out <;> omega) | (apply q_nb; omega) | (apply q_n0 <;> omega)) only [M157, ↓if_pos, ↓if_neg, nI_add, q_sub, q_cl, p_bnd_s, p_bnd_v])
      (conv => rhs; simp (disch := first | assumption | omega | (rw [nI_leI] <;> omega) | (rw [nI_ltI] <;> omega) | (rw [nI_eq] <;> omega) | (apply q_out <;> omega) | (apply q_nb; omega) | (apply q_n0 <;> omega)) only [M157, ↓if_pos, ↓if_neg, nI_add, q_sub, q_cl, p_bnd_s, p_bnd_v])
    · have hc : (q_CD n sp x).length ≤ k := by omega
      (conv => lhs; simp (disch := first | assumption | omega | (rw [nI_leI] <;> omega) | (rw [nI_ltI] <;> omega) | (rw [nI_eq] <;> omega) | (apply q_out <;> omega) | (apply q_nb; omega) | (apply q_n0 <;> omega)) only [M157, h18, ↓if_pos, ↓if_neg, nI_add, q_sub, q_cl, p_bnd_s, p_bnd_v])
      (conv => rhs; simp (disch := first | assumption | omega | (rw [nI_leI] <;> omega) | (rw [nI_ltI] <;> omega) | (rw [nI_eq] <;> omega) | (apply q_out <;> omega) | (apply q_nb; omega) | (apply q_n0 <;> omega)) only [M157, ↓if_pos, ↓if_neg, nI_add, q_sub, q_cl, p_bnd_s, p_bnd_v])
  | succ d ih =>
    intro k w hk hP hst
    have hl : (q_CD n sp x).length ≤ 4038 := q_cd_len hP.1.2.1.n32
    have h18 := hP.2.2.1
    obtain ⟨w1, a1, a2, a3, a4⟩ := q_mLearnP hP (show k < (q_CD n sp x).length by omega) hst
    obtain ⟨w', b1, b2, b3, b4⟩ := ih (k + 1) w1 (by omega) a2 a3
    refine ⟨w', ?_, b2, b3, a4.tr b4⟩
    rw [H157_10]
    (conv => lhs; simp (disch := first | assumption | omega | (rw [nI_leI] <;> omega) | (rw [nI_ltI] <;> omega) | (rw [nI_eq] <;> omega) | (apply q_out <;> omega) | (apply q_nb; omega) | (apply q_n0 <;> omega)) only [M157, h18, a1, ↓if_pos, ↓if_neg, nI_add, q_sub, q_cl, p_bnd_s, p_bnd_v])
    exact b1
/-- what lies in tried after k bits -/
def q_tr (n wv : Nat) (sp : Nat → Bool) (x : Nat → Int64) (k : Nat) (w : pW) : Prop := ∀ j, j < n → w.2.1 29 (32 + j) = q_un n wv sp 1 7 (q_td (q_CD n sp x) x k) j
theorem q_mLB (h : q_PM n wv sp x w) (hpy : q_py sp = true) (hns : q_ns n x) {k : Nat} (hk : k ≤ (q_CD n sp x).length) (hst : q_St n (q_sk2 n sp x k) w) : ∃ w', p_ev none 154 0 [.ref 24, p_U, p_U] [] w = some (.inl none, w', 0) ∧ q_PM n wv sp x w' ∧ q_St n (q_sk2 n sp x k) w' ∧ q_tr n wv sp x k w' ∧ q_kJ w w' [27, 28, 29] := by
  have hT := h.1.2.1
  obtain ⟨r, hr⟩ := q_rn_ex hns
  obtain ⟨w', a1, a2, a3⟩ := q_mLayBack h.1 hpy h.2.1 hst (fun j _ => q_sk2_d hT k j)
  refine ⟨w', a1, h.j a2 (by simp), hst.j a2 (by simp), fun j hj => ?_, a2⟩
  rw [a3 j hj]
  refine q_un_cg (m := n) hT (Nat.le_refl _) 7 (Nat.le_refl _) _ _ (fun i hi => ?_) j hj
  exact (q_td_bk hns hr (fun e he => (q_cd_b hT.n1 e he).1) k hk i hi).symm
theorem q_mLearnFirst (h : q_R n wv sp x w) (hpy : q_py sp = true) (hns : q_ns n x) {B : Nat} (hB : B < 2 ^ 31) : ∃ w', p_ev none 157 0 [.ref 24, .int (nI B), p_U] [] w = some (.inl none, w', 0) ∧ q_PM n wv sp x w' ∧ q_St n (q_sk2 n sp x (min B (q_CD n sp x).length)) w' ∧ q_tr n wv sp x (min B (q_CD n sp x).length) w' ∧ q_FM w w' ∧ w'.1 24 4 = w.1 24 4 ∧ w'.2.1 40 = w.2.1 40 := by
  have hT := h.2.1
  obtain ⟨w1, a1, a2, a3, a4⟩ := q_mLayCode h hpy hns
  have hP1 : q_PM n wv sp x w1 := ⟨a2.R h, a3, a4⟩
  obtain ⟨w2, b1, b2, b3⟩ := q_mForget hP1.1.1 hT.n32
  obtain ⟨w3, c1, c2, c3, c4⟩ := q_mLF_l (B := B) hB (min B (q_CD n sp x).length) 0 w2 (by omega) (hP1.l b2) b3
  obtain ⟨w4, d1, d2, d3, d4, d5⟩ := q_mLB c2 hpy hns (Nat.min_le_right _ _) c3
  refine ⟨w4, ?_, d2, d3, d4, ((a2.fm.tr b2.fm).tr c4.fm).tr (d5.fm (by simp)), ?_, ?_⟩
  · (conv => lhs; simp (disch := first | assumption | omega | (rw [nI_leI] <;> omega) | (rw [nI_ltI] <;> omega) | (rw [nI_eq] <;> omega) | (apply q_out <;> omega) | (apply q_nb; omega) | (apply q_n0 <;> omega)) only [M157, a1, b1, ↓if_pos, ↓if_neg, nI_add, q_sub, q_cl, p_bnd_s, p_bnd_v])
    rw [c1]
    (conv => lhs; simp (disch := first | assumption | omega | (rw [nI_leI] <;> omega) | (rw [nI_ltI] <;> omega) | (rw [nI_eq] <;> omega) | (apply q_out <;> omega) | (apply q_nb; omega) | (apply q_n0 <;> omega)) only [M157, d1, ↓if_pos, ↓if_neg, nI_add, q_sub, q_cl, p_bnd_s, p_bnd_v])
  · rw [d5.1, c4.1, b2.1, a2.t4]
  · rw [d5.2.2 40 (by simp), c4.2.1 40 (by decide), b2.2.1 40 (by decide), a2.2.1 40 (by decide)]
theorem q_mErr_l (hM : q_Mw n wv w) (hn : n ≤ 32) : ∀ (d i : Nat), i + d = n → p_ev none 159 4 [.ref 24, .long (q_er (w.2.1 40) (fun j => w.2.1 29 (32 + j)) i), p_U, .int (nI i)] [] w = some (.inl (some (.long (q_er (w.2.1 40) (fun j => w.2.1 29 (32 + j)) n))), w, 0) := by
  intro d
  induction d with
  | zero =>
    intro i hi
    have e : i = n := by omega
    rw [e, H159_4]
    (conv => lhs; simp (disch := first | assumption | omega | (rw [nI_leI] <;> omega) | (rw [nI_ltI] <;> omega) | (rw [nI_eq] <;> omega) | (apply q_out <;> omega) | (apply q_nb; omega) | (apply q_n0 <;> omega)) only [M159, hM.1, ↓if_pos, ↓if_neg, nI_add, q_sub, q_cl, p_bnd_s, p_bnd_v])
  | succ d ih =>
    intro i hi
    have i1 := ih (i + 1) (by omega)
    rw [q_er] at i1
    rw [H159_4]
    (conv => lhs; simp (disch := first | assumption | omega | (rw [nI_leI] <;> omega) | (rw [nI_ltI] <;> omega) | (rw [nI_eq] <;> omega) | (apply q_out <;> omega) | (apply q_nb; omega) | (apply q_n0 <;> omega)) only [M159, hM.1, q_mSize, ↓if_pos, ↓if_neg, nI_add, q_sub, q_cl, p_bnd_s, p_bnd_v])
    exact i1
theorem q_mErrP (h : q_PM n wv sp x w) {k : Nat} (ht : q_tr n wv sp x k w) (hs : ∀ j, j < n → w.2.1 40 j = q_un n wv sp 1 7 x j) : p_ev none 159 0 [.ref 24, p_U, p_U, p_U] [] w = some (.inl (some (.long (q_eb n wv sp x k))), w, 0) := by
  have hl := q_mErr_l h.1.1 h.1.2.1.n32 n 0 (by omega)
  rw [q_er_cg n hs ht] at hl
  (conv => lhs; simp (disch := first | assumption | omega | (rw [nI_leI] <;> omega) | (rw [nI_ltI] <;> omega) | (rw [nI_eq] <;> omega) | (apply q_out <;> omega) | (apply q_nb; omega) | (apply q_n0 <;> omega)) only [M159, ↓if_pos, ↓if_neg, nI_add, q_sub, q_cl, p_bnd_s, p_bnd_v])
  exact hl
theorem q_mKeep_l (hn : n ≤ 32) : ∀ (d k : Nat) (w : pW), k + d = n → q_Mw n wv w → p_ev none 160 6 [.ref 24, .int (nI k)] [] w = some (.inl none, (w.1, q_r w.2.1 40 (fun j => if k ≤ j ∧ j < n then w.2.1 29 (32 + j) else w.2.1 40 j), w.2.2), 0) := by
  intro d
  induction d with
  | zero =>
    intro k w hk hM
    have e : k = n := by omega
    subst e
    have e2 : (fun j => if k ≤ j ∧ j < k then w.2.1 29 (32 + j) else w.2.1 40 j) = w.2.1 40 := by
      funext j; rw [if_neg (by omega)]
    rw [e2, q_r_id, H160_6]
    (conv => lhs; simp (disch := first | assumption | omega | (rw [nI_leI] <;> omega) | (rw [nI_ltI] <;> omega) | (rw [nI_eq] <;> omega) | (apply q_out <;> omega) | (apply q_nb; omega) | (apply q_n0 <;> omega)) only [M160, hM.1, ↓if_pos, ↓if_neg, nI_add, q_sub, q_cl, p_bnd_s, p_bnd_v])
  | succ d ih =>
    intro k w hk hM
    have i1 := ih (k + 1) (w.1, q_r w.2.1 40 (fun j => if j = k then w.2.1 29 (32 + k) else w.2.1 40 j), w.2.2) (by omega) ⟨hM.1, hM.2.1, hM.2.2.1, hM.2.2.2⟩
    have e29 : q_r w.2.1 40 (fun j => if j = k then w.2.1 29 (32 + k) else w.2.1 40 j) 29 = w.2.1 29 := q_r_n (by decide)
    simp only [q_r_s, q_r_r, e29] at i1
    rw [H160_6]
    (conv => lhs; simp (disch := first | assumption | omega | (rw [nI_leI] <;> omega) | (rw [nI_ltI] <;> omega) | (rw [nI_eq] <;> omega) | (apply q_out <;> omega) | (apply q_nb; omega) | (apply q_n0 <;> omega)) only [M160, hM.1, q_pu, ↓if_pos, ↓if_neg, nI_add, q_sub, q_cl, p_bnd_s, p_bnd_v])
    rw [i1]
    refine congrArg some (congrArg (Prod.mk _) (congrArg (fun z => (z, 0)) (congrArg (fun z => (w.1, z, w.2.2)) (congrArg (q_r w.2.1 40) ?_))))
    funext j
    by_cases h1 : j = k
    · subst h1; rw [if_neg (by omega), if_pos rfl, if_pos (by omega)]
    · by_cases h2 : k + 1 ≤ j ∧ j < n
      · rw [if_pos h2, if_pos (by omega)]
      · rw [if_neg h2, if_neg h1, if_neg (by omega)]
theorem q_mKeep (h : q_R n wv sp x w) : ∃ w', p_ev none 160 0 [.ref 24, p_U] [] w = some (.inl none, w', 0) ∧ q_kJ w w' [27, 28, 29, 40] ∧ ∀ j, j < n → w'.2.1 40 j = q_un n wv sp 1 7 x j := by
  obtain ⟨w1, a1, a2, a3⟩ := q_mLaySamples h
  have hk := q_mKeep_l (wv := wv) h.2.1.n32 n 0 w1 (by omega) (a2.M h.1)
  refine ⟨(w1.1, q_r w1.2.1 40 (fun j => if 0 ≤ j ∧ j < n then w1.2.1 29 (32 + j) else w1.2.1 40 j), w1.2.2), ?_, ⟨a2.1, a2.2.1, fun b hb => ?_⟩, fun j hj => ?_⟩
  · (conv => lhs; simp (disch := first | assumption | omega | (rw [nI_leI] <;> omega) | (rw [nI_ltI] <;> omega) | (rw [nI_eq] <;> omega) | (apply q_out <;> omega) | (apply q_nb; omega) | (apply q_n0 <;> omega)) only [M160, a1, ↓if_pos, ↓if_neg, nI_add, q_sub, q_cl, p_bnd_s, p_bnd_v])
    exact hk
  · dsimp only
    rw [q_r_n (by simp at hb; omega)]
    exact a2.2.2 b (by simp at hb ⊢; omega)
  · dsimp only
    rw [q_r_s, if_pos ⟨Nat.zero_le j, hj⟩]
    exact a3 j hj
theorem q_mBits (h : q_R n wv sp x w) (hpy : q_py sp = true) (hns : q_ns n x) : q_ZM w n wv sp x (p_ev none 155 0 [.ref 24] [] w) (.int (nI (q_CD n sp x).length)) 0 := by
  have e10 : ¬ nI 1 = nI 0 := by decide
  have hp := q_mPyr0 (h.th (k := nI 0))
  rw [hpy, Bool.toNat_true] at hp
  obtain ⟨w1, a1, a2, a3, a4⟩ := q_mLayCode (h.th (k := nI 0)) hpy hns
  refine ⟨w1, ?_, a2.R h.th, by rw [a2.t4]; rfl, q_th_FM.tr a2.fm⟩
  (conv => lhs; simp (disch := first | assumption | omega | (rw [nI_leI] <;> omega) | (rw [nI_ltI] <;> omega) | (rw [nI_eq] <;> omega) | (apply q_out <;> omega) | (apply q_nb; omega) | (apply q_n0 <;> omega)) only [M155, ↓q_th_r, hp, a1, a4.1, ↓if_pos, ↓if_neg, nI_add, q_sub, q_cl, p_bnd_s, p_bnd_v])
theorem q_mBits_s (h : q_R n wv sp x w) (hpy : ¬ q_py sp = true) : q_ZTi w n wv sp x (p_ev none 155 0 [.ref 24] [] w) 1 := by
  have hp := q_mPyr0 (h.th (k := nI 0))
  rw [Bool.eq_false_iff.mpr hpy, Bool.toNat_false] at hp
  refine q_ZTi0 h ?_
  (conv => lhs; simp (disch := first | assumption | omega | (rw [nI_leI] <;> omega) | (rw [nI_ltI] <;> omega) | (rw [nI_eq] <;> omega) | (apply q_out <;> omega) | (apply q_nb; omega) | (apply q_n0 <;> omega)) only [M155, ↓q_th_r, hp, q_mFails, q_th_th, ↓if_pos, ↓if_neg, nI_add, q_sub, q_cl, p_bnd_s, p_bnd_v])
theorem q_mBitAt_s (h : q_R n wv sp x w) (hpy : ¬ q_py sp = true) {a : Int32} : q_ZTi w n wv sp x (p_ev none 156 0 [.ref 24, .int a] [] w) 1 := by
  have hp := q_mPyr0 (h.th (k := nI 0))
  rw [Bool.eq_false_iff.mpr hpy, Bool.toNat_false] at hp
  refine q_ZTi0 h ?_
  (conv => lhs; simp (disch := first | assumption | omega | (rw [nI_leI] <;> omega) | (rw [nI_ltI] <;> omega) | (rw [nI_eq] <;> omega) | (apply q_out <;> omega) | (apply q_nb; omega) | (apply q_n0 <;> omega)) only [M156, ↓q_th_r, hp, q_mFails, q_th_th, ↓if_pos, ↓if_neg, nI_add, q_sub, q_cl, p_bnd_s, p_bnd_v])
theorem q_mBitAt (h : q_R n wv sp x w) (hpy : q_py sp = true) (hns : q_ns n x) (a : Int32) : if q_pt (q_CD n sp x).length a < (q_CD n sp x).length then q_ZM w n wv sp x (p_ev none 156 0 [.ref 24, .int a] [] w) (.int (nI ((q_CD n sp x).getD (q_pt (q_CD n sp x).length a) (0, 0, 0, 0)).2.1)) 0 else q_ZTi w n wv sp x (p_ev none 156 0 [.ref 24, .int a] [] w) 2 := by
  have e10 : ¬ nI 1 = nI 0 := by decide
  have hp := q_mPyr0 (h.th (k := nI 0))
  rw [hpy, Bool.toNat_true] at hp
  obtain ⟨w1, a1, a2, a3, a4⟩ := q_mLayCode (h.th (k := nI 0)) hpy hns
  have hR1 : q_R n wv sp x w1 := a2.R h.th
  have hl : (q_CD n sp x).length ≤ 4038 := q_cd_len h.2.1.n32
  have h18 := a4.1
  have hF : q_FM w w1 := q_th_FM.tr a2.fm
  have hin := q_in_pt2 (m := (q_CD n sp x).length) (by omega) a
  by_cases ha : q_pt (q_CD n sp x).length a < (q_CD n sp x).length
  · rw [if_pos ha]
    have hd := decide_eq_true (hin.mpr ha)
    refine ⟨w1, ?_, hR1, by rw [a2.t4]; rfl, hF⟩
    rcases q_pt_c (m := (q_CD n sp x).length) (by omega) a with ⟨h5, h6⟩ | ⟨j, h5, rfl, h6⟩
    · omega
    · rw [h6]
      have hb := (a4.2 j _ (List.getElem?_eq_getElem h5)).1
      (conv => lhs; simp (disch := first | assumption | omega | (rw [nI_leI] <;> omega) | (rw [nI_ltI] <;> omega) | (rw [nI_eq] <;> omega) | (apply q_out <;> omega)) only [M156, ↓q_th_r, hp, a1, h18, q_mIn, hd, Bool.toNat_true, hb, ↓if_pos, ↓if_neg, nI_add, q_cl, p_bnd_s, p_bnd_v])
      rw [List.getD_eq_getElem?_getD, List.getElem?_eq_getElem h5]
      rfl
  · rw [if_neg ha]
    have hd := decide_eq_false (fun z => ha (hin.mp z))
    refine ⟨q_th (nI 2) w1, ?_, hR1.th, q_th_4, hF.tr q_th_FM⟩
    (conv => lhs; simp (disch := first | assumption | omega | (rw [nI_leI] <;> omega) | (rw [nI_ltI] <;> omega) | (rw [nI_eq] <;> omega) | (apply q_out <;> omega)) only [M156, ↓q_th_r, hp, a1, h18, q_mIn, hd, Bool.toNat_false, q_mFails, ↓if_pos, ↓if_neg, nI_add, q_cl, p_bnd_s, p_bnd_v])
theorem q_mBB_s (h : q_R n wv sp x w) (hpy : ¬ q_py sp = true) {a b : Int32} : q_ZTl w n wv sp x (p_ev none 158 0 [.ref 24, .int a, .int b] [] w) 1 := by
  have hp := q_mPyr0 (h.th (k := nI 0))
  rw [Bool.eq_false_iff.mpr hpy, Bool.toNat_false] at hp
  refine q_ZTl0 h ?_
  (conv => lhs; simp (disch := first | assumption | omega | (rw [nI_leI] <;> omega) | (rw [nI_ltI] <;> omega) | (rw [nI_eq] <;> omega) | (apply q_out <;> omega) | (apply q_nb; omega) | (apply q_n0 <;> omega)) only [M158, ↓q_th_r, hp, q_mFails, q_th_th, ↓if_pos, ↓if_neg, nI_add, q_sub, q_cl, p_bnd_s, p_bnd_v])
theorem q_mBB_n (h : q_R n wv sp x w) (hpy : q_py sp = true) {a b : Int32} (ha : ¬ nI 0 ≤ a) : q_ZTl w n wv sp x (p_ev none 158 0 [.ref 24, .int a, .int b] [] w) 2 := by
  have e10 : ¬ nI 1 = nI 0 := by decide
  have hp := q_mPyr0 (h.th (k := nI 0))
  rw [hpy, Bool.toNat_true] at hp
  refine q_ZTl0 h ?_
  (conv => lhs; simp (disch := first | assumption | omega | (rw [nI_leI] <;> omega) | (rw [nI_ltI] <;> omega) | (rw [nI_eq] <;> omega) | (apply q_out <;> omega) | (apply q_nb; omega) | (apply q_n0 <;> omega)) only [M158, ↓q_th_r, hp, q_mFails, q_th_th, ↓if_pos, ↓if_neg, nI_add, q_sub, q_cl, p_bnd_s, p_bnd_v])
theorem q_mBB_p (h : q_R n wv sp x w) (hpy : q_py sp = true) {a b : Int32} (ha : nI 0 ≤ a) (hb : ¬ q_pt n b < n) : q_ZTl w n wv sp x (p_ev none 158 0 [.ref 24, .int a, .int b] [] w) 3 := by
  have e10 : ¬ nI 1 = nI 0 := by decide
  have e00 : ¬ ¬ nI 0 = nI 0 := by decide
  have hp := q_mPyr0 (h.th (k := nI 0))
  rw [hpy, Bool.toNat_true] at hp
  have hn1 := h.2.1.n1
  have hn := h.2.1.n32
  have hl := (h.th (k := nI 0)).1.1
  have hd := decide_eq_false (fun z => hb ((q_in_pt hn1 (show n < 2 ^ 31 by omega) b).mp z))
  refine q_ZTl0 h ?_
  (conv => lhs; simp (disch := first | assumption | omega | (rw [nI_leI] <;> omega) | (rw [nI_ltI] <;> omega) | (rw [nI_eq] <;> omega) | (apply q_out <;> omega) | (apply q_nb; omega) | (apply q_n0 <;> omega)) only [M158, ↓q_th_r, hp, hl, q_mIn, hd, Bool.toNat_false, q_mFails, q_th_th, ↓if_pos, ↓if_neg, nI_add, q_sub, q_cl, p_bnd_s, p_bnd_v])
theorem q_mBB (h : q_R n wv sp x w) (hpy : q_py sp = true) (hns : q_ns n x) {B j : Nat} (hB : B < 2 ^ 31) (hj : j < n) : q_ZM w n wv sp x (p_ev none 158 0 [.ref 24, .int (nI B), .int (nI j)] [] w) (.long (q_un n wv sp 1 7 (q_td (q_CD n sp x) x (min B (q_CD n sp x).length)) j)) 0 := by
  have e10 : ¬ nI 1 = nI 0 := by decide
  have hp := q_mPyr0 (h.th (k := nI 0))
  rw [hpy, Bool.toNat_true] at hp
  have hn1 := h.2.1.n1
  have hn := h.2.1.n32
  have hl := (h.th (k := nI 0)).1.1
  have ha : nI 0 ≤ nI B := by rw [nI_leI (by omega) hB]; omega
  have hb : q_pt n (nI j) < n := by rw [q_pt_n hj (by omega)]; exact hj
  have hd := decide_eq_true ((q_in_pt hn1 (show n < 2 ^ 31 by omega) (nI j)).mpr hb)
  obtain ⟨w1, a1, a2, _, a4, a5, a6, _⟩ := q_mLearnFirst (h.th (k := nI 0)) hpy hns hB
  refine ⟨w1, ?_, a2.1, by rw [a6]; rfl, q_th_FM.tr a5⟩
  (conv => lhs; simp (disch := first | assumption | omega | (rw [nI_leI] <;> omega) | (rw [nI_ltI] <;> omega) | (rw [nI_eq] <;> omega) | (apply q_out <;> omega) | (apply q_nb; omega) | (apply q_n0 <;> omega)) only [M158, ↓q_th_r, hp, hl, q_mIn, hd, Bool.toNat_true, a1, ↓if_pos, ↓if_neg, nI_add, q_sub, q_cl, p_bnd_s, p_bnd_v])
  rw [a4 j hj]
theorem q_mEW_s (h : q_R n wv sp x w) (hpy : ¬ q_py sp = true) {a : Int32} : q_ZTl w n wv sp x (p_ev none 161 0 [.ref 24, .int a] [] w) 1 := by
  have hp := q_mPyr0 (h.th (k := nI 0))
  rw [Bool.eq_false_iff.mpr hpy, Bool.toNat_false] at hp
  refine q_ZTl0 h ?_
  (conv => lhs; simp (disch := first | assumption | omega | (rw [nI_leI] <;> omega) | (rw [nI_ltI] <;> omega) | (rw [nI_eq] <;> omega) | (apply q_out <;> omega) | (apply q_nb; omega) | (apply q_n0 <;> omega)) only [M161, ↓q_th_r, hp, q_mFails, q_th_th, ↓if_pos, ↓if_neg, nI_add, q_sub, q_cl, p_bnd_s, p_bnd_v])
theorem q_mEW_n (h : q_R n wv sp x w) (hpy : q_py sp = true) {a : Int32} (ha : ¬ nI 0 ≤ a) : q_ZTl w n wv sp x (p_ev none 161 0 [.ref 24, .int a] [] w) 2 := by
  have e10 : ¬ nI 1 = nI 0 := by decide
  have hp := q_mPyr0 (h.th (k := nI 0))
  rw [hpy, Bool.toNat_true] at hp
  refine q_ZTl0 h ?_
  (conv => lhs; simp (disch := first | assumption | omega | (rw [nI_leI] <;> omega) | (rw [nI_ltI] <;> omega) | (rw [nI_eq] <;> omega) | (apply q_out <;> omega) | (apply q_nb; omega) | (apply q_n0 <;> omega)) only [M161, ↓q_th_r, hp, q_mFails, q_th_th, ↓if_pos, ↓if_neg, nI_add, q_sub, q_cl, p_bnd_s, p_bnd_v])
theorem q_mEW (h : q_R n wv sp x w) (hpy : q_py sp = true) (hns : q_ns n x) {B : Nat} (hB : B < 2 ^ 31) : q_ZM w n wv sp x (p_ev none 161 0 [.ref 24, .int (nI B)] [] w) (.long (q_eb n wv sp x (min B (q_CD n sp x).length))) 0 := by
  have e10 : ¬ nI 1 = nI 0 := by decide
  have hp := q_mPyr0 (h.th (k := nI 0))
  rw [hpy, Bool.toNat_true] at hp
  have ha : nI 0 ≤ nI B := by rw [nI_leI (by omega) hB]; omega
  obtain ⟨w1, b1, b2, b3⟩ := q_mKeep (h.th (k := nI 0))
  have hR1 := (h.th (k := nI 0)).kj b2 (by simp)
  obtain ⟨w2, a1, a2, _, a4, a5, a6, a7⟩ := q_mLearnFirst hR1 hpy hns hB
  have he := q_mErrP a2 a4 (fun j hj => by rw [a7]; exact b3 j hj)
  refine ⟨w2, ?_, a2.1, by rw [a6, b2.1]; rfl, (q_th_FM.tr (b2.fm (by simp))).tr a5⟩
  (conv => lhs; simp (disch := first | assumption | omega | (rw [nI_leI] <;> omega) | (rw [nI_ltI] <;> omega) | (rw [nI_eq] <;> omega) | (apply q_out <;> omega) | (apply q_nb; omega) | (apply q_n0 <;> omega)) only [M161, ↓q_th_r, hp, b1, a1, he, ↓if_pos, ↓if_neg, nI_add, q_sub, q_cl, p_bnd_s, p_bnd_v])
theorem q_mBF_s (h : q_R n wv sp x w) (hpy : ¬ q_py sp = true) {a : Int32} : q_ZTi w n wv sp x (p_ev none 162 0 [.ref 24, .int a, p_U] [] w) 1 := by
  have hp := q_mPyr0 (h.th (k := nI 0))
  rw [Bool.eq_false_iff.mpr hpy, Bool.toNat_false] at hp
  refine q_ZTi0 h ?_
  (conv => lhs; simp (disch := first | assumption | omega | (rw [nI_leI] <;> omega) | (rw [nI_ltI] <;> omega) | (rw [nI_eq] <;> omega) | (apply q_out <;> omega) | (apply q_nb; omega) | (apply q_n0 <;> omega)) only [M162, ↓q_th_r, hp, q_mFails, q_th_th, ↓if_pos, ↓if_neg, nI_add, q_sub, q_cl, p_bnd_s, p_bnd_v])
theorem q_mBF_n (h : q_R n wv sp x w) (hpy : q_py sp = true) {a : Int32} (ha : ¬ nI 0 ≤ a) : q_ZTi w n wv sp x (p_ev none 162 0 [.ref 24, .int a, p_U] [] w) 2 := by
  have e10 : ¬ nI 1 = nI 0 := by decide
  have hp := q_mPyr0 (h.th (k := nI 0))
  rw [hpy, Bool.toNat_true] at hp
  refine q_ZTi0 h ?_
  (conv => lhs; simp (disch := first | assumption | omega | (rw [nI_leI] <;> omega) | (rw [nI_ltI] <;> omega) | (rw [nI_eq] <;> omega) | (apply q_out <;> omega) | (apply q_nb; omega) | (apply q_n0 <;> omega)) only [M162, ↓q_th_r, hp, q_mFails, q_th_th, ↓if_pos, ↓if_neg, nI_add, q_sub, q_cl, p_bnd_s, p_bnd_v])
theorem q_er_z {y : Nat → Int64} : ∀ m, q_er y y m = lN 0
  | 0 => rfl
  | m + 1 => by
    rw [q_er, q_er_z m, Int64.sub_self]; rfl
theorem q_eb_end (hT : q_T n sp) (hns : q_ns n x) : q_eb n wv sp x (q_CD n sp x).length = lN 0 := by
  unfold q_eb q_CD
  have hf := q_td_full (lo := q_wd n (q_lw sp)) hns (fun e he => (q_cd_b hT.n1 e he).1)
  rw [q_er_cg (x' := q_un n wv sp 1 7 x) (y := q_un n wv sp 1 7 (q_td (q_cd n (q_wd n (q_lw sp)) x) x (q_cd n (q_wd n (q_lw sp)) x).length)) (y' := q_un n wv sp 1 7 x) n (fun _ _ => rfl) (fun j hj => q_un_cg (m := n) hT (Nat.le_refl _) 7 (Nat.le_refl _) _ _ hf j hj), q_er_z]
theorem q_mBF_l (hpy : q_py sp = true) (hns : q_ns n x) {a : Int32} (ha : nI 0 ≤ a) : ∀ (d k : Nat) (w : pW), k + d = (q_CD n sp x).length → q_PM n wv sp x w → q_St n (q_sk2 n sp x k) w → q_tr n wv sp x k w → (∀ j, j < n → w.2.1 40 j = q_un n wv sp 1 7 x j) → ∃ w', p_ev none 162 39 [.ref 24, .int a, .int (nI k)] [] w = some (.inl (some (.int (nI (q_bf n wv sp x a d k)))), w', 0) ∧ q_PM n wv sp x w' ∧ q_FM w w' ∧ w'.1 24 4 = w.1 24 4 := by
  have h0a : (0 : Int64) ≤ a.toInt64 := by
    obtain ⟨j, j1, rfl⟩ := nI_of (x := a) (Int32.not_lt.mpr ha)
    rw [nI_l j1]
    exact (pk_lLE (a := 0) (by omega) (by omega)).mpr (Nat.zero_le _)
  intro d
  induction d with
  | zero =>
    intro k w hk hP hst ht hs
    rw [Nat.add_zero] at hk
    have he := q_mErrP hP ht hs
    rw [hk, q_eb_end hP.1.2.1 hns] at he
    have h46 : lg_cmp (lN 0) a.toInt64 ≤ nI 0 := q_cmpE.mpr h0a
    refine ⟨w, ?_, hP, q_FM.rf, rfl⟩
    rw [H162_39, q_bf]
    (conv => lhs; simp (disch := first | assumption | omega | (rw [nI_leI] <;> omega) | (rw [nI_ltI] <;> omega) | (rw [nI_eq] <;> omega) | (apply q_out <;> omega) | (apply q_nb; omega) | (apply q_n0 <;> omega)) only [M162, he, ↓if_pos, ↓if_neg, nI_add, q_sub, q_cl, p_bnd_s, p_bnd_v])
  | succ d ih =>
    intro k w hk hP hst ht hs
    have he := q_mErrP hP ht hs
    rw [H162_39, q_bf]
    by_cases hx : a.toInt64 < q_eb n wv sp x k
    · have h46 : ¬ lg_cmp (q_eb n wv sp x k) a.toInt64 ≤ nI 0 := fun z => absurd hx (Int64.not_lt.mpr (q_cmpE.mp z))
      obtain ⟨w1, a1, a2, a3, a4⟩ := q_mLearnP hP (show k < (q_CD n sp x).length by omega) hst
      obtain ⟨w2, b1, b2, b3, b4, b5⟩ := q_mLB a2 hpy hns (show k + 1 ≤ (q_CD n sp x).length by omega) a3
      obtain ⟨w', c1, c2, c3, c4⟩ := ih (k + 1) w2 (by omega) b2 b3 b4 (fun j hj => by rw [b5.2.2 40 (by simp), a4.2.1 40 (by decide)]; exact hs j hj)
      refine ⟨w', ?_, c2, (a4.fm.tr (b5.fm (by simp))).tr c3, by rw [c4, b5.1, a4.1]⟩
      rw [if_pos hx]
      (conv => lhs; simp (disch := first | assumption | omega | (rw [nI_leI] <;> omega) | (rw [nI_ltI] <;> omega) | (rw [nI_eq] <;> omega) | (apply q_out <;> omega) | (apply q_nb; omega) | (apply q_n0 <;> omega)) only [M162, he, a1, b1, ↓if_pos, ↓if_neg, nI_add, q_sub, q_cl, p_bnd_s, p_bnd_v])
      exact c1
    · have h46 : lg_cmp (q_eb n wv sp x k) a.toInt64 ≤ nI 0 := q_cmpE.mpr (Int64.not_lt.mp hx)
      refine ⟨w, ?_, hP, q_FM.rf, rfl⟩
      rw [if_neg hx]
      (conv => lhs; simp (disch := first | assumption | omega | (rw [nI_leI] <;> omega) | (rw [nI_ltI] <;> omega) | (rw [nI_eq] <;> omega) | (apply q_out <;> omega) | (apply q_nb; omega) | (apply q_n0 <;> omega)) only [M162, he, ↓if_pos, ↓if_neg, nI_add, q_sub, q_cl, p_bnd_s, p_bnd_v])
theorem q_mBF (h : q_R n wv sp x w) (hpy : q_py sp = true) (hns : q_ns n x) {a : Int32} (ha : nI 0 ≤ a) : q_ZM w n wv sp x (p_ev none 162 0 [.ref 24, .int a, p_U] [] w) (.int (nI (q_bf n wv sp x a (q_CD n sp x).length 0))) 0 := by
  have e10 : ¬ nI 1 = nI 0 := by decide
  have h0 : (0 : Nat) < 2 ^ 31 := by decide
  have hp := q_mPyr0 (h.th (k := nI 0))
  rw [hpy, Bool.toNat_true] at hp
  obtain ⟨w1, b1, b2, b3⟩ := q_mKeep (h.th (k := nI 0))
  have hR1 := (h.th (k := nI 0)).kj b2 (by simp)
  obtain ⟨w2, a1, a2, a3, a4, a5, a6, a7⟩ := q_mLearnFirst hR1 hpy hns h0
  rw [Nat.zero_min] at a3 a4
  obtain ⟨w', c1, c2, c3, c4⟩ := q_mBF_l hpy hns ha (q_CD n sp x).length 0 w2 (by omega) a2 a3 a4 (fun j hj => by rw [a7]; exact b3 j hj)
  refine ⟨w', ?_, c2.1, by rw [c4, a6, b2.1]; rfl, ((q_th_FM.tr (b2.fm (by simp))).tr a5).tr c3⟩
  (conv => lhs; simp (disch := first | assumption | omega | (rw [nI_leI] <;> omega) | (rw [nI_ltI] <;> omega) | (rw [nI_eq] <;> omega) | (apply q_out <;> omega) | (apply q_nb; omega) | (apply q_n0 <;> omega)) only [M162, ↓q_th_r, hp, b1, a1, ↓if_pos, ↓if_neg, nI_add, q_sub, q_cl, p_bnd_s, p_bnd_v])
  exact c1
end Mbt
