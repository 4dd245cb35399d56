/-! THE CLASS: THE CALLS OF BITS -/
def q_CD (n : Nat) (sp : Nat → Bool) (x : Nat → Int64) : List q_ev := q_cd n (q_wd n (q_lw sp)) x
def q_py (sp : Nat → Bool) : Bool := !(sp 3) && !(sp 5) && !(sp 7)
/-- the class throws E and keeps its state -/
def q_Zx (w : pW) (n wv : Nat) (sp : Nat → Bool) (x : Nat → Int64) (e : Option pR) (E : Nat) : Prop := ∃ w', e = some (.inr (.inl E), w', 1) ∧ q_K n wv sp x w' ∧ q_FC w w'
/-- the error after k bits -/
def q_eb (n wv : Nat) (sp : Nat → Bool) (x : Nat → Int64) (k : Nat) : Int64 := q_er (q_un n wv sp 1 7 x) (q_un n wv sp 1 7 (q_td (q_CD n sp x) x k)) n
def q_bf (n wv : Nat) (sp : Nat → Bool) (x : Nat → Int64) (e : Int32) : Nat → Nat → Nat
  | 0, k => k
  | d + 1, k => if e.toInt64 < q_eb n wv sp x k then q_bf n wv sp x e d (k + 1) else k
theorem q_bf_le {n wv : Nat} {sp : Nat → Bool} {x : Nat → Int64} {e : Int32} : ∀ d k, q_bf n wv sp x e d k ≤ k + d
  | 0, k => Nat.le_refl _
  | d + 1, k => by
    rw [q_bf]; split
    · have := q_bf_le (n := n) (wv := wv) (sp := sp) (x := x) (e := e) d (k + 1); omega
    · omega
theorem q_er_cg {x y x' y' : Nat → Int64} : ∀ m, (∀ j, j < m → x j = x' j) → (∀ j, j < m → y j = y' j) → q_er x y m = q_er x' y' m
  | 0, _, _ => rfl
  | m + 1, h, g => by rw [q_er, q_er, q_er_cg m (fun j hj => h j (by omega)) (fun j hj => g j (by omega)), h m (by omega), g m (by omega)]
section Bt2
variable {n wv : Nat} {sp : Nat → Bool} {x : Nat → Int64} {w : pW}
theorem q_reqPyr (h : q_C n wv sp w) : p_ev none 74 0 [.ref 0] [] w = if q_py sp = true then some (.inl none, w, 0) else some (.inr (.inl 1), w, 1) := by
  have e : ¬ nI 1 = nI 0 := by decide
  cases hp : q_py sp
  · have hp2 : (!(sp 3) && !(sp 5) && !(sp 7)) = false := hp
    (conv => lhs; simp (disch := first | assumption | omega | (rw [nI_leI] <;> omega) | (rw [nI_ltI] <;> omega) | (rw [nI_eq] <;> omega) | (apply q_out <;> omega) | (apply q_nb; omega) | (apply q_n0 <;> omega)) only [M74, q_pyr h, hp2, Bool.toNat_false, ↓if_pos, ↓if_neg, nI_add, q_sub, q_cl, p_bnd_s, p_bnd_v]); rfl
  · have hp2 : (!(sp 3) && !(sp 5) && !(sp 7)) = true := hp
    (conv => lhs; simp (disch := first | assumption | omega | (rw [nI_leI] <;> omega) | (rw [nI_ltI] <;> omega) | (rw [nI_eq] <;> omega) | (apply q_out <;> omega) | (apply q_nb; omega) | (apply q_n0 <;> omega)) only [M74, q_pyr h, hp2, Bool.toNat_true, ↓if_pos, ↓if_neg, nI_add, q_sub, q_cl, p_bnd_s, p_bnd_v]); rfl
theorem q_cBits (h : q_K n wv sp x w) (hp : q_py sp = true) : q_Z w n wv sp x (p_ev none 66 0 [.ref 0] [] w) (some (.int (nI (q_CD n sp x).length))) := by
  obtain ⟨w', a1, a2, a3⟩ := q_encode h
  refine ⟨w', ?_, a2.1, a3.fc⟩
  (conv => lhs; simp (disch := first | assumption | omega | (rw [nI_leI] <;> omega) | (rw [nI_ltI] <;> omega) | (rw [nI_eq] <;> omega) | (apply q_out <;> omega) | (apply q_nb; omega) | (apply q_n0 <;> omega)) only [M66, q_reqPyr h.1, a1, q_count a2.2.1.1, ↓if_pos, ↓if_neg, nI_add, q_sub, q_cl, p_bnd_s, p_bnd_v])
  rfl
theorem q_cBits_s (h : q_K n wv sp x w) (hp : ¬ q_py sp = true) : p_ev none 66 0 [.ref 0] [] w = some (.inr (.inl 1), w, 1) := by
  (conv => lhs; simp (disch := first | assumption | omega | (rw [nI_leI] <;> omega) | (rw [nI_ltI] <;> omega) | (rw [nI_eq] <;> omega) | (apply q_out <;> omega) | (apply q_nb; omega) | (apply q_n0 <;> omega)) only [M66, q_reqPyr h.1, ↓if_pos, ↓if_neg, nI_add, q_sub, q_cl, p_bnd_s, p_bnd_v])
  exact p_bnd_x (by decide +kernel) (by decide +kernel)
theorem q_cBitAt_s (h : q_K n wv sp x w) (hp : ¬ q_py sp = true) {a : Int32} : p_ev none 67 0 [.ref 0, .int a] [] w = some (.inr (.inl 1), w, 1) := by
  (conv => lhs; simp (disch := first | assumption | omega | (rw [nI_leI] <;> omega) | (rw [nI_ltI] <;> omega) | (rw [nI_eq] <;> omega) | (apply q_out <;> omega) | (apply q_nb; omega) | (apply q_n0 <;> omega)) only [M67, q_reqPyr h.1, ↓if_pos, ↓if_neg, nI_add, q_sub, q_cl, p_bnd_s, p_bnd_v])
  exact p_bnd_x (by decide +kernel) (by decide +kernel)
theorem q_cBitAt (h : q_K n wv sp x w) (hp : q_py sp = true) (a : Int32) : if q_pt (q_CD n sp x).length a < (q_CD n sp x).length then q_Z w n wv sp x (p_ev none 67 0 [.ref 0, .int a] [] w) (some (.int (nI ((q_CD n sp x).getD (q_pt (q_CD n sp x).length a) (0, 0, 0, 0)).2.1))) else q_Zx w n wv sp x (p_ev none 67 0 [.ref 0, .int a] [] w) 2 := by
  obtain ⟨w', a1, a2, a3⟩ := q_encode h
  have hl : (q_CD n sp x).length ≤ 4038 := q_cd_len h.2.1.n32
  have hE : q_E (q_CD n sp x) w' := a2.2.1
  rcases q_pt_c (m := (q_CD n sp x).length) (by omega) a with ⟨h5, h6⟩ | ⟨j, h5, rfl, h6⟩
  · rw [h5, if_neg (Nat.lt_irrefl _)]
    refine ⟨w', ?_, a2.1, a3.fc⟩
    rcases h6 with h6 | ⟨h6, h7⟩
    · (conv => lhs; simp (disch := first | assumption | omega | (rw [nI_leI] <;> omega) | (rw [nI_ltI] <;> omega) | (rw [nI_eq] <;> omega) | (apply q_out <;> omega) | (apply q_nb; omega) | (apply q_n0 <;> omega)) only [M67, q_reqPyr h.1, a1, ↓if_pos, ↓if_neg, nI_add, q_sub, q_cl, p_bnd_s, p_bnd_v])
    · (conv => lhs; simp (disch := first | assumption | omega | (rw [nI_leI] <;> omega) | (rw [nI_ltI] <;> omega) | (rw [nI_eq] <;> omega) | (apply q_out <;> omega) | (apply q_nb; omega) | (apply q_n0 <;> omega)) only [M67, q_reqPyr h.1, a1, q_count hE.1, ↓if_pos, ↓if_neg, nI_add, q_sub, q_cl, p_bnd_s, p_bnd_v])
  · rw [h6, if_pos h5]
    refine ⟨w', ?_, a2.1, a3.fc⟩
    have h0 : ¬ nI j < nI 0 := by rw [nI_ltI (by omega) (by omega)]; omega
    have hb := q_bit hE.1 h5 hl
    rw [(hE.2 j _ (List.getElem?_eq_getElem h5)).1] at hb
    (conv => lhs; simp (disch := first | assumption | omega | (rw [nI_leI] <;> omega) | (rw [nI_ltI] <;> omega) | (rw [nI_eq] <;> omega) | (apply q_out <;> omega) | (apply q_nb; omega) | (apply q_n0 <;> omega)) only [M67, q_reqPyr h.1, a1, q_count hE.1, hb, ↓if_pos, ↓if_neg, nI_add, q_sub, q_cl, p_bnd_s, p_bnd_v])
    rw [List.getD_eq_getElem?_getD, List.getElem?_eq_getElem h5]
    rfl
theorem q_bringP (h : q_P n wv sp x w) {T : Nat → Int64} (hT : ∀ j, j < 32 → w.2.1 13 j = T j) : ∃ w', p_ev none 92 0 [.ref 0] [] w = some (.inl none, w', 0) ∧ (∀ j, j < n → w'.2.1 14 j = q_un n wv sp 1 7 T j) ∧ (∀ j, j < 32 → w'.2.1 13 j = T j) ∧ w'.2.1 12 = w.2.1 12 ∧ q_V 13 w w' := by
  obtain ⟨M, hM⟩ := q_bring h.1.1 h.1.2.1
  have hn := h.1.2.1.n32
  refine ⟨_, hM, fun j hj => ?_, fun j hj => ?_, ?_, rfl, rfl, fun a ha => ?_⟩
  · dsimp only
    rw [q_r_s]
    exact q_un_cg (m := 32) h.1.2.1 hn 7 (Nat.le_refl 7) _ _ (fun i hi => by rw [if_pos hi]; exact hT i hi) j (by omega)
  · dsimp only
    rw [q_r_n (by decide), q_r_n (by decide)]; exact hT j hj
  · dsimp only
    rw [q_r_n (by decide), q_r_n (by decide)]
  · dsimp only
    rw [q_r_n (by omega), q_r_n (by omega)]
theorem q_gatherP (h : q_P n wv sp x w) : ∃ w', p_ev none 87 0 [.ref 0] [] w = some (.inl none, w', 0) ∧ (∀ j, j < n → w'.2.1 12 j = q_un n wv sp 1 7 x j) ∧ q_V 12 w w' := by
  obtain ⟨M, hM⟩ := q_gather h.1.1 h.1.2.1
  have hn := h.1.2.1.n32
  refine ⟨_, hM, fun j hj => ?_, rfl, rfl, fun a ha => ?_⟩
  · dsimp only
    rw [q_r_s]
    exact q_un_cg (m := 32) h.1.2.1 hn 7 (Nat.le_refl 7) _ _ (fun i hi => by rw [if_pos hi, h.1.2.2]) j (by omega)
  · dsimp only
    rw [q_r_n (by omega), q_r_n (by omega)]
theorem q_cBack_s (h : q_K n wv sp x w) (hp : ¬ q_py sp = true) {a b : Int32} : p_ev none 68 0 [.ref 0, .int a, .int b] [] w = some (.inr (.inl 1), w, 1) := by
  (conv => lhs; simp (disch := first | assumption | omega | (rw [nI_leI] <;> omega) | (rw [nI_ltI] <;> omega) | (rw [nI_eq] <;> omega) | (apply q_out <;> omega) | (apply q_nb; omega) | (apply q_n0 <;> omega)) only [M68, q_reqPyr h.1, ↓if_pos, ↓if_neg, nI_add, q_sub, q_cl, p_bnd_s, p_bnd_v])
  exact p_bnd_x (by decide +kernel) (by decide +kernel)
theorem q_cBack_n (h : q_K n wv sp x w) (hp : q_py sp = true) {a b : Int32} (ha : ¬ nI 0 ≤ a) : p_ev none 68 0 [.ref 0, .int a, .int b] [] w = some (.inr (.inl 0), w, 1) := by
  (conv => lhs; simp (disch := first | assumption | omega | (rw [nI_leI] <;> omega) | (rw [nI_ltI] <;> omega) | (rw [nI_eq] <;> omega) | (apply q_out <;> omega) | (apply q_nb; omega) | (apply q_n0 <;> omega)) only [M68, q_reqPyr h.1, q_reqNN, ↓if_pos, ↓if_neg, nI_add, q_sub, q_cl, p_bnd_s, p_bnd_v])
  exact p_bnd_x (by decide +kernel) (by decide +kernel)
theorem q_cBack_p (h : q_K n wv sp x w) (hp : q_py sp = true) {a b : Int32} (ha : nI 0 ≤ a) (hb : ¬ q_pt n b < n) : p_ev none 68 0 [.ref 0, .int a, .int b] [] w = some (.inr (.inl 2), w, 1) := by
  (conv => lhs; simp (disch := first | assumption | omega | (rw [nI_leI] <;> omega) | (rw [nI_ltI] <;> omega) | (rw [nI_eq] <;> omega) | (apply q_out <;> omega) | (apply q_nb; omega) | (apply q_n0 <;> omega)) only [M68, q_reqPyr h.1, q_reqNN, q_reqPlace h.1, ↓if_pos, ↓if_neg, nI_add, q_sub, q_cl, p_bnd_s, p_bnd_v])
  exact p_bnd_x (by decide +kernel) (by decide +kernel)
theorem q_cBack (h : q_K n wv sp x w) (hp : q_py sp = true) {B j : Nat} (hB : B < 2 ^ 31) (hj : j < n) : q_Z w n wv sp x (p_ev none 68 0 [.ref 0, .int (nI B), .int (nI j)] [] w) (some (.long (q_un n wv sp 1 7 (q_td (q_CD n sp x) x (min B (q_CD n sp x).length)) j))) := by
  have hr7 : p_rw 7 := ⟨rfl, rfl⟩
  have hn := h.2.1.n32
  have ha : nI 0 ≤ nI B := by rw [nI_leI (by omega) hB]; omega
  have hb : q_pt n (nI j) < n := by rw [q_pt_n hj (by omega)]; exact hj
  obtain ⟨w1, a1, a2, a3⟩ := q_encode h
  obtain ⟨w2, b1, b2, b3⟩ := q_readFirst a2 hB
  obtain ⟨w3, c1, c2, _, _, c3⟩ := q_bringP (a2.v (by omega) b3) b2
  refine ⟨w3, ?_, ((a2.v (by omega) b3).v (by omega) c3).1, (a3.fc.tr b3.fc).tr c3.fc⟩
  (conv => lhs; simp (disch := first | assumption | omega | (rw [nI_leI] <;> omega) | (rw [nI_ltI] <;> omega) | (rw [nI_eq] <;> omega) | (apply q_out <;> omega) | (apply q_nb; omega) | (apply q_n0 <;> omega)) only [M68, q_reqPyr h.1, q_reqNN, q_reqPlace h.1, a1, b1, c1, q_get hr7, ↓if_pos, ↓if_neg, nI_add, q_sub, q_cl, p_bnd_s, p_bnd_v])
  rw [c2 j hj]
  rfl
theorem q_cErr_s (h : q_K n wv sp x w) (hp : ¬ q_py sp = true) {a : Int32} : p_ev none 69 0 [.ref 0, .int a] [] w = some (.inr (.inl 1), w, 1) := by
  (conv => lhs; simp (disch := first | assumption | omega | (rw [nI_leI] <;> omega) | (rw [nI_ltI] <;> omega) | (rw [nI_eq] <;> omega) | (apply q_out <;> omega) | (apply q_nb; omega) | (apply q_n0 <;> omega)) only [M69, q_reqPyr h.1, ↓if_pos, ↓if_neg, nI_add, q_sub, q_cl, p_bnd_s, p_bnd_v])
  exact p_bnd_x (by decide +kernel) (by decide +kernel)
theorem q_cErr_n (h : q_K n wv sp x w) (hp : q_py sp = true) {a : Int32} (ha : ¬ nI 0 ≤ a) : p_ev none 69 0 [.ref 0, .int a] [] w = some (.inr (.inl 0), w, 1) := by
  (conv => lhs; simp (disch := first | assumption | omega | (rw [nI_leI] <;> omega) | (rw [nI_ltI] <;> omega) | (rw [nI_eq] <;> omega) | (apply q_out <;> omega) | (apply q_nb; omega) | (apply q_n0 <;> omega)) only [M69, q_reqPyr h.1, q_reqNN, ↓if_pos, ↓if_neg, nI_add, q_sub, q_cl, p_bnd_s, p_bnd_v])
  exact p_bnd_x (by decide +kernel) (by decide +kernel)
theorem q_errP (h : q_P n wv sp x w) {k : Nat} (h2 : ∀ j, j < n → w.2.1 12 j = q_un n wv sp 1 7 x j) (h4 : ∀ j, j < n → w.2.1 14 j = q_un n wv sp 1 7 (q_td (q_CD n sp x) x k) j) : p_ev none 93 0 [.ref 0, p_U, p_U, p_U] [] w = some (.inl (some (.long (q_eb n wv sp x k))), w, 0) := by
  rw [q_err h.1.1 h.1.2.1, q_er_cg n h2 h4]
  rfl
theorem q_cErr (h : q_K n wv sp x w) (hp : q_py sp = true) {B : Nat} (hB : B < 2 ^ 31) : q_Z w n wv sp x (p_ev none 69 0 [.ref 0, .int (nI B)] [] w) (some (.long (q_eb n wv sp x (min B (q_CD n sp x).length)))) := by
  have ha : nI 0 ≤ nI B := by rw [nI_leI (by omega) hB]; omega
  obtain ⟨w1, a1, a2, a3⟩ := q_encode h
  obtain ⟨w2, g1, g2, g3⟩ := q_gatherP a2
  have hP2 := a2.v (by omega) g3
  obtain ⟨w3, b1, b2, b3⟩ := q_readFirst hP2 hB
  have hP3 := hP2.v (by omega) b3
  obtain ⟨w4, c1, c2, _, c4, c3⟩ := q_bringP hP3 b2
  have hP4 := hP3.v (by omega) c3
  refine ⟨w4, ?_, hP4.1, ((a3.fc.tr g3.fc).tr b3.fc).tr c3.fc⟩
  have he := q_errP hP4 (k := min B (q_CD n sp x).length) (fun j hj => by rw [c4, b3.2.2 12 (by omega)]; exact g2 j hj) c2
  (conv => lhs; simp (disch := first | assumption | omega | (rw [nI_leI] <;> omega) | (rw [nI_ltI] <;> omega) | (rw [nI_eq] <;> omega) | (apply q_out <;> omega) | (apply q_nb; omega) | (apply q_n0 <;> omega)) only [M69, q_reqPyr h.1, q_reqNN, a1, g1, b1, c1, he, ↓if_pos, ↓if_neg, nI_add, q_sub, q_cl, p_bnd_s, p_bnd_v])
theorem q_cBitsFor_s (h : q_K n wv sp x w) (hp : ¬ q_py sp = true) {a : Int32} : p_ev none 70 0 [.ref 0, .int a, p_U, p_U, p_U] [] w = some (.inr (.inl 1), w, 1) := by
  (conv => lhs; simp (disch := first | assumption | omega | (rw [nI_leI] <;> omega) | (rw [nI_ltI] <;> omega) | (rw [nI_eq] <;> omega) | (apply q_out <;> omega) | (apply q_nb; omega) | (apply q_n0 <;> omega)) only [M70, q_reqPyr h.1, ↓if_pos, ↓if_neg, nI_add, q_sub, q_cl, p_bnd_s, p_bnd_v])
  exact p_bnd_x (by decide +kernel) (by decide +kernel)
theorem q_cBitsFor_n (h : q_K n wv sp x w) (hp : q_py sp = true) {a : Int32} (ha : ¬ nI 0 ≤ a) : p_ev none 70 0 [.ref 0, .int a, p_U, p_U, p_U] [] w = some (.inr (.inl 0), w, 1) := by
  (conv => lhs; simp (disch := first | assumption | omega | (rw [nI_leI] <;> omega) | (rw [nI_ltI] <;> omega) | (rw [nI_eq] <;> omega) | (apply q_out <;> omega) | (apply q_nb; omega) | (apply q_n0 <;> omega)) only [M70, q_reqPyr h.1, q_reqNN, ↓if_pos, ↓if_neg, nI_add, q_sub, q_cl, p_bnd_s, p_bnd_v])
  exact p_bnd_x (by decide +kernel) (by decide +kernel)
theorem q_bf_l {a : Int32} : ∀ (d k : Nat) (w : pW), k + d = (q_CD n sp x).length → q_P n wv sp x w → (∀ j, j < n → w.2.1 12 j = q_un n wv sp 1 7 x j) → (∀ j, j < 32 → w.2.1 13 j = q_td (q_CD n sp x) x k j) → ∃ w', p_ev none 70 34 [.ref 0, .int a, .long (q_eb n wv sp x k), p_U, .int (nI k)] [] w = some (.inl (some (.int (nI (q_bf n wv sp x a d k)))), w', 0) ∧ q_V 13 w w' := by
  intro d
  induction d with
  | zero =>
    intro k w hk hP h12 h13
    refine ⟨w, ?_, q_V.rf⟩
    have hl : (q_CD n sp x).length ≤ 4038 := q_cd_len hP.1.2.1.n32
    have hc : (q_CD n sp x).length ≤ k := by omega
    have hE : q_E (q_CD n sp x) w := hP.2.1
    rw [H70_34]
    (conv => lhs; simp (disch := first | assumption | omega | (rw [nI_leI] <;> omega) | (rw [nI_ltI] <;> omega) | (rw [nI_eq] <;> omega) | (apply q_out <;> omega) | (apply q_nb; omega) | (apply q_n0 <;> omega)) only [M70, q_count hE.1, ↓if_pos, ↓if_neg, nI_add, q_sub, q_cl, p_bnd_s, p_bnd_v])
    rfl
  | succ d ih =>
    intro k w hk hP h12 h13
    have hn := hP.1.2.1.n32
    have hl : (q_CD n sp x).length ≤ 4038 := q_cd_len hn
    have hE : q_E (q_CD n sp x) w := hP.2.1
    have hk2 : k < (q_CD n sp x).length := by omega
    by_cases hx : a.toInt64 < q_eb n wv sp x k
    · have hx1 : ¬ lg_cmp (q_eb n wv sp x k) a.toInt64 ≤ nI 0 := fun z => absurd hx (Int64.not_lt.mpr (q_cmpE.mp z))
      rw [q_bf, if_pos hx]
      have hge := List.getElem?_eq_getElem hk2
      obtain ⟨w1, a1, a2, a3, a4⟩ := q_tellE (c := 0) hE hl hge (q_cd_ok hn _ (List.getElem_mem hk2)) hP.2.2 h13
      by_cases h2 : 2 ≤ ((q_CD n sp x)[k]).1
      · rw [decide_eq_true h2, Bool.toNat_true] at a1
        have hP1 := hP.v (by omega) a3
        obtain ⟨w2, c1, c2, c5, c4, c3⟩ := q_bringP hP1 a2
        have hP2 := hP1.v (by omega) c3
        have h122 : ∀ j, j < n → w2.2.1 12 j = q_un n wv sp 1 7 x j := fun j hj => by rw [c4, a3.2.2 12 (by omega)]; exact h12 j hj
        have he := q_errP hP2 h122 c2
        obtain ⟨w', e1, e2⟩ := ih (k + 1) w2 (by omega) hP2 h122 c5
        refine ⟨w', ?_, (a3.tr c3).tr e2⟩
        have e0 : ¬ nI 1 = nI 0 := by decide
        rw [H70_34]
        (conv => lhs; simp (disch := first | assumption | omega | (rw [nI_leI] <;> omega) | (rw [nI_ltI] <;> omega) | (rw [nI_eq] <;> omega) | (apply q_out <;> omega) | (apply q_nb; omega) | (apply q_n0 <;> omega)) only [M70, q_count hE.1, a1, c1, he, ↓if_pos, ↓if_neg, nI_add, q_sub, q_cl, p_bnd_s, p_bnd_v])
        exact e1
      · rw [decide_eq_false h2, Bool.toNat_false, a4 h2] at a1
        rw [a4 h2] at a2
        have hsame : q_eb n wv sp x (k + 1) = q_eb n wv sp x k := by
          unfold q_eb
          have : q_td (q_CD n sp x) x (k + 1) = q_td (q_CD n sp x) x k := by
            funext j
            rw [q_td, hge]
            dsimp only
            rw [if_neg (fun z => h2 z.1)]
          rw [this]
        obtain ⟨w', e1, e2⟩ := ih (k + 1) w (by omega) hP h12 a2
        rw [hsame] at e1
        refine ⟨w', ?_, e2⟩
        rw [H70_34]
        (conv => lhs; simp (disch := first | assumption | omega | (rw [nI_leI] <;> omega) | (rw [nI_ltI] <;> omega) | (rw [nI_eq] <;> omega) | (apply q_out <;> omega) | (apply q_nb; omega) | (apply q_n0 <;> omega)) only [M70, q_count hE.1, a1, ↓if_pos, ↓if_neg, nI_add, q_sub, q_cl, p_bnd_s, p_bnd_v])
        exact e1
    · have hx1 : lg_cmp (q_eb n wv sp x k) a.toInt64 ≤ nI 0 := q_cmpE.mpr (Int64.not_lt.mp hx)
      rw [q_bf, if_neg hx]
      refine ⟨w, ?_, q_V.rf⟩
      rw [H70_34]
      (conv => lhs; simp (disch := first | assumption | omega | (rw [nI_leI] <;> omega) | (rw [nI_ltI] <;> omega) | (rw [nI_eq] <;> omega) | (apply q_out <;> omega) | (apply q_nb; omega) | (apply q_n0 <;> omega)) only [M70, q_count hE.1, ↓if_pos, ↓if_neg, nI_add, q_sub, q_cl, p_bnd_s, p_bnd_v])
theorem q_cBitsFor (h : q_K n wv sp x w) (hp : q_py sp = true) {a : Int32} (ha : nI 0 ≤ a) : q_Z w n wv sp x (p_ev none 70 0 [.ref 0, .int a, p_U, p_U, p_U] [] w) (some (.int (nI (q_bf n wv sp x a (q_CD n sp x).length 0)))) := by
  have h0 : (0 : Nat) < 2 ^ 31 := by decide
  obtain ⟨w1, a1, a2, a3⟩ := q_encode h
  obtain ⟨w2, g1, g2, g3⟩ := q_gatherP a2
  have hP2 := a2.v (by omega) g3
  obtain ⟨w3, b1, b2, b3⟩ := q_readFirst hP2 h0
  have hP3 := hP2.v (by omega) b3
  rw [Nat.zero_min] at b2
  obtain ⟨w4, c1, c2, c5, c4, c3⟩ := q_bringP hP3 b2
  have hP4 := hP3.v (by omega) c3
  have h12 : ∀ j, j < n → w4.2.1 12 j = q_un n wv sp 1 7 x j := fun j hj => by rw [c4, b3.2.2 12 (by omega)]; exact g2 j hj
  have he := q_errP hP4 h12 c2
  obtain ⟨w', e1, e2⟩ := q_bf_l (a := a) (q_CD n sp x).length 0 w4 (by omega) hP4 h12 c5
  refine ⟨w', ?_, (hP4.v (by omega) e2).1, (((a3.fc.tr g3.fc).tr b3.fc).tr c3.fc).tr e2.fc⟩
  (conv => lhs; simp (disch := first | assumption | omega | (rw [nI_leI] <;> omega) | (rw [nI_ltI] <;> omega) | (rw [nI_eq] <;> omega) | (apply q_out <;> omega) | (apply q_nb; omega) | (apply q_n0 <;> omega)) only [M70, q_reqPyr h.1, q_reqNN, a1, g1, b1, c1, he, ↓if_pos, ↓if_neg, nI_add, q_sub, q_cl, p_bnd_s, p_bnd_v])
  exact e1
end Bt2
