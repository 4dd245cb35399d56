/-! THE REFERENCE: LEAFAT -/
/-- the leaves below the nodes of a stack, in their order -/
def q_dl (sp : Nat → Bool) : Nat → List Nat → List Nat
  | 0, _ => []
  | _ + 1, [] => []
  | f + 1, nd :: r => if sp nd = true then q_dl sp f (2 * nd :: (2 * nd + 1) :: r) else nd :: q_dl sp f r
def q_pk (a : Int32) : List Nat → Nat → Option Nat
  | [], _ => none
  | nd :: r, met => if nI met = a then some nd else q_pk a r (met + 1)
def q_sk : List Nat → (Nat → Int32) → Prop
  | [], _ => True
  | nd :: r, g => g r.length = nI nd ∧ q_sk r g
theorem q_sk_cg {g g' : Nat → Int32} : ∀ (S : List Nat), (∀ i, i < S.length → g' i = g i) → q_sk S g → q_sk S g'
  | [], _, _ => trivial
  | nd :: r, h, hs => ⟨(h r.length (by simp)).trans hs.1, q_sk_cg r (fun i hi => h i (by simp; omega)) hs.2⟩
def q_mz (nd : Nat) : Nat := if nd < 2 then 15 else if nd < 4 then 7 else if nd < 8 then 3 else 1
theorem q_mz_1 {nd : Nat} : 1 ≤ q_mz nd := by unfold q_mz; split; omega; split; omega; split <;> omega
theorem q_mz_k {nd : Nat} (h : nd < 8) (h1 : 1 ≤ nd) : q_mz nd = q_mz (2 * nd) + q_mz (2 * nd + 1) + 1 := by
  have key : ∀ k : Fin 8, k.val = 0 ∨ q_mz k.val = q_mz (2 * k.val) + q_mz (2 * k.val + 1) + 1 := by decide
  rcases key ⟨nd, h⟩ with z | z
  · exact absurd z (by dsimp only; omega)
  · exact z
theorem q_mz_len : ∀ (S : List Nat), S.length ≤ (S.map q_mz).sum
  | [] => Nat.le_refl _
  | nd :: r => by have := q_mz_len r; have := q_mz_1 (nd := nd); simp; omega
section Ml
variable {n wv : Nat} {sp : Nat → Bool} {x : Nat → Int64} {w : pW}
def q_la (w : pW) (o : Option Nat) (g : Nat → Int32) : Option pR := match o with
  | some nd => some (.inl (some (.int (nI nd))), (w.1, w.2.1, q_r w.2.2 31 g), 0)
  | none => some (.inl (some (.int (nI 0))), q_th (nI 1) (w.1, w.2.1, q_r w.2.2 31 g), 0)
theorem q_la_r {w : pW} {o : Option Nat} {g h : Nat → Int32} : q_la (w.1, w.2.1, q_r w.2.2 31 h) o g = q_la w o g := by
  unfold q_la; cases o
  · dsimp only; rw [q_r_r]
  · dsimp only; rw [q_r_r]
theorem q_mLeafAt_l (hT : q_T n sp) {a : Int32} : ∀ (f : Nat) (S : List Nat) (met : Nat) (w : pW) (z4 : Value), (S.map q_mz).sum ≤ f → f ≤ 15 → (∀ nd ∈ S, q_ex sp nd = true) → q_sk S (w.2.2 31) → q_Mk sp w → ∃ g, p_ev none 124 16 [.ref 24, .int a, .int (nI met), .int (nI S.length), z4] [] w = q_la w (q_pk a (q_dl sp f S) met) g := by
  have nil : ∀ (met : Nat) (w : pW) (z4 : Value), p_ev none 124 16 [.ref 24, .int a, .int (nI met), .int (nI 0), z4] [] w = q_la w none (w.2.2 31) := by
    intro met w z4
    unfold q_la
    rw [H124_16]
    (conv => lhs; simp (disch := first | assumption | omega | (rw [nI_leI] <;> omega) | (rw [nI_ltI] <;> omega) | (rw [nI_eq] <;> omega) | (apply q_out <;> omega) | (apply q_nb; omega) | (apply q_n0 <;> omega)) only [M124, q_mFails, ↓if_pos, ↓if_neg, nI_add, q_sub, q_cl, p_bnd_s, p_bnd_v])
    dsimp only
    rw [q_r_id]
  intro f
  induction f with
  | zero =>
    intro S met w z4 hf h15 hS hk hM
    cases S with
    | nil => exact ⟨_, nil met w z4⟩
    | cons nd r => exfalso; have := q_mz_1 (nd := nd); simp at hf; omega
  | succ f ih =>
    intro S met w z4 hf h15 hS hk hM
    cases S with
    | nil => exact ⟨_, nil met w z4⟩
    | cons nd r =>
      have hlen := q_mz_len r
      have h1 := q_mz_1 (nd := nd)
      rw [List.map_cons, List.sum_cons] at hf
      have hx := hS nd (by simp)
      have hb := q_ex_b hx
      have hkn := hM nd hb.2
      have hne : ¬ nI (r.length + 1) ≤ nI 0 := by rw [nI_leI (by omega) (by omega)]; omega
      have hrl : (nd :: r).length = r.length + 1 := rfl
      rw [hrl, q_dl, H124_16]
      have htop := hk.1
      by_cases hs : sp nd = true
      · have h8 := (hT.sp1 hs).2
        have hz : ¬ nI (q_kd sp nd) = nI 1 := fun z => by have := ((q_kd_1 hT).mp z).2; rw [hs] at this; exact Bool.false_ne_true this.symm
        rw [if_pos hs]
        have hmk := q_mz_k h8 hb.1
        obtain ⟨g, hg⟩ := ih (2 * nd :: (2 * nd + 1) :: r) met (w.1, w.2.1, q_r w.2.2 31 (fun j => if j = r.length + 1 then nI (2 * nd) else if j = r.length then nI (2 * nd + 1) else w.2.2 31 j)) (.int (nI nd)) (by simp only [List.map_cons, List.sum_cons]; omega) (by omega) (fun y hy => by
            rcases List.mem_cons.mp hy with rfl | hy
            · rw [q_ex_kid (k := nd) (by omega) (by omega) (by omega)]; exact hs
            · rcases List.mem_cons.mp hy with rfl | hy
              · rw [q_ex_kid (k := nd) (by omega) (by omega) (by omega)]; exact hs
              · exact hS y (by simp [hy])) (by
            dsimp only
            rw [q_r_s]
            refine ⟨if_pos rfl, ?_, q_sk_cg r (fun i hi => ?_) hk.2⟩
            · dsimp only
              rw [if_neg (by omega), if_pos rfl]
            · rw [if_neg (by omega), if_neg (by omega)]) hM
        rw [q_la_r] at hg
        refine ⟨g, ?_⟩
        have hrl2 : (2 * nd :: (2 * nd + 1) :: r).length = r.length + 2 := rfl
        rw [hrl2] at hg
        have hm1 := q_mz_1 (nd := 2 * nd)
        have hle : r.length < 14 := by omega
        (conv => lhs; simp (disch := first | assumption | omega | (rw [nI_leI] <;> omega) | (rw [nI_ltI] <;> omega) | (rw [nI_eq] <;> omega) | (apply q_out <;> omega) | (apply q_nb; omega) | (apply q_n0 <;> omega)) only [M124, q_m1, Nat.add_sub_cancel, htop, hkn, pk_mul, q_pu, q_r_s, q_r_r, ↓if_pos, ↓if_neg, nI_add, q_sub, q_cl, p_bnd_s, p_bnd_v])
        exact hg
      · have hs' := Bool.eq_false_iff.mpr hs
        have hz : nI (q_kd sp nd) = nI 1 := (q_kd_1 hT).mpr ⟨hx, hs'⟩
        have hz2 : ¬ ¬ nI (q_kd sp nd) = nI 1 := fun z => z hz
        rw [if_neg hs, q_pk]
        by_cases ha : nI met = a
        · have ha2 : ¬ ¬ nI met = a := fun z => z ha
          refine ⟨w.2.2 31, ?_⟩
          rw [if_pos ha]
          unfold q_la
          (conv => lhs; simp (disch := first | assumption | omega | (rw [nI_leI] <;> omega) | (rw [nI_ltI] <;> omega) | (rw [nI_eq] <;> omega) | (apply q_out <;> omega) | (apply q_nb; omega) | (apply q_n0 <;> omega)) only [M124, q_m1, Nat.add_sub_cancel, htop, hkn, ↓if_pos, ↓if_neg, nI_add, q_sub, q_cl, p_bnd_s, p_bnd_v])
          dsimp only
          rw [q_r_id]
        · obtain ⟨g, hg⟩ := ih r (met + 1) w (.int (nI nd)) (by omega) (by omega) (fun y hy => hS y (by simp [hy])) hk.2 hM
          refine ⟨g, ?_⟩
          rw [if_neg ha]
          (conv => lhs; simp (disch := first | assumption | omega | (rw [nI_leI] <;> omega) | (rw [nI_ltI] <;> omega) | (rw [nI_eq] <;> omega) | (apply q_out <;> omega) | (apply q_nb; omega) | (apply q_n0 <;> omega)) only [M124, q_m1, Nat.add_sub_cancel, htop, hkn, ↓if_pos, ↓if_neg, nI_add, q_sub, q_cl, p_bnd_s, p_bnd_v])
          exact hg
/-- a tree as bits -/
def q_bs (b : Nat) : Nat → Bool := fun j => b.testBit j
def q_Tb (n : Nat) (sp : Nat → Bool) : Bool := !(sp 0) && ((List.range 8).all fun i => i < 2 || !(sp i) || sp (i / 2)) && ((List.range 8).all fun i => i < 1 || !(sp i) || decide (2 ≤ q_wd n i))
theorem q_bits_of : ∀ (m : Nat) (sp : Nat → Bool), (∀ j, m ≤ j → sp j = false) → ∃ b, b < 2 ^ m ∧ ∀ j, b.testBit j = sp j
  | 0, sp, h => ⟨0, by decide, fun j => by rw [Nat.zero_testBit, h j (by omega)]⟩
  | m + 1, sp, h => by
    obtain ⟨b, h1, h2⟩ := q_bits_of m (fun j => sp (j + 1)) (fun j hj => h (j + 1) (by omega))
    refine ⟨2 * b + (sp 0).toNat, ?_, fun j => ?_⟩
    · have := Bool.toNat_le (sp 0); rw [Nat.pow_succ]; omega
    · cases j with
      | zero =>
        rw [Nat.testBit_zero]
        cases sp 0
        · simp
        · simp
      | succ j =>
        rw [Nat.testBit_succ]
        have := Bool.toNat_lt (sp 0)
        rw [show (2 * b + (sp 0).toNat) / 2 = b by omega, h2]
theorem q_T_bits (hT : q_T n sp) : ∃ b, b < 256 ∧ sp = q_bs b ∧ q_Tb n (q_bs b) = true := by
  obtain ⟨b, h1, h2⟩ := q_bits_of 8 sp hT.2.2.1
  have e : sp = q_bs b := funext fun j => (h2 j).symm
  refine ⟨b, h1, e, ?_⟩
  rw [← e]
  unfold q_Tb
  rw [Bool.and_eq_true, Bool.and_eq_true, List.all_eq_true, List.all_eq_true]
  refine ⟨⟨by rw [hT.2.1]; rfl, fun i hi => ?_⟩, fun i hi => ?_⟩
  · rw [List.mem_range] at hi
    cases hs : sp i
    · simp
    · by_cases h2 : i < 2
      · simp [h2]
      · rw [hT.2.2.2.1 i (by omega) hi hs]; simp
  · rw [List.mem_range] at hi
    cases hs : sp i
    · simp
    · by_cases h2 : i < 1
      · simp [h2]
      · have := hT.2.2.2.2 i (by omega) hi hs
        simp [this]
def q_lchk (n : Nat) (sp : Nat → Bool) : Bool := decide ((q_dl sp 15 [1]).length = q_lc sp) && ((List.range 8).all fun m => decide ((q_dl sp 15 [1]).length ≤ m) || decide ((q_dl sp 15 [1]).getD m 0 = q_lo n sp (q_lp n sp m) 3 1))
theorem q_dl_lo (hT : q_T n sp) : (q_dl sp 15 [1]).length = q_lc sp ∧ ∀ m, m < q_lc sp → (q_dl sp 15 [1]).getD m 0 = q_lo n sp (q_lp n sp m) 3 1 := by
  obtain ⟨b, h1, h2, h3⟩ := q_T_bits hT
  have key : ∀ k : Fin 4, ((List.range 256).all fun b => !(q_Tb (4 * 2 ^ k.val) (q_bs b)) || q_lchk (4 * 2 ^ k.val) (q_bs b)) = true := by decide +kernel
  obtain ⟨k, hk⟩ := q_nfin hT.1
  have h4 := List.all_eq_true.mp (key k) b (List.mem_range.mpr h1)
  rw [← hk, h3, ← h2] at h4
  have h5 : q_lchk n sp = true := by simpa using h4
  unfold q_lchk at h5
  rw [Bool.and_eq_true, decide_eq_true_eq, List.all_eq_true] at h5
  refine ⟨h5.1, fun m hm => ?_⟩
  have hl := q_lc_le (sp := sp)
  have h6 := h5.2 m (List.mem_range.mpr (by omega))
  rw [Bool.or_eq_true, decide_eq_true_eq, decide_eq_true_eq] at h6
  rcases h6 with z | z
  · omega
  · exact z
theorem q_pk_of {a : Int32} : ∀ (l : List Nat) (met : Nat), met + l.length < 1000 → (∀ m, m < l.length → a = nI (met + m) → q_pk a l met = some (l.getD m 0)) ∧ ((∀ m, m < l.length → ¬ a = nI (met + m)) → q_pk a l met = none)
  | [], met, _ => ⟨fun m hm => absurd hm (Nat.not_lt_zero _), fun _ => rfl⟩
  | nd :: r, met, hl => by
    have hl2 : r.length + 1 + met < 1000 := by rw [List.length_cons] at hl; omega
    have ih := q_pk_of (a := a) r (met + 1) (by omega)
    refine ⟨fun m hm ha => ?_, fun h => ?_⟩
    · rw [q_pk]
      cases m with
      | zero =>
        rw [if_pos (by rw [ha]; rfl)]; rfl
      | succ m =>
        rw [List.length_cons] at hm
        have hne : ¬ nI met = a := by
          rw [ha, nI_eq (by omega) (by omega)]; omega
        rw [if_neg hne, ih.1 m (by omega) (by rw [ha, show met + (m + 1) = met + 1 + m by omega])]
        rfl
    · rw [q_pk, if_neg (fun z => h 0 (by simp) (by rw [← z]; rfl))]
      exact ih.2 (fun m hm z => h (m + 1) (by simp; omega) (by rw [z, show met + (m + 1) = met + 1 + m by omega]))
theorem q_mLeafAt (h : q_R n wv sp x w) (a : Int32) : if q_pt (q_lc sp) a < q_lc sp then q_ZM w n wv sp x (p_ev none 124 0 [.ref 24, .int a, p_U, p_U, p_U] [] w) (.int (nI (q_lo n sp (q_lp n sp (q_pt (q_lc sp) a)) 3 1))) 0 else q_ZTi w n wv sp x (p_ev none 124 0 [.ref 24, .int a, p_U, p_U, p_U] [] w) 1 := by
  have hlc := q_lc_le (sp := sp)
  have hdl := q_dl_lo h.2.1
  have hpk := q_pk_of (a := a) (q_dl sp 15 [1]) 0 (by rw [hdl.1]; omega)
  rw [hdl.1] at hpk
  obtain ⟨g, hg⟩ := q_mLeafAt_l h.2.1 (a := a) 15 [1] 0 ((q_th (nI 0) w).1, w.2.1, q_r w.2.2 31 (fun j => if j = 0 then nI 1 else w.2.2 31 j)) p_U (by decide) (by decide) (fun y hy => by rw [List.mem_singleton] at hy; subst hy; rfl) (by
    dsimp only
    rw [q_r_s]
    exact ⟨rfl, trivial⟩) h.2.2.1
  have hg2 := q_la_r (w := ((q_th (nI 0) w).1, w.2.1, w.2.2)) (o := q_pk a (q_dl sp 15 [1]) 0) (g := g) (h := fun j => if j = 0 then nI 1 else w.2.2 31 j)
  dsimp only at hg2
  rw [hg2] at hg
  have hR : ∀ g, q_R n wv sp x ((q_th (nI 0) w).1, w.2.1, q_r w.2.2 31 g) := fun g => ⟨⟨(h.th (k := nI 0)).1.1, (h.th (k := nI 0)).1.2.1, h.1.2.2.1, h.1.2.2.2⟩, h.2.1, fun i hi => by
    dsimp only
    rw [q_r_n (by decide)]; exact h.2.2.1 i hi, h.2.2.2⟩
  have hF : ∀ g, q_FM w ((q_th (nI 0) w).1, w.2.1, q_r w.2.2 31 g) := fun g => ⟨fun o ho => q_th_FM.1 o ho, fun _ _ => rfl, fun o ho => q_r_n (by omega)⟩
  have hrun : p_ev none 124 0 [.ref 24, .int a, p_U, p_U, p_U] [] w = q_la ((q_th (nI 0) w).1, w.2.1, w.2.2) (q_pk a (q_dl sp 15 [1]) 0) g := by
    (conv => lhs; simp (disch := first | assumption | omega | (rw [nI_leI] <;> omega) | (rw [nI_ltI] <;> omega) | (rw [nI_eq] <;> omega) | (apply q_out <;> omega) | (apply q_nb; omega) | (apply q_n0 <;> omega)) only [M124, ↓q_th_r, q_th_2, q_pu, ↓if_pos, ↓if_neg, nI_add, q_sub, q_cl, p_bnd_s, p_bnd_v])
    exact hg
  rcases q_pt_c (m := q_lc sp) (by omega) a with ⟨h5, h6⟩ | ⟨m, h5, rfl, h6⟩
  · rw [h5, if_neg (Nat.lt_irrefl _)]
    have hn := hpk.2 (fun m hm z => by
      rw [Nat.zero_add] at z
      subst z
      rw [q_pt_n hm (by omega)] at h5; omega)
    rw [hn] at hrun
    refine ⟨_, hrun, (hR g).th, q_th_4, (hF g).tr q_th_FM⟩
  · rw [h6, if_pos h5]
    have hn := hpk.1 m h5 (by rw [Nat.zero_add])
    rw [hn, hdl.2 m h5] at hrun
    exact ⟨_, hrun, hR g, rfl, hF g⟩
end Ml
