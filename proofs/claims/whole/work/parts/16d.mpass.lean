/-! THE REFERENCE'S CODE: THE FIRST PASS -/
/-- what writing bits leaves alone -/
def q_kP (w w' : pW) : Prop := w'.2.1 = w.2.1 ∧ (∀ o j, ¬ (o = 24 ∧ j = 18) → w'.1 o j = w.1 o j) ∧ ∀ b, b < 33 ∨ 36 < b → w'.2.2 b = w.2.2 b
section Mp
variable {n wv : Nat} {sp : Nat → Bool} {x R0 : Nat → Int64} {w : pW}
theorem q_kP.rf : q_kP w w := ⟨rfl, fun _ _ _ => rfl, fun _ _ => rfl⟩
theorem q_kP.tr {a b c : pW} (h : q_kP a b) (g : q_kP b c) : q_kP a c := ⟨g.1.trans h.1, fun o j ho => (g.2.1 o j ho).trans (h.2.1 o j ho), fun o ho => (g.2.2 o ho).trans (h.2.2 o ho)⟩
theorem q_kP.kR {a b : pW} (h : q_kP a b) : q_kR a b := ⟨fun o j ho => h.2.1 o j (fun z => ho ⟨z.1, Or.inl z.2⟩), fun b _ => congrFun h.1 b, h.2.2⟩
theorem q_kP.M {a b : pW} (h : q_kP a b) (g : q_Mw n wv a) : q_Mw n wv b := h.kR.M g
theorem q_mw_kP {c : Nat} {a b d : Int32} : q_kP w (q_mw c a b d w) := by
  refine ⟨rfl, fun o j hj => if_neg (fun z => hj z), fun q hq => ?_⟩
  unfold q_mw
  dsimp only
  rw [q_r_n (by omega), q_r_n (by omega), q_r_n (by omega)]
theorem q_out_kP {g : Nat → Int32} : q_kP w (w.1, w.2.1, q_r w.2.2 33 g) := ⟨rfl, fun _ _ _ => rfl, fun b hb => q_r_n (by omega)⟩
theorem q_mE_out {E : List q_ev} {g : Nat → Int32} (h : q_mE E w) : q_mE E (w.1, w.2.1, q_r w.2.2 33 g) := by
  refine ⟨h.1, fun i e hi => ?_⟩
  dsimp only
  rw [q_r_n (by decide), q_r_n (by decide), q_r_n (by decide)]
  exact h.2 i e hi
theorem q_mOut0 (hM : q_Mw n wv w) (hn : n ≤ 32) {x1 x2 : Int32} : ∀ (d k : Nat) (w : pW), k + d = n → q_Mw n wv w → p_ev none 148 2 [.ref 24, .int x1, .int x2, .int (nI k), p_U, p_U, p_U, p_U] [] w = p_ev none 148 25 [.ref 24, .int x1, .int x2, .int (nI 0), p_U, p_U, p_U, p_U] [] (w.1, w.2.1, q_r w.2.2 33 (fun j => if k ≤ j ∧ j < n then nI 0 else w.2.2 33 j)) := by
  intro d
  induction d with
  | zero =>
    intro k w hk hM
    have e : k = n := by omega
    subst e
    have e2 : (fun j => if k ≤ j ∧ j < k then nI 0 else w.2.2 33 j) = w.2.2 33 := by
      funext j; rw [if_neg (by omega)]
    rw [e2, q_r_id, H148_2]
    (conv => lhs; simp (disch := first | assumption | omega | (rw [nI_leI] <;> omega) | (rw [nI_ltI] <;> omega) | (rw [nI_eq] <;> omega) | (apply q_out <;> omega) | (apply q_nb; omega) | (apply q_n0 <;> omega)) only [M148, hM.1, ↓if_pos, ↓if_neg, nI_add, q_sub, q_cl, p_bnd_s, p_bnd_v])
  | succ d ih =>
    intro k w hk hM
    have i1 := ih (k + 1) (w.1, w.2.1, q_r w.2.2 33 (fun j => if j = k then nI 0 else w.2.2 33 j)) (by omega) ⟨hM.1, hM.2.1, hM.2.2.1, hM.2.2.2⟩
    simp only [q_r_s, q_r_r] at i1
    rw [H148_2]
    (conv => lhs; simp (disch := first | assumption | omega | (rw [nI_leI] <;> omega) | (rw [nI_ltI] <;> omega) | (rw [nI_eq] <;> omega) | (apply q_out <;> omega) | (apply q_nb; omega) | (apply q_n0 <;> omega)) only [M148, hM.1, q_pu, ↓if_pos, ↓if_neg, nI_add, q_sub, q_cl, p_bnd_s, p_bnd_v])
    rw [i1]
    refine congrArg (p_ev none 148 25 _ []) (congrArg (fun z => (w.1, w.2.1, z)) (congrArg (q_r w.2.2 33) ?_))
    funext j
    by_cases h1 : j = k
    · subst h1; rw [if_neg (by omega), if_pos rfl, if_pos (by omega)]
    · by_cases h2 : k + 1 ≤ j ∧ j < n
      · rw [if_pos h2, if_pos (by omega)]
      · rw [if_neg h2, if_neg h1, if_neg (by omega)]
theorem q_mMark {lo p : Nat} (hn : n ≤ 32) (hlo : 1 ≤ lo) (hl2 : lo < 2 ^ 20) (hp : p < 32) {x1 : Int32} {y4 : Int64} : ∀ (d k : Nat) (w : pW), k + d = n → q_Mw n wv w → p_ev none 148 161 [.ref 24, .int x1, .int (nI lo), .int (nI p), .long y4, p_U, .int (nI 0), .int (nI k)] [] w = p_ev none 148 25 [.ref 24, .int x1, .int (nI lo), .int (nI (p + 1)), .long y4, p_U, .int (nI 0), .int (nI n)] [] (w.1, w.2.1, q_r w.2.2 33 (fun j => if k ≤ j ∧ j < n ∧ q_iu lo 33 j p = true then nI 1 else w.2.2 33 j)) := by
  have e10 : ¬ nI 1 = nI 0 := by decide
  have e00 : ¬ ¬ nI 0 = nI 0 := by decide
  intro d
  induction d with
  | zero =>
    intro k w hk hM
    have e : k = n := by omega
    subst e
    have e2 : (fun j => if k ≤ j ∧ j < k ∧ q_iu lo 33 j p = true then nI 1 else w.2.2 33 j) = w.2.2 33 := by
      funext j; rw [if_neg (by omega)]
    rw [e2, q_r_id, H148_161]
    (conv => lhs; simp (disch := first | assumption | omega | (rw [nI_leI] <;> omega) | (rw [nI_ltI] <;> omega) | (rw [nI_eq] <;> omega) | (apply q_out <;> omega) | (apply q_nb; omega) | (apply q_n0 <;> omega)) only [M148, hM.1, ↓if_pos, ↓if_neg, nI_add, q_sub, q_cl, p_bnd_s, p_bnd_v])
  | succ d ih =>
    intro k w hk hM
    have hU := q_mUnder (w := w) hlo hl2 hp (show k < 32 by omega)
    have hM1 : ∀ g : Nat → Nat → Int32, q_Mw n wv (w.1, w.2.1, g) := fun _ => ⟨hM.1, hM.2.1, hM.2.2.1, hM.2.2.2⟩
    rw [H148_161]
    cases hu : q_iu lo 33 k p
    · rw [hu] at hU
      have e0 : (false).toNat = 0 := rfl
      rw [e0] at hU
      have i1 := ih (k + 1) (w.1, w.2.1, q_r w.2.2 33 (fun j => if j = k then w.2.2 33 k else w.2.2 33 j)) (by omega) (hM1 _)
      simp only [q_r_s, q_r_r] at i1
      (conv => lhs; simp (disch := first | assumption | omega | (rw [nI_leI] <;> omega) | (rw [nI_ltI] <;> omega) | (rw [nI_eq] <;> omega) | (apply q_out <;> omega) | (apply q_nb; omega) | (apply q_n0 <;> omega)) only [M148, hM.1, hU, q_pu, ↓if_pos, ↓if_neg, nI_add, q_sub, q_cl, p_bnd_s, p_bnd_v])
      rw [i1]
      refine congrArg (p_ev none 148 25 _ []) (congrArg (fun z => (w.1, w.2.1, z)) (congrArg (q_r w.2.2 33) ?_))
      funext j
      by_cases h1 : j = k
      · subst h1; rw [if_neg (by omega), if_pos rfl, if_neg (fun z => by rw [hu] at z; exact Bool.false_ne_true z.2.2)]
      · by_cases h2 : k + 1 ≤ j ∧ j < n ∧ q_iu lo 33 j p = true
        · rw [if_pos h2, if_pos ⟨by omega, h2.2⟩]
        · rw [if_neg h2, if_neg h1, if_neg (fun z => h2 ⟨by omega, z.2⟩)]
    · rw [hu] at hU
      have e0 : (true).toNat = 1 := rfl
      rw [e0] at hU
      have i1 := ih (k + 1) (w.1, w.2.1, q_r w.2.2 33 (fun j => if j = k then nI 1 else w.2.2 33 j)) (by omega) (hM1 _)
      simp only [q_r_s, q_r_r] at i1
      (conv => lhs; simp (disch := first | assumption | omega | (rw [nI_leI] <;> omega) | (rw [nI_ltI] <;> omega) | (rw [nI_eq] <;> omega) | (apply q_out <;> omega) | (apply q_nb; omega) | (apply q_n0 <;> omega)) only [M148, hM.1, hU, q_pu, ↓if_pos, ↓if_neg, nI_add, q_sub, q_cl, p_bnd_s, p_bnd_v])
      rw [i1]
      refine congrArg (p_ev none 148 25 _ []) (congrArg (fun z => (w.1, w.2.1, z)) (congrArg (q_r w.2.2 33) ?_))
      funext j
      by_cases h1 : j = k
      · subst h1; rw [if_neg (by omega), if_pos rfl, if_pos ⟨Nat.le_refl _, by omega, hu⟩]
      · by_cases h2 : k + 1 ≤ j ∧ j < n ∧ q_iu lo 33 j p = true
        · rw [if_pos h2, if_pos ⟨by omega, h2.2⟩]
        · rw [if_neg h2, if_neg h1, if_neg (fun z => h2 ⟨by omega, z.2⟩)]
theorem q_mPass1_l {lo pl : Nat} (hn : n ≤ 32) (hlo : 1 ≤ lo) (hl2 : lo < 2 ^ 20) (hpl : pl < 63) (hns : q_ns n x) : ∀ (d k : Nat) (w : pW) (E : List q_ev) (z4 z6 z7 : Value), k + d = n → q_Mw n wv w → w.2.1 32 = x → q_mE E w → (E ++ q_f2 n lo x (q_rd lo n (q_ab x R0 n)) pl k d).length ≤ 4038 → (∀ j, k ≤ j → j < n → w.2.2 33 j = nI (q_o n lo pl x k j).toNat) → ∃ w', p_ev none 148 25 [.ref 24, .int (nI pl), .int (nI lo), .int (nI k), z4, p_U, z6, z7] [] w = some (.inl none, w', 0) ∧ q_mE (E ++ q_f2 n lo x (q_rd lo n (q_ab x R0 n)) pl k d) w' ∧ q_kP w w' := by
  have e10 : ¬ nI 1 = nI 0 := by decide
  have e01 : ¬ nI 0 = nI 1 := by decide
  have e00 : ¬ ¬ nI 0 = nI 0 := by decide
  have e11 : ¬ ¬ nI 1 = nI 1 := by decide
  intro d
  induction d with
  | zero =>
    intro k w E z4 z6 z7 hk hM hx hE hl ho
    have e : k = n := by omega
    subst e
    refine ⟨w, ?_, by rw [q_f2, List.append_nil]; exact hE, q_kP.rf⟩
    rw [H148_25]
    (conv => lhs; simp (disch := first | assumption | omega | (rw [nI_leI] <;> omega) | (rw [nI_ltI] <;> omega) | (rw [nI_eq] <;> omega) | (apply q_out <;> omega) | (apply q_nb; omega) | (apply q_n0 <;> omega)) only [M148, hM.1, ↓if_pos, ↓if_neg, nI_add, q_sub, q_cl, p_bnd_s, p_bnd_v])
  | succ d ih =>
    intro k w E z4 z6 z7 hk hM hx hE hl ho
    have hkn : k < n := by omega
    have ho0 := ho k (Nat.le_refl _) hkn
    have hL := q_o_lft (R0 := R0) hns hn hlo hpl (k + 1) k (by omega) hkn
    obtain ⟨a, ha1, ha2⟩ := q_nm_of (hns k hkn)
    have had : a / 2 ^ pl ≤ a := Nat.div_le_self _ _
    have hv : q_sh (p_abs (x k)) pl = lN (a / 2 ^ pl) := by rw [ha2, q_shN ha1 hpl]
    have hv' : p_abs (x k) >>> ((nI pl).toInt64 &&& 63) = lN (a / 2 ^ pl) := hv
    have hM1 : ∀ g : Nat → Nat → Int32, q_Mw n wv (w.1, w.2.1, g) := fun _ => ⟨hM.1, hM.2.1, hM.2.2.1, hM.2.2.2⟩
    have e16 : w.2.1 32 k = x k := by rw [hx]
    rw [q_f2] at hl ⊢
    generalize hR : q_rd lo n (q_ab x R0 n) = R at *
    have keep : q_sh (p_abs (x k)) pl ≠ lN 0 ∨ q_o n lo pl x k k = true ∨ q_de n lo k = false ∨ q_an lo pl k x (k + 1) (n - (k + 1)) = true → ∀ j, q_o n lo pl x (k + 1) j = q_o n lo pl x k j := by
      intro hc j
      rw [q_o]
      rcases hc with z | z | z | z
      · rw [decide_eq_false z]; simp
      · rw [z]; simp
      · rw [z]; simp
      · rw [z]; simp
    by_cases hA : 1 < a / 2 ^ pl
    · have h50 : nI 0 < lg_cmp (lN (a / 2 ^ pl)) (lN 1) := q_cmpT.mpr ((pk_lLT (by omega) (by omega)).mpr hA)
      have hne0 : q_sh (p_abs (x k)) pl ≠ lN 0 := by rw [hv]; intro z; have := (pk_lEQ (by omega) (by omega)).mp z; omega
      have hne1 : q_sh (p_abs (x k)) pl ≠ lN 1 := by rw [hv]; intro z; have := (pk_lEQ (by omega) (by omega)).mp z; omega
      have hs : q_f1 n lo x R pl k = [] := by unfold q_f1; rw [if_neg hne1, if_neg (fun z => hne0 z.1)]
      rw [hs, List.nil_append] at hl ⊢
      obtain ⟨w', c1, c2, c3⟩ := ih (k + 1) w E (.long (p_abs (x k))) z6 z7 (by omega) hM hx hE hl (fun j j1 j2 => by rw [keep (Or.inl hne0)]; exact ho j (by omega) j2)
      refine ⟨w', ?_, c2, c3⟩
      rw [H148_25]
      (conv => lhs; simp (disch := first | assumption | omega | (rw [nI_leI] <;> omega) | (rw [nI_ltI] <;> omega) | (rw [nI_eq] <;> omega) | (apply q_out <;> omega) | (apply q_nb; omega) | (apply q_n0 <;> omega)) only [M148, hM.1, e16, q_mSize, hv', ↓if_pos, ↓if_neg, nI_add, q_sub, q_cl, p_bnd_s, p_bnd_v])
      exact c1
    · have h50 : ¬ nI 0 < lg_cmp (lN (a / 2 ^ pl)) (lN 1) := fun z => hA ((pk_lLT (by omega) (by omega)).mp (q_cmpT.mp z))
      cases hoo : q_o n lo pl x k k
      · rw [hoo, Bool.toNat_false] at ho0
        rw [hoo] at hL
        by_cases h1 : a / 2 ^ pl = 1
        · rw [h1] at hv hv' h50
          have hne0 : q_sh (p_abs (x k)) pl ≠ lN 0 := by rw [hv]; decide
          have h72 : ¬ ¬ lg_cmp (lN 1) (lN 1) = nI 0 := by decide
          have hs : q_f1 n lo x R pl k = [(1, 1, k, pl), (2, if x k < lN 0 then 1 else 0, k, pl)] := if_pos hv
          rw [hs] at hl ⊢
          have hl2 : E.length + 1 < 4038 := by simp only [List.length_append, List.length_cons, List.length_nil] at hl; omega
          have hE2 := q_mE_w (e := (1, 1, k, pl)) hE
          have hE3 := q_mE_w (e := (2, if x k < lN 0 then 1 else 0, k, pl)) hE2
          have hlE : (E ++ [(1, 1, k, pl)]).length < 4100 := by simp only [List.length_append, List.length_cons, List.length_nil]; omega
          have hq1 := q_mWrite (a := nI 1) (b := nI k) (d := nI (64 + pl)) hE.1 (by omega)
          have hq2 := fun b => q_mWrite (a := b) (b := nI k) (d := nI 128) hE2.1 hlE
          rw [show E ++ ([(1, 1, k, pl), (2, if x k < lN 0 then 1 else 0, k, pl)] ++ q_f2 n lo x R pl (k + 1) d) = E ++ [(1, 1, k, pl)] ++ [(2, if x k < lN 0 then 1 else 0, k, pl)] ++ q_f2 n lo x R pl (k + 1) d by simp] at hl ⊢
          obtain ⟨w', c1, c2, c3⟩ := ih (k + 1) _ _ (.long (p_abs (x k))) z6 z7 (by omega) ((q_mw_kP.tr q_mw_kP).M hM) hx hE3 hl (fun j j1 j2 => by
            rw [keep (Or.inl hne0), q_mw_33, q_mw_33]; exact ho j (by omega) j2)
          refine ⟨w', ?_, c2, (q_mw_kP.tr q_mw_kP).tr c3⟩
          rw [H148_25]
          by_cases hn0 : x k < lN 0
          · have h94 : ¬ nI 0 ≤ lg_cmp (x k) (lN 0) := fun z => absurd hn0 (Int64.not_lt.mpr (q_cmpG.mp z))
            (conv => lhs; simp (disch := first | assumption | omega | (rw [nI_leI] <;> omega) | (rw [nI_ltI] <;> omega) | (rw [nI_eq] <;> omega) | (apply q_out <;> omega) | (apply q_nb; omega) | (apply q_n0 <;> omega)) only [M148, hM.1, e16, q_mSize, hv', ho0, hq1, q_mw_l, ↓if_pos, ↓if_neg, nI_add, q_sub, q_cl, p_bnd_s, p_bnd_v])
            rw [if_pos hn0] at c1
            rw [show q_mw E.length (nI 1) (nI k) (nI (64 + pl)) w = q_mw E.length (nI (1, 1, k, pl).2.1) (nI (1, 1, k, pl).2.2.1) (nI (q_wh (1, 1, k, pl))) w from rfl, hq2]
            (conv => lhs; simp (disch := first | assumption | omega | (rw [nI_leI] <;> omega) | (rw [nI_ltI] <;> omega) | (rw [nI_eq] <;> omega) | (apply q_out <;> omega) | (apply q_nb; omega) | (apply q_n0 <;> omega)) only [M148, ↓if_pos, ↓if_neg, nI_add, q_sub, q_cl, p_bnd_s, p_bnd_v])
            exact c1
          · have h94 : nI 0 ≤ lg_cmp (x k) (lN 0) := q_cmpG.mpr (Int64.not_lt.mp hn0)
            (conv => lhs; simp (disch := first | assumption | omega | (rw [nI_leI] <;> omega) | (rw [nI_ltI] <;> omega) | (rw [nI_eq] <;> omega) | (apply q_out <;> omega) | (apply q_nb; omega) | (apply q_n0 <;> omega)) only [M148, hM.1, e16, q_mSize, hv', ho0, hq1, q_mw_l, ↓if_pos, ↓if_neg, nI_add, q_sub, q_cl, p_bnd_s, p_bnd_v])
            rw [if_neg hn0] at c1
            rw [show q_mw E.length (nI 1) (nI k) (nI (64 + pl)) w = q_mw E.length (nI (1, 1, k, pl).2.1) (nI (1, 1, k, pl).2.2.1) (nI (q_wh (1, 1, k, pl))) w from rfl, hq2]
            (conv => lhs; simp (disch := first | assumption | omega | (rw [nI_leI] <;> omega) | (rw [nI_ltI] <;> omega) | (rw [nI_eq] <;> omega) | (apply q_out <;> omega) | (apply q_nb; omega) | (apply q_n0 <;> omega)) only [M148, ↓if_pos, ↓if_neg, nI_add, q_sub, q_cl, p_bnd_s, p_bnd_v])
            exact c1
        · have h0 : a / 2 ^ pl = 0 := (Nat.le_one_iff_eq_zero_or_eq_one.mp (Nat.not_lt.mp hA)).resolve_right h1
          rw [h0] at hv hv' h50
          have h72 : ¬ lg_cmp (lN 0) (lN 1) = nI 0 := by decide
          have hne1 : q_sh (p_abs (x k)) pl ≠ lN 1 := by rw [hv]; decide
          have hE2 := q_mE_w (e := (0, 0, k, 0)) hE
          have hMw := (q_mw_kP (w := w) (c := E.length) (a := nI 0) (b := nI k) (d := nI 0)).M hM
          have hF := q_mFirst (lo := lo) (p := k) hMw hn hl2 (by omega)
          cases hde : q_de n lo k
          · have hs : q_f1 n lo x R pl k = [(0, 0, k, 0)] := by unfold q_f1; rw [if_neg hne1, if_pos ⟨hv, hL.symm⟩, if_neg (by rw [hde]; exact Bool.false_ne_true)]
            rw [hs] at hl ⊢
            rw [hde, if_neg Bool.false_ne_true] at hF
            have hl2 : E.length < 4038 := by simp only [List.length_append, List.length_cons, List.length_nil] at hl; omega
            have hq1 := q_mWrite (a := nI 0) (b := nI k) (d := nI 0) hE.1 (by omega)
            rw [← List.append_assoc] at hl ⊢
            have hm1 : ¬ nI 0 ≤ (-1 : Int32) := by decide
            obtain ⟨w', c1, c2, c3⟩ := ih (k + 1) _ _ (.long (p_abs (x k))) z6 z7 (by omega) hMw hx hE2 hl (fun j j1 j2 => by
              rw [keep (Or.inr (Or.inr (Or.inl hde))), q_mw_33]; exact ho j (by omega) j2)
            refine ⟨w', ?_, c2, q_mw_kP.tr c3⟩
            rw [H148_25]
            (conv => lhs; simp (disch := first | assumption | omega | (rw [nI_leI] <;> omega) | (rw [nI_ltI] <;> omega) | (rw [nI_eq] <;> omega) | (apply q_out <;> omega) | (apply q_nb; omega) | (apply q_n0 <;> omega)) only [M148, hM.1, e16, q_mSize, hv', ho0, hq1, hF, ↓if_pos, ↓if_neg, nI_add, q_sub, q_cl, p_bnd_s, p_bnd_v])
            exact c1
          · rw [hde, if_pos rfl] at hF
            have hfp : nI 0 ≤ nI (if k < lo then k + lo else 2 * k) := by
              have : (if k < lo then k + lo else 2 * k) < 2 ^ 31 := by split <;> omega
              rw [nI_leI (by omega) this]; omega
            have hs : q_f1 n lo x R pl k = [(0, 0, k, 0), (0, if q_sh (R k) pl = lN 0 then 0 else 1, k, 0)] := by unfold q_f1; rw [if_neg hne1, if_pos ⟨hv, hL.symm⟩, if_pos hde]
            rw [hs] at hl ⊢
            have hlE2 : E.length + 1 < 4038 := by simp only [List.length_append, List.length_cons, List.length_nil] at hl; omega
            have hE3 := q_mE_w (e := (0, if q_sh (R k) pl = lN 0 then 0 else 1, k, 0)) hE2
            have hlE : (E ++ [(0, 0, k, 0)]).length < 4100 := by simp only [List.length_append, List.length_cons, List.length_nil]; omega
            have hq1 := q_mWrite (a := nI 0) (b := nI k) (d := nI 0) hE.1 (by omega)
            have hq2 := fun b => q_mWrite (a := b) (b := nI k) (d := nI 0) hE2.1 hlE
            have hAny := q_mAny (lo := lo) (p := k) (pl := pl) hMw hn hlo hl2 hkn
            have hxw : (q_mw E.length (nI 0) (nI k) (nI 0) w).2.1 32 = x := hx
            rw [hxw] at hAny
            have hreach := q_an_reach (R0 := R0) hns hn hlo hpl hkn hv
            rw [hR] at hreach
            rw [show E ++ ([(0, 0, k, 0), (0, if q_sh (R k) pl = lN 0 then 0 else 1, k, 0)] ++ q_f2 n lo x R pl (k + 1) d) = E ++ [(0, 0, k, 0)] ++ [(0, if q_sh (R k) pl = lN 0 then 0 else 1, k, 0)] ++ q_f2 n lo x R pl (k + 1) d by simp] at hl ⊢
            cases hany : q_an lo pl k x (k + 1) (n - (k + 1))
            · have hRz : q_sh (R k) pl = lN 0 := Classical.byContradiction (fun z => by have := hreach.mpr z; rw [hany] at this; exact Bool.false_ne_true this)
              rw [hany, Bool.toNat_false] at hAny
              rw [if_pos hRz] at hE3 hl ⊢
              have hmark := q_mMark (p := k) (x1 := nI pl) (y4 := p_abs (x k)) hn hlo hl2 (show k < 32 by omega) (n - (k + 1)) (k + 1) (q_mw (E ++ [(0, 0, k, 0)]).length (nI (0, 0, k, 0).2.1) (nI (0, 0, k, 0).2.2.1) (nI (q_wh (0, 0, k, 0))) (q_mw E.length (nI (0, 0, k, 0).2.1) (nI (0, 0, k, 0).2.2.1) (nI (q_wh (0, 0, k, 0))) w)) (by omega) ((q_mw_kP.tr q_mw_kP).M hM)
              have hP2 := (q_mw_kP (w := w) (c := E.length) (a := nI (0, 0, k, 0).2.1) (b := nI (0, 0, k, 0).2.2.1) (d := nI (q_wh (0, 0, k, 0)))).tr (q_mw_kP (c := (E ++ [(0, 0, k, 0)]).length) (a := nI (0, 0, k, 0).2.1) (b := nI (0, 0, k, 0).2.2.1) (d := nI (q_wh (0, 0, k, 0))))
              have h332 : (q_mw (E ++ [(0, 0, k, 0)]).length (nI (0, 0, k, 0).2.1) (nI (0, 0, k, 0).2.2.1) (nI (q_wh (0, 0, k, 0))) (q_mw E.length (nI (0, 0, k, 0).2.1) (nI (0, 0, k, 0).2.2.1) (nI (q_wh (0, 0, k, 0))) w)).2.2 33 = w.2.2 33 := by rw [q_mw_33, q_mw_33]
              have hq22 := hq2 (nI 0)
              have hw2e : q_mw (E ++ [(0, 0, k, 0)]).length (nI 0) (nI k) (nI 0) (q_mw E.length (nI (0, 0, k, 0).2.1) (nI (0, 0, k, 0).2.2.1) (nI (q_wh (0, 0, k, 0))) w) = q_mw (E ++ [(0, 0, k, 0)]).length (nI (0, 0, k, 0).2.1) (nI (0, 0, k, 0).2.2.1) (nI (q_wh (0, 0, k, 0))) (q_mw E.length (nI (0, 0, k, 0).2.1) (nI (0, 0, k, 0).2.2.1) (nI (q_wh (0, 0, k, 0))) w) := rfl
              rw [hw2e] at hq22
              generalize q_mw (E ++ [(0, 0, k, 0)]).length (nI (0, 0, k, 0).2.1) (nI (0, 0, k, 0).2.2.1) (nI (q_wh (0, 0, k, 0))) (q_mw E.length (nI (0, 0, k, 0).2.1) (nI (0, 0, k, 0).2.2.1) (nI (q_wh (0, 0, k, 0))) w) = W2 at hmark hE3 hP2 h332 hq22
              obtain ⟨w', c1, c2, c3⟩ := ih (k + 1) (W2.1, W2.2.1, q_r W2.2.2 33 (fun j => if k + 1 ≤ j ∧ j < n ∧ q_iu lo 33 j k = true then nI 1 else W2.2.2 33 j)) _ (.long (p_abs (x k))) (.int (nI 0)) (.int (nI n)) (by omega) ((hP2.tr q_out_kP).M hM) (by rw [← hx]; exact congrFun hP2.1 32) (q_mE_out hE3) hl (fun j j1 j2 => by
                dsimp only
                rw [q_r_s, q_o, decide_eq_true hv, hoo, hde, hany, decide_eq_true (show k < j by omega)]
                simp only [Bool.true_and, Bool.not_false, Bool.false_or]
                cases hu : q_iu lo 33 j k
                · rw [if_neg (fun z => Bool.false_ne_true z.2.2), Bool.or_false, h332]; exact ho j (by omega) j2
                · rw [if_pos ⟨j1, j2, rfl⟩, Bool.or_true]; rfl)
              refine ⟨w', ?_, c2, (hP2.tr q_out_kP).tr c3⟩
              rw [H148_25]
              (conv => lhs; simp (disch := first | assumption | omega | (rw [nI_leI] <;> omega) | (rw [nI_ltI] <;> omega) | (rw [nI_eq] <;> omega) | (apply q_out <;> omega) | (apply q_nb; omega) | (apply q_n0 <;> omega)) only [M148, hM.1, e16, q_mSize, hv', ho0, hq1, hF, hAny, ↓if_pos, ↓if_neg, nI_add, q_sub, q_cl, p_bnd_s, p_bnd_v])
              rw [show q_mw E.length (nI 0) (nI k) (nI 0) w = q_mw E.length (nI (0, 0, k, 0).2.1) (nI (0, 0, k, 0).2.2.1) (nI (q_wh (0, 0, k, 0))) w from rfl]
              (conv => lhs; simp (disch := first | assumption | omega | (rw [nI_leI] <;> omega) | (rw [nI_ltI] <;> omega) | (rw [nI_eq] <;> omega) | (apply q_out <;> omega) | (apply q_nb; omega) | (apply q_n0 <;> omega)) only [M148, hq22, ↓if_pos, ↓if_neg, nI_add, q_sub, q_cl, p_bnd_s, p_bnd_v])
              exact hmark.trans c1
            · have hRz : ¬ q_sh (R k) pl = lN 0 := hreach.mp hany
              rw [hany, Bool.toNat_true] at hAny
              rw [if_neg hRz] at hE3 hl ⊢
              obtain ⟨w', c1, c2, c3⟩ := ih (k + 1) _ _ (.long (p_abs (x k))) (.int (nI 1)) (.int (nI (k + 1))) (by omega) ((q_mw_kP.tr q_mw_kP).M hM) hx hE3 hl (fun j j1 j2 => by
                rw [keep (Or.inr (Or.inr (Or.inr hany))), q_mw_33, q_mw_33]; exact ho j (by omega) j2)
              refine ⟨w', ?_, c2, (q_mw_kP.tr q_mw_kP).tr c3⟩
              rw [H148_25]
              (conv => lhs; simp (disch := first | assumption | omega | (rw [nI_leI] <;> omega) | (rw [nI_ltI] <;> omega) | (rw [nI_eq] <;> omega) | (apply q_out <;> omega) | (apply q_nb; omega) | (apply q_n0 <;> omega)) only [M148, hM.1, e16, q_mSize, hv', ho0, hq1, hF, hAny, ↓if_pos, ↓if_neg, nI_add, q_sub, q_cl, p_bnd_s, p_bnd_v])
              rw [show q_mw E.length (nI 0) (nI k) (nI 0) w = q_mw E.length (nI (0, 0, k, 0).2.1) (nI (0, 0, k, 0).2.2.1) (nI (q_wh (0, 0, k, 0))) w from rfl, hq2]
              (conv => lhs; simp (disch := first | assumption | omega | (rw [nI_leI] <;> omega) | (rw [nI_ltI] <;> omega) | (rw [nI_eq] <;> omega) | (apply q_out <;> omega) | (apply q_nb; omega) | (apply q_n0 <;> omega)) only [M148, ↓if_pos, ↓if_neg, nI_add, q_sub, q_cl, p_bnd_s, p_bnd_v])
              rw [H148_161]
              by_cases hlast : k + 1 < n
              · have hM3 := ((q_mw_kP (w := q_mw E.length (nI (0, 0, k, 0).2.1) (nI (0, 0, k, 0).2.2.1) (nI (q_wh (0, 0, k, 0))) w) (c := (E ++ [(0, 0, k, 0)]).length) (a := nI 1) (b := nI k) (d := nI 0)).M hMw).1
                (conv => lhs; simp (disch := first | assumption | omega | (rw [nI_leI] <;> omega) | (rw [nI_ltI] <;> omega) | (rw [nI_eq] <;> omega) | (apply q_out <;> omega) | (apply q_nb; omega) | (apply q_n0 <;> omega)) only [M148, hM3, ↓if_pos, ↓if_neg, nI_add, q_sub, q_cl, p_bnd_s, p_bnd_v])
                exact c1
              · have hM3 := ((q_mw_kP (w := q_mw E.length (nI (0, 0, k, 0).2.1) (nI (0, 0, k, 0).2.2.1) (nI (q_wh (0, 0, k, 0))) w) (c := (E ++ [(0, 0, k, 0)]).length) (a := nI 1) (b := nI k) (d := nI 0)).M hMw).1
                (conv => lhs; simp (disch := first | assumption | omega | (rw [nI_leI] <;> omega) | (rw [nI_ltI] <;> omega) | (rw [nI_eq] <;> omega) | (apply q_out <;> omega) | (apply q_nb; omega) | (apply q_n0 <;> omega)) only [M148, hM3, ↓if_pos, ↓if_neg, nI_add, q_sub, q_cl, p_bnd_s, p_bnd_v])
                exact c1
      · rw [hoo, Bool.toNat_true] at ho0
        rw [hoo] at hL
        have hL2 : lo ≤ k ∧ q_sh (R (q_pa lo k)) pl = lN 0 := by
          have := hL.symm
          unfold q_lft at this; rw [Bool.and_eq_true, decide_eq_true_eq, decide_eq_true_eq] at this; exact this
        have h0 : q_sh (p_abs (x k)) pl = lN 0 := Classical.byContradiction (fun z => by
          have hpa := q_pa_lt hlo hL2.1
          have hS := q_reach_sig (R0 := R0) hns hn hlo hpl (show q_pa lo k < n by omega)
          rw [hR] at hS
          exact hS.mpr ⟨k, hkn, z, (q_iu_up hlo (by omega) hpa).mpr ⟨hL2.1, q_iu_s hlo (by omega)⟩⟩ hL2.2)
        have hs : q_f1 n lo x R pl k = [] := by
          unfold q_f1
          rw [if_neg (fun z => by rw [z] at h0; exact absurd h0 (by decide)), if_neg (fun z => by rw [← hL] at z; exact Bool.false_ne_true z.2.symm)]
        rw [hs, List.nil_append] at hl ⊢
        obtain ⟨w', c1, c2, c3⟩ := ih (k + 1) w E (.long (p_abs (x k))) z6 z7 (by omega) hM hx hE hl (fun j j1 j2 => by rw [keep (Or.inr (Or.inl hoo))]; exact ho j (by omega) j2)
        refine ⟨w', ?_, c2, c3⟩
        rw [H148_25]
        (conv => lhs; simp (disch := first | assumption | omega | (rw [nI_leI] <;> omega) | (rw [nI_ltI] <;> omega) | (rw [nI_eq] <;> omega) | (apply q_out <;> omega) | (apply q_nb; omega) | (apply q_n0 <;> omega)) only [M148, hM.1, e16, q_mSize, hv', ho0, ↓if_pos, ↓if_neg, nI_add, q_sub, q_cl, p_bnd_s, p_bnd_v])
        exact c1
end Mp
