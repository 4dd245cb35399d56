/-! THE REFERENCE'S CODE: ROW AND EVENTS -/
theorem q_lw_d {n : Nat} {sp : Nat → Bool} (hT : q_T n sp) : ∃ d, d < 4 ∧ q_lw sp = 2 ^ d ∧ (∀ e, e < d → sp (2 ^ e) = true) ∧ sp (2 ^ d) = false := by
  unfold q_lw
  cases s1 : sp 1
  · exact ⟨0, by omega, by rw [if_neg Bool.false_ne_true], fun e he => by omega, s1⟩
  · cases s2 : sp 2
    · refine ⟨1, by omega, by rw [if_pos rfl, if_neg Bool.false_ne_true], fun e he => ?_, s2⟩
      have : e = 0 := by omega
      subst this; exact s1
    · cases s4 : sp 4
      · refine ⟨2, by omega, by rw [if_pos rfl, if_pos rfl, if_neg Bool.false_ne_true], fun e he => ?_, s4⟩
        have : e = 0 ∨ e = 1 := by omega
        rcases this with rfl | rfl
        · exact s1
        · exact s2
      · refine ⟨3, by omega, by rw [if_pos rfl, if_pos rfl, if_pos rfl], fun e he => ?_, hT.2.2.1 8 (by omega)⟩
        have : e = 0 ∨ e = 1 ∨ e = 2 := by omega
        rcases this with rfl | rfl | rfl
        · exact s1
        · exact s2
        · exact s4
theorem q_so_pow {n d : Nat} (hd : d < 4) : q_so n (2 ^ d) = 0 := by
  unfold q_so
  have : d = 0 ∨ d = 1 ∨ d = 2 ∨ d = 3 := by omega
  rcases this with rfl | rfl | rfl | rfl
  · rw [show 2 ^ 0 - 2 ^ q_lv (2 ^ 0) = 0 from rfl, Nat.zero_mul]
  · rw [show 2 ^ 1 - 2 ^ q_lv (2 ^ 1) = 0 from rfl, Nat.zero_mul]
  · rw [show 2 ^ 2 - 2 ^ q_lv (2 ^ 2) = 0 from rfl, Nat.zero_mul]
  · rw [show 2 ^ 3 - 2 ^ q_lv (2 ^ 3) = 0 from rfl, Nat.zero_mul]
/-- what the reference notes of an event -/
def q_wh (e : q_ev) : Nat := if e.1 = 0 then 0 else if e.1 = 1 then 64 + e.2.2.2 else if e.1 = 2 then 128 else 192 + e.2.2.2
def q_mE (E : List q_ev) (w : pW) : Prop := w.1 24 18 = nI E.length ∧ ∀ i e, E[i]? = some e → w.2.2 34 i = nI e.2.1 ∧ w.2.2 35 i = nI e.2.2.1 ∧ w.2.2 36 i = nI (q_wh e)
/-- a world in which an event is written -/
def q_mw (c : Nat) (a b d : Int32) (w : pW) : pW := (p_u w.1 24 18 (nI (c + 1)), w.2.1, q_r (q_r (q_r w.2.2 34 (fun j => if j = c then a else w.2.2 34 j)) 35 (fun j => if j = c then b else w.2.2 35 j)) 36 (fun j => if j = c then d else w.2.2 36 j))
section Mwr
variable {n wv : Nat} {sp : Nat → Bool} {x : Nat → Int64} {w : pW}
theorem q_mLayRow (h : q_R n wv sp x w) (hpy : q_py sp = true) : ∃ w', p_ev none 143 0 [.ref 24, p_U, p_U, p_U] [] w = some (.inl none, w', 0) ∧ q_kR w w' ∧ w'.1 24 19 = nI (q_lw sp) ∧ ∀ j, j < n → w'.2.1 32 j = x j := by
  have hT := h.2.1
  have hn := hT.n32
  obtain ⟨d, hd, hL, hsp, hsl⟩ := q_lw_d hT
  have hlw := q_lw_wd hT
  have hlx := q_lw_ex (sp := sp)
  have hlb := q_lw_b (sp := sp)
  have hkR : ∀ g, q_kR w (p_u w.1 24 19 (nI (q_lw sp)), q_r w.2.1 32 g, w.2.2) := fun g => ⟨fun o j hj => if_neg (fun z => hj ⟨z.1, Or.inr z.2⟩), fun b hb => q_r_n hb, fun _ _ => rfl⟩
  have hF := q_mFill (w := (p_u w.1 24 19 (nI (q_lw sp)), w.2.1, w.2.2)) (fr := 0) (nd := q_lw sp) (n := n) (wv := wv) h.1 hn hlb.2 (by omega)
  rw [Nat.zero_add] at hF
  rw [hL] at hF hlx hlw hlb hkR
  have hl := q_mRow_l hn (x1 := nI (2 ^ d)) hpy d _ hd ((hkR (fun j => if 0 ≤ j ∧ j < q_wd n (2 ^ d) then w.2.1 26 (32 * 2 ^ d + (j - 0)) else w.2.1 32 j)).R h) hsp (fun j hj => by
    dsimp only
    rw [q_r_s, if_pos ⟨Nat.zero_le j, hj⟩, Nat.sub_zero, h.2.2.2 (2 ^ d) hlb.2 hlx hsl j hj, q_so_pow hd, Nat.zero_add])
  obtain ⟨g, c1, c2⟩ := hl
  simp only [q_r_r] at c1
  refine ⟨(p_u w.1 24 19 (nI (2 ^ d)), q_r w.2.1 32 g, w.2.2), ?_, hkR g, by rw [hL]; rfl, fun j hj => by dsimp only; rw [q_r_s]; exact c2 j hj⟩
  have h0 := q_mRow_w h.2.2.1 hT
  rw [hL] at h0
  (conv => lhs; simp (disch := first | assumption | omega | (rw [nI_leI] <;> omega) | (rw [nI_ltI] <;> omega) | (rw [nI_eq] <;> omega) | (apply q_out <;> omega) | (apply q_nb; omega) | (apply q_n0 <;> omega)) only [M143, ↓if_pos, ↓if_neg, nI_add, q_sub, q_cl, p_bnd_s, p_bnd_v])
  rw [h0]
  (conv => lhs; simp (disch := first | assumption | omega | (rw [nI_leI] <;> omega) | (rw [nI_ltI] <;> omega) | (rw [nI_eq] <;> omega) | (apply q_out <;> omega) | (apply q_nb; omega) | (apply q_n0 <;> omega)) only [M143, hF, ↓if_pos, ↓if_neg, nI_add, q_sub, q_cl, p_bnd_s, p_bnd_v])
  exact c1
theorem q_mWrite {c : Nat} {a b d : Int32} (hc : w.1 24 18 = nI c) (h : c < 4100) : p_ev none 144 0 [.ref 24, .int a, .int b, .int d] [] w = some (.inl none, q_mw c a b d w, 0) := by
  unfold q_mw
  rw [q_pu]
  (conv => lhs; simp (disch := first | assumption | omega | (rw [nI_leI] <;> omega) | (rw [nI_ltI] <;> omega) | (rw [nI_eq] <;> omega) | (apply q_out <;> omega) | (apply q_nb; omega) | (apply q_n0 <;> omega)) only [M144, hc, q_pu, q_r_s, q_r_n, ↓if_pos, ↓if_neg, nI_add, q_sub, q_cl, p_bnd_s, p_bnd_v])
theorem q_mw_kR {c : Nat} {a b d : Int32} : q_kR w (q_mw c a b d w) := by
  refine ⟨fun o j hj => if_neg (fun z => hj ⟨z.1, Or.inl z.2⟩), fun _ _ => rfl, fun q hq => ?_⟩
  unfold q_mw
  dsimp only
  rw [q_r_n (by omega), q_r_n (by omega), q_r_n (by omega)]
theorem q_mw_l {c : Nat} {a b d : Int32} : (q_mw c a b d w).2.1 = w.2.1 := rfl
theorem q_mw_19 {c : Nat} {a b d : Int32} : (q_mw c a b d w).1 24 19 = w.1 24 19 := rfl
theorem q_mw_2 {c : Nat} {a b d : Int32} : (q_mw c a b d w).1 24 2 = w.1 24 2 := rfl
theorem q_mw_33 {c : Nat} {a b d : Int32} : (q_mw c a b d w).2.2 33 = w.2.2 33 := by
  unfold q_mw
  dsimp only
  rw [q_r_n (by decide), q_r_n (by decide), q_r_n (by decide)]
theorem q_mE_w {E : List q_ev} {e : q_ev} (h : q_mE E w) : q_mE (E ++ [e]) (q_mw E.length (nI e.2.1) (nI e.2.2.1) (nI (q_wh e)) w) := by
  refine ⟨?_, fun i e' hi => ?_⟩
  · rw [List.length_append]; rfl
  · have a1 : (q_mw E.length (nI e.2.1) (nI e.2.2.1) (nI (q_wh e)) w).2.2 34 i = if i = E.length then nI e.2.1 else w.2.2 34 i := by
      unfold q_mw
      dsimp only
      rw [q_r_n (by decide), q_r_n (by decide), q_r_s]
    have a2 : (q_mw E.length (nI e.2.1) (nI e.2.2.1) (nI (q_wh e)) w).2.2 35 i = if i = E.length then nI e.2.2.1 else w.2.2 35 i := by
      unfold q_mw
      dsimp only
      rw [q_r_n (by decide), q_r_s]
    have a3 : (q_mw E.length (nI e.2.1) (nI e.2.2.1) (nI (q_wh e)) w).2.2 36 i = if i = E.length then nI (q_wh e) else w.2.2 36 i := by
      unfold q_mw
      dsimp only
      rw [q_r_s]
    rw [a1, a2, a3]
    by_cases hl : i = E.length
    · subst hl
      rw [List.getElem?_append_right (Nat.le_refl _)] at hi
      simp only [Nat.sub_self, List.getElem?_cons_zero, Option.some.injEq] at hi
      subst hi
      rw [if_pos rfl, if_pos rfl, if_pos rfl]
      exact ⟨rfl, rfl, rfl⟩
    · have hlt : i < E.length := by
        obtain ⟨h1, _⟩ := List.getElem?_eq_some_iff.mp hi
        rw [List.length_append, List.length_singleton] at h1
        omega
      rw [List.getElem?_append_left hlt] at hi
      rw [if_neg hl, if_neg hl, if_neg hl]
      exact h.2 i e' hi
theorem q_mFirst {lo p : Nat} (hM : q_Mw n wv w) (hn : n ≤ 32) (hlo : lo < 2 ^ 20) (hp : p < 2 ^ 20) : p_ev none 145 0 [.ref 24, .int (nI p), .int (nI lo), p_U] [] w = some (.inl (some (.int (if q_de n lo p = true then nI (if p < lo then p + lo else 2 * p) else -1))), w, 0) := by
  unfold q_de
  by_cases hpl : p < lo
  · rw [if_pos hpl]
    by_cases hq : p + lo < n
    · rw [decide_eq_true hq, if_pos rfl]
      (conv => lhs; simp (disch := first | assumption | omega | (rw [nI_leI] <;> omega) | (rw [nI_ltI] <;> omega) | (rw [nI_eq] <;> omega) | (apply q_out <;> omega) | (apply q_nb; omega) | (apply q_n0 <;> omega)) only [M145, hM.1, ↓if_pos, ↓if_neg, nI_add, q_sub, q_cl, p_bnd_s, p_bnd_v])
    · rw [decide_eq_false hq, if_neg Bool.false_ne_true]
      (conv => lhs; simp (disch := first | assumption | omega | (rw [nI_leI] <;> omega) | (rw [nI_ltI] <;> omega) | (rw [nI_eq] <;> omega) | (apply q_out <;> omega) | (apply q_nb; omega) | (apply q_n0 <;> omega)) only [M145, hM.1, ↓if_pos, ↓if_neg, nI_add, q_sub, q_cl, p_bnd_s, p_bnd_v])
  · rw [if_neg hpl]
    by_cases hq : 2 * p < n
    · rw [decide_eq_true hq, if_pos rfl]
      (conv => lhs; simp (disch := first | assumption | omega | (rw [nI_leI] <;> omega) | (rw [nI_ltI] <;> omega) | (rw [nI_eq] <;> omega) | (apply q_out <;> omega) | (apply q_nb; omega) | (apply q_n0 <;> omega)) only [M145, hM.1, pk_mul, ↓if_pos, ↓if_neg, nI_add, q_sub, q_cl, p_bnd_s, p_bnd_v])
    · rw [decide_eq_false hq, if_neg Bool.false_ne_true]
      (conv => lhs; simp (disch := first | assumption | omega | (rw [nI_leI] <;> omega) | (rw [nI_ltI] <;> omega) | (rw [nI_eq] <;> omega) | (apply q_out <;> omega) | (apply q_nb; omega) | (apply q_n0 <;> omega)) only [M145, hM.1, pk_mul, ↓if_pos, ↓if_neg, nI_add, q_sub, q_cl, p_bnd_s, p_bnd_v])
/-- place k is p, or stands below it -/
def q_iu (lo : Nat) : Nat → Nat → Nat → Bool
  | 0, _, _ => false
  | f + 1, k, p => if k ≤ p then decide (k = p) else if lo ≤ k then q_iu lo f (q_pa lo k) p else false
theorem q_iu_f {lo p : Nat} (hlo : 1 ≤ lo) : ∀ (f g k : Nat), k < f → k < g → q_iu lo f k p = q_iu lo g k p
  | 0, _, _, h, _ => absurd h (Nat.not_lt_zero _)
  | _ + 1, 0, _, _, h => absurd h (Nat.not_lt_zero _)
  | f + 1, g + 1, k, hf, hg => by
    rw [q_iu, q_iu]
    by_cases h1 : k ≤ p
    · rw [if_pos h1, if_pos h1]
    · rw [if_neg h1, if_neg h1]
      by_cases h2 : lo ≤ k
      · rw [if_pos h2, if_pos h2]
        have : q_pa lo k < k := by unfold q_pa; split <;> omega
        exact q_iu_f hlo f g _ (by omega) (by omega)
      · rw [if_neg h2, if_neg h2]
theorem q_mUnder_l {lo p : Nat} {x1 : Int32} (hlo : 1 ≤ lo) (hl2 : lo < 2 ^ 20) (hp : p < 2 ^ 20) : ∀ (f k : Nat), k < f → k < 2 ^ 20 → p_ev none 146 3 [.ref 24, .int x1, .int (nI p), .int (nI lo), .int (nI k)] [] w = some (.inl (some (.int (nI (q_iu lo f k p).toNat))), w, 0) := by
  have h20 : ¬ nI 2 = 0 := by decide
  intro f
  induction f with
  | zero => intro k hk; omega
  | succ f ih =>
    intro k hk hk2
    rw [q_iu, H146_3]
    by_cases h1 : k ≤ p
    · rw [if_pos h1]
      by_cases h2 : k = p
      · have h3 : ¬ ¬ nI k = nI p := fun z => z (by rw [h2])
        rw [decide_eq_true h2]
        (conv => lhs; simp (disch := first | assumption | omega | (rw [nI_leI] <;> omega) | (rw [nI_ltI] <;> omega) | (rw [nI_eq] <;> omega) | (apply q_out <;> omega) | (apply q_nb; omega) | (apply q_n0 <;> omega)) only [M146, ↓if_pos, ↓if_neg, nI_add, q_sub, q_cl, p_bnd_s, p_bnd_v]); rfl
      · rw [decide_eq_false h2]
        (conv => lhs; simp (disch := first | assumption | omega | (rw [nI_leI] <;> omega) | (rw [nI_ltI] <;> omega) | (rw [nI_eq] <;> omega) | (apply q_out <;> omega) | (apply q_nb; omega) | (apply q_n0 <;> omega)) only [M146, ↓if_pos, ↓if_neg, nI_add, q_sub, q_cl, p_bnd_s, p_bnd_v]); rfl
    · rw [if_neg h1]
      by_cases h2 : lo ≤ k
      · rw [if_pos h2]
        have hpa : q_pa lo k < k := by unfold q_pa; split <;> omega
        have i1 := ih (q_pa lo k) (by omega) (by omega)
        by_cases h3 : k < 2 * lo
        · have e : q_pa lo k = k - lo := if_pos h3
          rw [e] at i1 ⊢
          (conv => lhs; simp (disch := first | assumption | omega | (rw [nI_leI] <;> omega) | (rw [nI_ltI] <;> omega) | (rw [nI_eq] <;> omega) | (apply q_out <;> omega) | (apply q_nb; omega) | (apply q_n0 <;> omega)) only [M146, pk_mul, ↓if_pos, ↓if_neg, nI_add, q_sub, q_cl, p_bnd_s, p_bnd_v])
          exact i1
        · have e : q_pa lo k = k / 2 := if_neg h3
          rw [e] at i1 ⊢
          (conv => lhs; simp (disch := first | assumption | omega | (rw [nI_leI] <;> omega) | (rw [nI_ltI] <;> omega) | (rw [nI_eq] <;> omega) | (apply q_out <;> omega) | (apply q_nb; omega) | (apply q_n0 <;> omega)) only [M146, pk_mul, q_div, ↓if_pos, ↓if_neg, nI_add, q_sub, q_cl, p_bnd_s, p_bnd_v])
          exact i1
      · rw [if_neg h2]
        have g1 : ¬ nI p < (-1 : Int32) := by
          intro z
          have := Int32.lt_iff_toInt_lt.mp z
          rw [nI_toInt (by omega), show (-1 : Int32).toInt = -1 from rfl] at this
          omega
        have g2 : (-1 : Int32) ≤ nI p := Int32.not_lt.mp g1
        have g3 : ¬ (-1 : Int32) = nI p := by
          intro z
          have := congrArg Int32.toInt z
          rw [nI_toInt (by omega), show (-1 : Int32).toInt = -1 from rfl] at this
          omega
        (conv => lhs; simp (disch := first | assumption | omega | (rw [nI_leI] <;> omega) | (rw [nI_ltI] <;> omega) | (rw [nI_eq] <;> omega) | (apply q_out <;> omega) | (apply q_nb; omega) | (apply q_n0 <;> omega)) only [M146, pk_mul, ↓if_pos, ↓if_neg, nI_add, q_sub, q_cl, p_bnd_s, p_bnd_v])
        rw [H146_3]
        (conv => lhs; simp (disch := first | assumption | omega | (rw [nI_leI] <;> omega) | (rw [nI_ltI] <;> omega) | (rw [nI_eq] <;> omega) | (apply q_out <;> omega) | (apply q_nb; omega) | (apply q_n0 <;> omega)) only [M146, ↓if_pos, ↓if_neg, nI_add, q_sub, q_cl, p_bnd_s, p_bnd_v]); rfl
theorem q_mUnder {lo p k : Nat} (hlo : 1 ≤ lo) (hl2 : lo < 2 ^ 20) (hp : p < 32) (hk : k < 32) : p_ev none 146 0 [.ref 24, .int (nI k), .int (nI p), .int (nI lo), p_U] [] w = some (.inl (some (.int (nI (q_iu lo 33 k p).toNat))), w, 0) := by
  (conv => lhs; simp (disch := first | assumption | omega | (rw [nI_leI] <;> omega) | (rw [nI_ltI] <;> omega) | (rw [nI_eq] <;> omega) | (apply q_out <;> omega) | (apply q_nb; omega) | (apply q_n0 <;> omega)) only [M146, ↓if_pos, ↓if_neg, nI_add, q_sub, q_cl, p_bnd_s, p_bnd_v])
  exact q_mUnder_l hlo hl2 (by omega) 33 k (by omega) (by omega)
/-- is anything under p significant, from place k on -/
def q_an (lo pl p : Nat) (x : Nat → Int64) : Nat → Nat → Bool
  | _, 0 => false
  | k, d + 1 => (decide (lN 0 < q_sh (p_abs (x k)) pl) && q_iu lo 33 k p) || q_an lo pl p x (k + 1) d
theorem q_mAny_l {lo p pl : Nat} (hM : q_Mw n wv w) (hn : n ≤ 32) (hlo : 1 ≤ lo) (hl2 : lo < 2 ^ 20) (hp : p < 32) : ∀ (d k : Nat) (b : Bool), k + d = n → p_ev none 147 8 [.ref 24, .int (nI p), .int (nI lo), .int (nI pl), .int (nI b.toNat), .int (nI k)] [] w = some (.inl (some (.int (nI (b || q_an lo pl p (w.2.1 32) k d).toNat))), w, 0) := by
  have e10 : ¬ nI 1 = nI 0 := by decide
  have e00 : ¬ ¬ nI 0 = nI 0 := by decide
  intro d
  induction d with
  | zero =>
    intro k b hk
    have hb := Bool.toNat_lt b
    rw [q_an, Bool.or_false, H147_8]
    (conv => lhs; simp (disch := first | assumption | omega | (rw [nI_leI] <;> omega) | (rw [nI_ltI] <;> omega) | (rw [nI_eq] <;> omega) | (apply q_out <;> omega) | (apply q_nb; omega) | (apply q_n0 <;> omega)) only [M147, hM.1, ↓if_pos, ↓if_neg, nI_add, q_sub, q_cl, p_bnd_s, p_bnd_v])
  | succ d ih =>
    intro k b hk
    cases b
    · rw [Bool.false_or, q_an, H147_8]
      have i1 := ih (k + 1) false (by omega)
      rw [Bool.false_or] at i1
      have hU := q_mUnder (w := w) hlo hl2 hp (show k < 32 by omega)
      by_cases hs : lN 0 < q_sh (p_abs (w.2.1 32 k)) pl
      · have hs1 : ¬ lg_cmp (p_abs (w.2.1 32 k) >>> ((nI pl).toInt64 &&& 63)) (lN 0) ≤ nI 0 := fun z => absurd hs (Int64.not_lt.mpr (q_cmpE.mp z))
        rw [decide_eq_true hs, Bool.true_and]
        cases hu : q_iu lo 33 k p
        · rw [hu] at hU
          have e0 : (false).toNat = 0 := rfl
          rw [e0] at hU
          rw [Bool.false_or]
          (conv => lhs; simp (disch := first | assumption | omega | (rw [nI_leI] <;> omega) | (rw [nI_ltI] <;> omega) | (rw [nI_eq] <;> omega) | (apply q_out <;> omega) | (apply q_nb; omega) | (apply q_n0 <;> omega)) only [M147, Bool.toNat_false, hM.1, q_mSize, hU, ↓if_pos, ↓if_neg, nI_add, q_sub, q_cl, p_bnd_s, p_bnd_v])
          exact i1
        · rw [hu] at hU
          have e0 : (true).toNat = 1 := rfl
          rw [e0] at hU
          rw [Bool.true_or]
          have i2 := ih (k + 1) true (by omega)
          rw [Bool.true_or] at i2
          (conv => lhs; simp (disch := first | assumption | omega | (rw [nI_leI] <;> omega) | (rw [nI_ltI] <;> omega) | (rw [nI_eq] <;> omega) | (apply q_out <;> omega) | (apply q_nb; omega) | (apply q_n0 <;> omega)) only [M147, Bool.toNat_false, hM.1, q_mSize, hU, ↓if_pos, ↓if_neg, nI_add, q_sub, q_cl, p_bnd_s, p_bnd_v])
          exact i2
      · have hs1 : lg_cmp (p_abs (w.2.1 32 k) >>> ((nI pl).toInt64 &&& 63)) (lN 0) ≤ nI 0 := q_cmpE.mpr (Int64.not_lt.mp hs)
        rw [decide_eq_false hs, Bool.false_and, Bool.false_or]
        (conv => lhs; simp (disch := first | assumption | omega | (rw [nI_leI] <;> omega) | (rw [nI_ltI] <;> omega) | (rw [nI_eq] <;> omega) | (apply q_out <;> omega) | (apply q_nb; omega) | (apply q_n0 <;> omega)) only [M147, Bool.toNat_false, hM.1, q_mSize, ↓if_pos, ↓if_neg, nI_add, q_sub, q_cl, p_bnd_s, p_bnd_v])
        exact i1
    · rw [Bool.true_or, H147_8]
      (conv => lhs; simp (disch := first | assumption | omega | (rw [nI_leI] <;> omega) | (rw [nI_ltI] <;> omega) | (rw [nI_eq] <;> omega) | (apply q_out <;> omega) | (apply q_nb; omega) | (apply q_n0 <;> omega)) only [M147, Bool.toNat_true, hM.1, ↓if_pos, ↓if_neg, nI_add, q_sub, q_cl, p_bnd_s, p_bnd_v])
      rfl
theorem q_mAny {lo p pl : Nat} (hM : q_Mw n wv w) (hn : n ≤ 32) (hlo : 1 ≤ lo) (hl2 : lo < 2 ^ 20) (hp : p < n) : p_ev none 147 0 [.ref 24, .int (nI p), .int (nI lo), .int (nI pl), p_U, p_U] [] w = some (.inl (some (.int (nI (q_an lo pl p (w.2.1 32) (p + 1) (n - (p + 1))).toNat))), w, 0) := by
  have h := q_mAny_l (pl := pl) hM hn hlo hl2 (show p < 32 by omega) (n - (p + 1)) (p + 1) false (by omega)
  rw [Bool.false_or] at h
  (conv => lhs; simp (disch := first | assumption | omega | (rw [nI_leI] <;> omega) | (rw [nI_ltI] <;> omega) | (rw [nI_eq] <;> omega) | (apply q_out <;> omega) | (apply q_nb; omega) | (apply q_n0 <;> omega)) only [M147, ↓if_pos, ↓if_neg, nI_add, q_sub, q_cl, p_bnd_s, p_bnd_v])
  exact h
end Mwr
