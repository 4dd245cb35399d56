/-! THE REFERENCE LEARNS (the wb_ rows are starting texts out of kit/laws/BITS) -/
theorem wb_tb (n : Nat) : (lN n).toBitVec = BitVec.ofNat 64 n := rfl
theorem wb_inj {a b : Int64} (h : a.toBitVec = b.toBitVec) : a = b := Int64.toBitVec_inj.mp h
theorem wb_c : ∀ k, k < 64 → ((nI k).toInt64 &&& 63) = lN k := by decide +kernel
theorem wb_sm : ∀ k, k < 64 → (BitVec.ofNat 64 k).smod 64 = BitVec.ofNat 64 k := by decide +kernel
theorem wb_shl (n : Nat) {k : Nat} (hk : k < 64) : lN n <<< ((nI k).toInt64 &&& 63) = lN (n * 2 ^ k) := by
  rw [wb_c k hk]
  apply wb_inj
  rw [Int64.toBitVec_shiftLeft, wb_tb, wb_tb, wb_tb, wb_sm k hk]
  apply BitVec.eq_of_toNat_eq
  rw [BitVec.shiftLeft_eq', BitVec.toNat_shiftLeft, BitVec.toNat_ofNat, BitVec.toNat_ofNat, BitVec.toNat_ofNat, Nat.mod_eq_of_lt (show k < 2 ^ 64 by omega), Nat.shiftLeft_eq, Nat.mul_mod, Nat.mod_mod, ← Nat.mul_mod]
/-- what is known of a number: its digits, one more than the plane, and 1 for +, 2 for - -/
abbrev q_ls : Type := Nat × Nat × Nat
def q_stp (st : Nat → q_ls) (e : q_ev) : Nat → q_ls := fun j => if j = e.2.2.1 then (if e.1 = 0 then st j else if e.1 = 1 then (2 ^ e.2.2.2, e.2.2.2 + 1, (st j).2.2) else if e.1 = 2 then ((st j).1, (st j).2.1, if e.2.1 = 1 then 2 else 1) else ((st j).1 + e.2.1 * 2 ^ e.2.2.2, e.2.2.2 + 1, (st j).2.2)) else st j
def q_dw (d : Nat) : Int32 := if d = 0 then -1 else nI (d - 1)
def q_sn (s : Nat) : Int32 := if s = 0 then nI 0 else if s = 1 then nI 1 else -1
def q_St (n : Nat) (st : Nat → q_ls) (w : pW) : Prop := ∀ j, j < n → w.2.1 37 j = lN (st j).1 ∧ w.2.2 38 j = q_dw (st j).2.1 ∧ w.2.2 39 j = q_sn (st j).2.2
def q_bk (l : q_ls) : Int64 := (q_sn l.2.2).toInt64 * (lN l.1 + (if 2 ≤ l.2.1 then lN (2 ^ (l.2.1 - 2)) else lN 0))
/-- what learning leaves alone -/
def q_kL (w w' : pW) : Prop := w'.1 = w.1 ∧ (∀ b, b ≠ 37 → w'.2.1 b = w.2.1 b) ∧ ∀ b, b ≠ 38 → b ≠ 39 → w'.2.2 b = w.2.2 b
section Mle
variable {n wv : Nat} {sp : Nat → Bool} {x : Nat → Int64} {w : pW}
theorem q_kL.rf : q_kL w w := ⟨rfl, fun _ _ => rfl, fun _ _ _ => rfl⟩
theorem q_kL.tr {a b c : pW} (h : q_kL a b) (g : q_kL b c) : q_kL a c := ⟨g.1.trans h.1, fun o ho => (g.2.1 o ho).trans (h.2.1 o ho), fun o h1 h2 => (g.2.2 o h1 h2).trans (h.2.2 o h1 h2)⟩
theorem q_kL.fm {a b : pW} (h : q_kL a b) : q_FM a b := ⟨fun o _ => congrFun h.1 o, fun o ho => h.2.1 o (by omega), fun o ho => h.2.2 o (by omega) (by omega)⟩
theorem q_kL.R {a b : pW} (h : q_kL a b) (g : q_R n wv sp x a) : q_R n wv sp x b := ⟨⟨by rw [h.1]; exact g.1.1, by rw [h.1]; exact g.1.2.1, g.1.2.2.1, g.1.2.2.2⟩, g.2.1, fun i hi => by rw [h.2.2 25 (by decide) (by decide)]; exact g.2.2.1 i hi, by rw [h.2.1 26 (by decide)]; exact g.2.2.2⟩
theorem q_kL.E {a b : pW} {E : List q_ev} (h : q_kL a b) (g : q_mE E a) : q_mE E b := by
  refine ⟨by rw [h.1]; exact g.1, fun i e hi => ?_⟩
  rw [h.2.2 34 (by decide) (by decide), h.2.2 35 (by decide) (by decide), h.2.2 36 (by decide) (by decide)]
  exact g.2 i e hi
theorem q_mForget_l (hM : q_Mw n wv w) (hn : n ≤ 32) : ∀ (d k : Nat) (w : pW), k + d = n → q_Mw n wv w → (∀ j, j < k → w.2.1 37 j = lN 0 ∧ w.2.2 38 j = -1 ∧ w.2.2 39 j = nI 0) → ∃ w', p_ev none 150 2 [.ref 24, .int (nI k)] [] w = some (.inl none, w', 0) ∧ q_kL w w' ∧ q_St n (fun _ => (0, 0, 0)) w' := by
  intro d
  induction d with
  | zero =>
    intro k w hk hM hw
    have e : k = n := by omega
    subst e
    refine ⟨w, ?_, q_kL.rf, hw⟩
    rw [H150_2]
    (conv => lhs; simp (disch := first | assumption | omega | (rw [nI_leI] <;> omega) | (rw [nI_ltI] <;> omega) | (rw [nI_eq] <;> omega) | (apply q_out <;> omega) | (apply q_nb; omega) | (apply q_n0 <;> omega)) only [M150, hM.1, ↓if_pos, ↓if_neg, nI_add, q_sub, q_cl, p_bnd_s, p_bnd_v])
  | succ d ih =>
    intro k w hk hM hw
    obtain ⟨w', c1, c2, c3⟩ := ih (k + 1) (w.1, q_r w.2.1 37 (fun j => if j = k then lN 0 else w.2.1 37 j), q_r (q_r w.2.2 38 (fun j => if j = k then -1 else w.2.2 38 j)) 39 (fun j => if j = k then nI 0 else w.2.2 39 j)) (by omega) ⟨hM.1, hM.2.1, hM.2.2.1, hM.2.2.2⟩ (fun j hj => by
      dsimp only
      rw [q_r_s, q_r_n (show (38 : Nat) ≠ 39 by decide), q_r_s, q_r_s]
      by_cases h1 : j = k
      · rw [if_pos h1, if_pos h1, if_pos h1]; exact ⟨rfl, rfl, rfl⟩
      · rw [if_neg h1, if_neg h1, if_neg h1]; exact hw j (by omega))
    refine ⟨w', ?_, q_kL.tr ?_ c2, c3⟩
    · rw [H150_2]
      (conv => lhs; simp (disch := first | assumption | omega | (rw [nI_leI] <;> omega) | (rw [nI_ltI] <;> omega) | (rw [nI_eq] <;> omega) | (apply q_out <;> omega) | (apply q_nb; omega) | (apply q_n0 <;> omega)) only [M150, hM.1, q_pu, q_r_n, ↓if_pos, ↓if_neg, nI_add, q_sub, q_cl, p_bnd_s, p_bnd_v])
      exact c1
    · exact ⟨rfl, fun b hb => q_r_n hb, fun b h1 h2 => (q_r_n h2).trans (q_r_n h1)⟩
theorem q_mForget (hM : q_Mw n wv w) (hn : n ≤ 32) : ∃ w', p_ev none 150 0 [.ref 24, p_U] [] w = some (.inl none, w', 0) ∧ q_kL w w' ∧ q_St n (fun _ => (0, 0, 0)) w' := by
  obtain ⟨w', c1, c2, c3⟩ := q_mForget_l hM hn n 0 w (by omega) hM (fun j hj => by omega)
  refine ⟨w', ?_, c2, c3⟩
  (conv => lhs; simp (disch := first | assumption | omega | (rw [nI_leI] <;> omega) | (rw [nI_ltI] <;> omega) | (rw [nI_eq] <;> omega) | (apply q_out <;> omega) | (apply q_nb; omega) | (apply q_n0 <;> omega)) only [M150, ↓if_pos, ↓if_neg, nI_add, q_sub, q_cl, p_bnd_s, p_bnd_v])
  exact c1
theorem q_mLearn {E : List q_ev} {e : q_ev} {k : Nat} {st : Nat → q_ls} (hE : q_mE E w) (hk : E[k]? = some e) (hk2 : k < 4100) (ho : q_ok e) (hn : n ≤ 32) (hp : e.2.2.1 < n) (hst : q_St n st w) : ∃ w', p_ev none 151 0 [.ref 24, .int (nI k), p_U, p_U, p_U] [] w = some (.inl none, w', 0) ∧ q_St n (q_stp st e) w' ∧ q_kL w w' := by
  obtain ⟨kd, bit, p, pl⟩ := e
  obtain ⟨o1, o2, o3⟩ := ho
  dsimp only at o1 o2 o3 hp
  obtain ⟨a1, a2, a3⟩ := hE.2 k _ hk
  dsimp only at a1 a2 a3
  obtain ⟨s1, s2, s3⟩ := hst p hp
  have h64 : ¬ nI 64 = 0 := by decide
  have hshl : ∀ v, lN v <<< ((nI pl).toInt64 &&& 63) = lN (v * 2 ^ pl) := fun v => wb_shl v o3
  have n13 : ¬ nI 1 = nI 3 := by decide
  have n12 : ¬ nI 1 = nI 2 := by decide
  have n21 : ¬ nI 2 = nI 1 := by decide
  have n23 : ¬ nI 2 = nI 3 := by decide
  have n31 : ¬ nI 3 = nI 1 := by decide
  have n32 : ¬ nI 3 = nI 2 := by decide
  have n01 : ¬ nI 0 = nI 1 := by decide
  have n02 : ¬ nI 0 = nI 2 := by decide
  have n03 : ¬ nI 0 = nI 3 := by decide
  by_cases k0 : kd = 0
  · subst k0
    have t : q_wh (0, bit, p, pl) = 0 := rfl
    rw [t] at a3
    have d1 : nI 0 / nI 64 = nI 0 := by decide
    refine ⟨w, ?_, fun j hj => ?_, q_kL.rf⟩
    · (conv => lhs; simp (disch := first | assumption | omega | (rw [nI_leI] <;> omega) | (rw [nI_ltI] <;> omega) | (rw [nI_eq] <;> omega) | (apply q_out <;> omega) | (apply q_nb; omega) | (apply q_n0 <;> omega)) only [M151, a2, a3, d1, ↓if_pos, ↓if_neg, nI_add, q_sub, q_cl, p_bnd_s, p_bnd_v])
    · unfold q_stp
      dsimp only
      rw [if_pos rfl, ite_self]; exact hst j hj
  · by_cases k1 : kd = 1
    · subst k1
      have t : q_wh (1, bit, p, pl) = 64 + pl := rfl
      rw [t] at a3
      have d1 : nI (64 + pl) / nI 64 = nI 1 := by rw [q_div (by omega) (by omega) (by omega), show (64 + pl) / 64 = 1 by omega]
      have d2 : nI (64 + pl) - nI 1 * nI 64 = nI pl := by rw [pk_mul, q_sub (by omega), show 64 + pl - 1 * 64 = pl by omega]
      have e1 : ¬ ¬ nI 1 = nI 1 := by decide
      have h1 := hshl 1
      rw [Nat.one_mul] at h1
      refine ⟨(w.1, q_r w.2.1 37 (fun j => if j = p then lN (2 ^ pl) else w.2.1 37 j), q_r w.2.2 38 (fun j => if j = p then nI pl else w.2.2 38 j)), ?_, fun j hj => ?_, ⟨rfl, fun b hb => q_r_n hb, fun b g1 g2 => q_r_n g1⟩⟩
      · (conv => lhs; simp (disch := first | assumption | omega | (rw [nI_leI] <;> omega) | (rw [nI_ltI] <;> omega) | (rw [nI_eq] <;> omega) | (apply q_out <;> omega) | (apply q_nb; omega) | (apply q_n0 <;> omega)) only [M151, a2, a3, d1, d2, h1, q_pu, ↓if_pos, ↓if_neg, nI_add, q_sub, q_cl, p_bnd_s, p_bnd_v])
      · dsimp only
        rw [q_r_s, q_r_s, q_r_n (show (39 : Nat) ≠ 38 by decide)]
        unfold q_stp
        dsimp only
        by_cases hj2 : j = p
        · rw [if_pos hj2, if_pos hj2, if_pos hj2, if_neg (by decide), if_pos rfl]
          exact ⟨rfl, rfl, (hst j hj).2.2⟩
        · rw [if_neg hj2, if_neg hj2, if_neg hj2]; exact hst j hj
    · by_cases k2 : kd = 2
      · subst k2
        have t : q_wh (2, bit, p, pl) = 128 := rfl
        rw [t] at a3
        have d1 : nI 128 / nI 64 = nI 2 := by decide
        have e2 : ¬ ¬ nI 2 = nI 2 := by decide
        have hb : bit = 0 ∨ bit = 1 := by omega
        refine ⟨(w.1, w.2.1, q_r w.2.2 39 (fun j => if j = p then (if bit = 1 then -1 else nI 1) else w.2.2 39 j)), ?_, fun j hj => ?_, ⟨rfl, fun _ _ => rfl, fun b g1 g2 => q_r_n g2⟩⟩
        · rcases hb with rfl | rfl
          · have e5 : ¬ ¬ ¬ nI 0 = nI 1 := by decide
            (conv => lhs; simp (disch := first | assumption | omega | (rw [nI_leI] <;> omega) | (rw [nI_ltI] <;> omega) | (rw [nI_eq] <;> omega) | (apply q_out <;> omega) | (apply q_nb; omega) | (apply q_n0 <;> omega)) only [M151, a1, a2, a3, d1, q_pu, ↓if_pos, ↓if_neg, nI_add, q_sub, q_cl, p_bnd_s, p_bnd_v])
            rw [if_neg (by decide)]
          · have e5 : ¬ ¬ nI 1 = nI 1 := by decide
            (conv => lhs; simp (disch := first | assumption | omega | (rw [nI_leI] <;> omega) | (rw [nI_ltI] <;> omega) | (rw [nI_eq] <;> omega) | (apply q_out <;> omega) | (apply q_nb; omega) | (apply q_n0 <;> omega)) only [M151, a1, a2, a3, d1, q_pu, ↓if_pos, ↓if_neg, nI_add, q_sub, q_cl, p_bnd_s, p_bnd_v])
            rw [if_pos rfl]
        · dsimp only
          rw [q_r_s, q_r_n (show (38 : Nat) ≠ 39 by decide)]
          unfold q_stp
          dsimp only
          by_cases hj2 : j = p
          · rw [if_pos hj2, if_pos hj2, if_neg (by decide), if_neg (by decide), if_pos rfl]
            refine ⟨(hst j hj).1, (hst j hj).2.1, ?_⟩
            rcases hb with rfl | rfl <;> rfl
          · rw [if_neg hj2, if_neg hj2]; exact hst j hj
      · have t : q_wh (kd, bit, p, pl) = 192 + pl := by unfold q_wh; dsimp only; rw [if_neg k0, if_neg k1, if_neg k2]
        rw [t] at a3
        have d1 : nI (192 + pl) / nI 64 = nI 3 := by rw [q_div (by omega) (by omega) (by omega), show (192 + pl) / 64 = 3 by omega]
        have d2 : nI (192 + pl) - nI 3 * nI 64 = nI pl := by rw [pk_mul, q_sub (by omega), show 192 + pl - 3 * 64 = pl by omega]
        have e3 : ¬ ¬ nI 3 = nI 3 := by decide
        have hbl : (nI bit).toInt64 = lN bit := nI_l (by omega)
        have h1 := hshl bit
        refine ⟨(w.1, q_r w.2.1 37 (fun j => if j = p then lN ((st p).1 + bit * 2 ^ pl) else w.2.1 37 j), q_r w.2.2 38 (fun j => if j = p then nI pl else w.2.2 38 j)), ?_, fun j hj => ?_, ⟨rfl, fun b hb => q_r_n hb, fun b g1 g2 => q_r_n g1⟩⟩
        · (conv => lhs; simp (disch := first | assumption | omega | (rw [nI_leI] <;> omega) | (rw [nI_ltI] <;> omega) | (rw [nI_eq] <;> omega) | (apply q_out <;> omega) | (apply q_nb; omega) | (apply q_n0 <;> omega)) only [M151, a1, a2, a3, d1, d2, s1, hbl, h1, lN_add, q_pu, ↓if_pos, ↓if_neg, nI_add, q_sub, q_cl, p_bnd_s, p_bnd_v])
        · dsimp only
          rw [q_r_s, q_r_s, q_r_n (show (39 : Nat) ≠ 38 by decide)]
          unfold q_stp
          dsimp only
          by_cases hj2 : j = p
          · rw [if_pos hj2, if_pos hj2, if_pos hj2, if_neg k0, if_neg k1, if_neg k2]
            refine ⟨by rw [hj2], rfl, (hst j hj).2.2⟩
          · rw [if_neg hj2, if_neg hj2, if_neg hj2]; exact hst j hj
theorem q_mBack {st : Nat → q_ls} {p : Nat} (hn : n ≤ 32) (hp : p < n) (hst : q_St n st w) (hd : (st p).2.1 ≤ 65) : p_ev none 152 0 [.ref 24, .int (nI p), p_U, p_U] [] w = some (.inl (some (.long (q_bk (st p)))), w, 0) := by
  obtain ⟨s1, s2, s3⟩ := hst p hp
  unfold q_bk
  by_cases h2 : 2 ≤ (st p).2.1
  · have e2 : q_dw (st p).2.1 = nI ((st p).2.1 - 1) := if_neg (by omega)
    rw [e2] at s2
    have hne : ¬ nI ((st p).2.1 - 1) ≤ nI 0 := by rw [nI_leI (by omega) (by omega)]; omega
    have hsb : nI ((st p).2.1 - 1) - nI 1 = nI ((st p).2.1 - 2) := by rw [q_sub (by omega)]; exact congrArg nI (by omega)
    have hsl : lN 1 <<< ((nI ((st p).2.1 - 2)).toInt64 &&& 63) = lN (1 * 2 ^ ((st p).2.1 - 2)) := wb_shl 1 (by omega)
    rw [Nat.one_mul] at hsl
    rw [if_pos h2]
    (conv => lhs; simp (disch := first | assumption | omega | (rw [nI_leI] <;> omega) | (rw [nI_ltI] <;> omega) | (rw [nI_eq] <;> omega) | (apply q_out <;> omega) | (apply q_nb; omega) | (apply q_n0 <;> omega)) only [M152, s1, s2, s3, hsb, hsl, ↓if_pos, ↓if_neg, nI_add, q_sub, q_cl, p_bnd_s, p_bnd_v])
  · have hle : q_dw (st p).2.1 ≤ nI 0 := by
      unfold q_dw
      split
      · decide
      · rw [nI_leI (by omega) (by omega)]; omega
    rw [if_neg h2]
    (conv => lhs; simp (disch := first | assumption | omega | (rw [nI_leI] <;> omega) | (rw [nI_ltI] <;> omega) | (rw [nI_eq] <;> omega) | (apply q_out <;> omega) | (apply q_nb; omega) | (apply q_n0 <;> omega)) only [M152, s1, s2, s3, ↓if_pos, ↓if_neg, nI_add, q_sub, q_cl, p_bnd_s, p_bnd_v])
theorem q_mPour_l {st : Nat → q_ls} {fr nd : Nat} (hM : q_Mw n wv w) (hn : n ≤ 32) (hnd : nd < 16) (hf : fr + q_wd n nd ≤ n) (hst : q_St n st w) (hd : ∀ j, j < n → (st j).2.1 ≤ 65) : ∀ (d k : Nat), k + d = q_wd n nd → p_ev none 153 2 [.ref 24, .int (nI fr), .int (nI nd), .int (nI k)] [] (w.1, q_r w.2.1 29 (fun j => if 32 * nd ≤ j ∧ j < 32 * nd + k then q_bk (st (fr + (j - 32 * nd))) else w.2.1 29 j), w.2.2) = some (.inl (some (.int (nI (fr + q_wd n nd)))), (w.1, q_r w.2.1 29 (fun j => if 32 * nd ≤ j ∧ j < 32 * nd + q_wd n nd then q_bk (st (fr + (j - 32 * nd))) else w.2.1 29 j), w.2.2), 0) := by
  have hMw : ∀ g, q_Mw n wv (w.1, q_r w.2.1 29 g, w.2.2) := fun g => ⟨hM.1, hM.2.1, hM.2.2.1, hM.2.2.2⟩
  have hsw : ∀ g, q_St n st (w.1, q_r w.2.1 29 g, w.2.2) := fun g j hj => by
    dsimp only
    rw [q_r_n (by decide)]; exact hst j hj
  have hw := q_wdle n nd
  intro d
  induction d with
  | zero =>
    intro k hk
    have e : k = q_wd n nd := by omega
    subst e
    rw [H153_2]
    (conv => lhs; simp (disch := first | assumption | omega | (rw [nI_leI] <;> omega) | (rw [nI_ltI] <;> omega) | (rw [nI_eq] <;> omega) | (apply q_out <;> omega) | (apply q_nb; omega) | (apply q_n0 <;> omega)) only [M153, q_sizeAt (hMw _), ↓if_pos, ↓if_neg, nI_add, q_sub, q_cl, p_bnd_s, p_bnd_v])
  | succ d ih =>
    intro k hk
    have i1 := ih (k + 1) (by omega)
    have hB := fun g => q_mBack (p := fr + k) hn (by omega) (hsw g) (hd _ (by omega))
    have e : (fun j => if 32 * nd ≤ j ∧ j < 32 * nd + (k + 1) then q_bk (st (fr + (j - 32 * nd))) else w.2.1 29 j) = fun j => if j = 32 * nd + k then q_bk (st (fr + k)) else if 32 * nd ≤ j ∧ j < 32 * nd + k then q_bk (st (fr + (j - 32 * nd))) else w.2.1 29 j := by
      funext j
      by_cases h1 : j = 32 * nd + k
      · rw [if_pos h1, if_pos (by omega), h1, show 32 * nd + k - 32 * nd = k by omega]
      · rw [if_neg h1]
        by_cases h2 : 32 * nd ≤ j ∧ j < 32 * nd + k
        · rw [if_pos h2, if_pos (by omega)]
        · rw [if_neg h2, if_neg (by omega)]
    rw [e] at i1
    rw [H153_2]
    (conv => lhs; simp (disch := first | assumption | omega | (rw [nI_leI] <;> omega) | (rw [nI_ltI] <;> omega) | (rw [nI_eq] <;> omega) | (apply q_out <;> omega) | (apply q_nb; omega) | (apply q_n0 <;> omega)) only [M153, q_sizeAt (hMw _), pk_mul, hB, q_pu, q_r_s, q_r_r, ↓if_pos, ↓if_neg, nI_add, q_sub, q_cl, p_bnd_s, p_bnd_v])
    exact i1
theorem q_mPour {st : Nat → q_ls} {fr nd : Nat} (hM : q_Mw n wv w) (hn : n ≤ 32) (hnd : nd < 16) (hf : fr + q_wd n nd ≤ n) (hst : q_St n st w) (hd : ∀ j, j < n → (st j).2.1 ≤ 65) : p_ev none 153 0 [.ref 24, .int (nI fr), .int (nI nd), p_U] [] w = some (.inl (some (.int (nI (fr + q_wd n nd)))), (w.1, q_r w.2.1 29 (fun j => if 32 * nd ≤ j ∧ j < 32 * nd + q_wd n nd then q_bk (st (fr + (j - 32 * nd))) else w.2.1 29 j), w.2.2), 0) := by
  have h := q_mPour_l hM hn hnd hf hst hd (q_wd n nd) 0 (by omega)
  have e : (fun j => if 32 * nd ≤ j ∧ j < 32 * nd + 0 then q_bk (st (fr + (j - 32 * nd))) else w.2.1 29 j) = w.2.1 29 := by
    funext j; rw [if_neg (by omega)]
  rw [e, q_r_id] at h
  (conv => lhs; simp (disch := first | assumption | omega | (rw [nI_leI] <;> omega) | (rw [nI_ltI] <;> omega) | (rw [nI_eq] <;> omega) | (apply q_out <;> omega) | (apply q_nb; omega) | (apply q_n0 <;> omega)) only [M153, ↓if_pos, ↓if_neg, nI_add, q_sub, q_cl, p_bnd_s, p_bnd_v])
  exact h
end Mle
