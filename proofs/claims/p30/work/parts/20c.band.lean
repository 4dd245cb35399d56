/-! P30: WHAT A FILTER TELLS OF THE HIGH BAND -/
section Bd
variable {n wv k : Nat} {A : Nat → Int64}
theorem ts_bands (hv : wv < 2) (hC : q_DC n wv A) (h1 : 1 ≤ k) (h8 : k < 8) (h2 : 2 ≤ q_wd n k) {j : Nat} (hj : j < q_wd n k / 2) :
    A (64 * k + 32 + j) = A (32 * k + 2 * j + 1) + 1 * q_oc wv 0 (A (32 * k + 2 * j)) (A (32 * k + 2 * q_nx (q_wd n k / 2) j)) ∧ A (64 * k + j) = A (32 * k + 2 * j) + 1 * q_ec wv 1 (A (64 * k + 32 + (j - 1))) (A (64 * k + 32 + j)) := by
  have hn : q_nst wv = 2 := if_neg (by omega)
  have hO : ∀ i, i < q_wd n k / 2 → A (64 * k + 32 + i) = A (32 * k + 2 * i + 1) + 1 * q_oc wv 0 (A (32 * k + 2 * i)) (A (32 * k + 2 * q_nx (q_wd n k / 2) i)) := by
    intro i hi
    have g := (hC k h1 h8 h2 i hi).2
    rw [hn, q_pu2, q_pu2, q_pu2, q_ps, q_ps, if_pos rfl, if_neg (by decide)] at g
    dsimp only at g
    unfold q_pO at g
    rw [q_seg_in (by omega)] at g
    exact g
  refine ⟨hO j hj, ?_⟩
  have g := (hC k h1 h8 h2 j hj).1
  rw [hn, q_pu2, q_pu2, q_pu2, q_ps, q_ps, if_pos rfl, if_neg (by decide)] at g
  dsimp only at g
  unfold q_pE q_pO at g
  rw [q_seg_in (by omega), q_seg_in (by omega), q_seg_in (by omega)] at g
  rw [hO j hj, hO (j - 1) (by omega)]
  exact g
end Bd
def ts_in (B : Int) (v : Int64) : Prop := -B ≤ v.toInt ∧ v.toInt ≤ B
theorem ts_one (v : Int64) : 1 * v = v := Int64.one_mul v
theorem ts_ocI {wv : Nat} {o a b : Int64} {B : Int} (hv : wv < 2) (hB : 1000 ≤ B) (hB2 : B < 2 ^ 40) (ho : ts_in B o) (ha : ts_in B a) (hb : ts_in B b) : ts_in (3 * B) (o + 1 * q_oc wv 0 a b) := by
  obtain ⟨o1, o2⟩ := ho; obtain ⟨a1, a2⟩ := ha; obtain ⟨b1, b2⟩ := hb
  rw [ts_one]
  unfold q_oc
  by_cases h0 : wv = 0
  · rw [if_pos h0]
    have e1 : (-a).toInt = -a.toInt := q_negI (by omega)
    have e2 : (o + -a).toInt = o.toInt + (-a).toInt := q_addI (by omega) (by omega)
    unfold ts_in
    omega
  · rw [if_neg h0, if_pos (show wv = 1 by omega)]
    have e1 : (a + b).toInt = a.toInt + b.toInt := q_addI (by omega) (by omega)
    have e2 : (q_sh (a + b) 1).toInt = (a.toInt + b.toInt) / 2 := by rw [q_shI (by omega), e1]; rfl
    have e3 : (-(q_sh (a + b) 1)).toInt = -(q_sh (a + b) 1).toInt := q_negI (by omega)
    have e4 : (o + -(q_sh (a + b) 1)).toInt = o.toInt + (-(q_sh (a + b) 1)).toInt := q_addI (by omega) (by omega)
    unfold ts_in
    omega
theorem ts_ecI {wv : Nat} {o a b : Int64} {B : Int} (hv : wv < 2) (hB : 1000 ≤ B) (hB2 : B < 2 ^ 40) (ho : ts_in B o) (ha : ts_in (3 * B) a) (hb : ts_in (3 * B) b) : ts_in (4 * B) (o + 1 * q_ec wv 1 a b) := by
  obtain ⟨o1, o2⟩ := ho; obtain ⟨a1, a2⟩ := ha; obtain ⟨b1, b2⟩ := hb
  rw [ts_one]
  unfold q_ec
  by_cases h0 : wv = 0
  · rw [if_pos h0]
    have e2 : (q_sh b 1).toInt = b.toInt / 2 := by rw [q_shI (by omega)]; rfl
    have e4 : (o + q_sh b 1).toInt = o.toInt + (q_sh b 1).toInt := q_addI (by omega) (by omega)
    unfold ts_in
    omega
  · rw [if_neg h0, if_pos (show wv = 1 by omega)]
    have e0 : (lN 2).toInt = 2 := rfl
    have e1 : (a + b).toInt = a.toInt + b.toInt := q_addI (by omega) (by omega)
    have e2 : (a + b + lN 2).toInt = (a + b).toInt + (lN 2).toInt := q_addI (by omega) (by omega)
    have e3 : (q_sh (a + b + lN 2) 2).toInt = (a.toInt + b.toInt + 2) / 4 := by rw [q_shI (by omega), e2, e1, e0]; rfl
    have e4 : (o + q_sh (a + b + lN 2) 2).toInt = o.toInt + (q_sh (a + b + lN 2) 2).toInt := q_addI (by omega) (by omega)
    unfold ts_in
    omega
theorem ts_in_le {B C : Int} {v : Int64} (h : ts_in B v) (hc : B ≤ C) : ts_in C v := ⟨by have := h.1; omega, by have := h.2; omega⟩
/-- no node's numbers are large, with the wavelets 0 and 1 -/
theorem ts_small {n wv : Nat} {A : Nat → Int64} (hn : n = 4 ∨ n = 8 ∨ n = 16 ∨ n = 32) (hv : wv < 2) (hC : q_DC n wv A) (h0 : ∀ j, j < n → ts_in 1000 (A (32 + j))) : ∀ i, 1 ≤ i → i < 16 → ∀ k, k < q_wd n i → ts_in (1000 * 4 ^ q_lv i) (A (32 * i + k)) := by
  have hup : ∀ m : Fin 4, ∀ i : Fin 16, i.val < 2 ∨ q_wd (4 * 2 ^ m.val) i.val = 0 ∨ (2 ≤ q_wd (4 * 2 ^ m.val) (i.val / 2) ∧ q_wd (4 * 2 ^ m.val) i.val = q_wd (4 * 2 ^ m.val) (i.val / 2) / 2 ∧ 2 * (q_wd (4 * 2 ^ m.val) (i.val / 2) / 2) = q_wd (4 * 2 ^ m.val) (i.val / 2) ∧ q_lv i.val = q_lv (i.val / 2) + 1) := by decide +kernel
  intro i
  induction i using Nat.strongRecOn with
  | ind i ih =>
    intro h1 h16 k hk
    rcases Nat.lt_or_ge i 2 with z | z
    · have e : i = 1 := by omega
      subst e
      rw [ts_wd1] at hk
      exact h0 k hk
    · obtain ⟨m, rfl⟩ := q_nfin hn
      rcases hup m ⟨i, h16⟩ with y | y | ⟨y1, y2, y3, y4⟩
      · exact absurd y (by dsimp only; omega)
      · exact absurd hk (by dsimp only at y; omega)
      · dsimp only at y1 y2 y3 y4
        have hl := q_lv3 (i / 2)
        have hp : (4 : Int) ^ q_lv (i / 2) ≤ 64 ∧ 1 ≤ (4 : Int) ^ q_lv (i / 2) := by
          have key : ∀ l : Fin 4, (4 : Int) ^ l.val ≤ 64 ∧ 1 ≤ (4 : Int) ^ l.val := by decide
          exact key ⟨q_lv (i / 2), by omega⟩
        have hB : (1000 : Int) * 4 ^ q_lv i = 4 * (1000 * 4 ^ q_lv (i / 2)) := by rw [y4, Int.pow_succ]; omega
        have q := ih (i / 2) (by omega) (by omega) (by omega)
        have b1 : (1000 : Int) ≤ 1000 * 4 ^ q_lv (i / 2) := by omega
        have b2 : (1000 : Int) * 4 ^ q_lv (i / 2) < 2 ^ 40 := by omega
        rw [hB]
        generalize (1000 : Int) * 4 ^ q_lv (i / 2) = B at q b1 b2 ⊢
        have hodd : ∀ j, j < q_wd (4 * 2 ^ m.val) (i / 2) / 2 → ts_in (3 * B) (A (64 * (i / 2) + 32 + j)) := by
          intro j hj
          have hnx := q_nx_lt (show 1 ≤ q_wd (4 * 2 ^ m.val) (i / 2) / 2 by omega) hj
          rw [(ts_bands hv hC (by omega) (by omega) y1 hj).1]
          exact ts_ocI hv b1 b2 (q (2 * j + 1) (by omega)) (q (2 * j) (by omega)) (q _ (by omega))
        rcases Nat.mod_two_eq_zero_or_one i with hm | hm
        · have e : 32 * i + k = 64 * (i / 2) + k := by omega
          rw [e, (ts_bands hv hC (by omega) (by omega) y1 (show k < q_wd (4 * 2 ^ m.val) (i / 2) / 2 by omega)).2]
          exact ts_ecI hv b1 b2 (q (2 * k) (by omega)) (hodd _ (by omega)) (hodd _ (by omega))
        · have e : 32 * i + k = 64 * (i / 2) + 32 + k := by omega
          rw [e]
          exact ts_in_le (hodd k (by omega)) (by omega)
theorem ts_small2 {n wv : Nat} {A : Nat → Int64} (hn : n = 4 ∨ n = 8 ∨ n = 16 ∨ n = 32) (hv : wv < 2) (hC : q_DC n wv A) (h0 : ∀ j, j < n → ts_in 1000 (A (32 + j))) : ∀ i, 1 ≤ i → i < 16 → ∀ k, k < q_wd n i → ts_in (2 ^ 20) (A (32 * i + k)) := by
  intro i h1 h16 k hk
  refine ts_in_le (ts_small hn hv hC h0 i h1 h16 k hk) ?_
  have hl := q_lv3 i
  have key : ∀ l : Fin 4, (1000 : Int) * 4 ^ l.val ≤ 2 ^ 20 := by decide
  exact key ⟨q_lv i, by omega⟩
/-- the filter's number is the lifted one -/
theorem ts_filt {wv : Nat} {a b c : Int64} {B : Int} (hv : wv < 2) (hB : B ≤ 2 ^ 20) (ha : ts_in B a) (hb : ts_in B b) (hc : ts_in B c) : b + 1 * q_oc wv 0 a c = if wv = 0 then b - a else q_sh (lN 2 * b - a - c + lN 1) 1 := by
  obtain ⟨a1, a2⟩ := ha; obtain ⟨b1, b2⟩ := hb; obtain ⟨c1, c2⟩ := hc
  rw [ts_one]
  unfold q_oc
  by_cases h0 : wv = 0
  · rw [if_pos h0, if_pos h0]
    exact (Int64.sub_eq_add_neg ..).symm
  · rw [if_neg h0, if_neg h0, if_pos (show wv = 1 by omega)]
    have k2 : (lN 2).toInt = 2 := rfl
    have k1 : (lN 1).toInt = 1 := rfl
    have e1 : (lN 2 * b).toInt = 2 * b.toInt := by rw [q_mulI (by rw [k2]; omega) (by rw [k2]; omega), k2]
    have e2 : (lN 2 * b - a).toInt = (lN 2 * b).toInt - a.toInt := q_subI (by omega) (by omega)
    have e3 : (lN 2 * b - a - c).toInt = (lN 2 * b - a).toInt - c.toInt := q_subI (by omega) (by omega)
    have e4 : (lN 2 * b - a - c + lN 1).toInt = (lN 2 * b - a - c).toInt + (lN 1).toInt := q_addI (by omega) (by omega)
    have e5 : (a + c).toInt = a.toInt + c.toInt := q_addI (by omega) (by omega)
    have e6 : (q_sh (a + c) 1).toInt = (a.toInt + c.toInt) / 2 := by rw [q_shI (by omega), e5]; rfl
    have e7 : (-(q_sh (a + c) 1)).toInt = -(q_sh (a + c) 1).toInt := q_negI (by omega)
    have e8 : (b + -(q_sh (a + c) 1)).toInt = b.toInt + (-(q_sh (a + c) 1)).toInt := q_addI (by omega) (by omega)
    have e9 : (q_sh (lN 2 * b - a - c + lN 1) 1).toInt = (lN 2 * b - a - c + lN 1).toInt / 2 := by rw [q_shI (by omega)]; rfl
    apply Int64.toInt_inj.mp
    rw [e9, e8, e7, e6, e4, e3, e2, e1, k1]
    omega
/-- what filtered tells of a leaf is what the high band holds when the leaf is split -/
theorem ts_high {n wv k : Nat} {A x : Nat → Int64} {sp : Nat → Bool} (hn : n = 4 ∨ n = 8 ∨ n = 16 ∨ n = 32) (hv : wv < 2) (hC : q_DC n wv A) (h0 : ∀ j, j < n → ts_in 1000 (A (32 + j))) (hR : q_RR n sp A x) (h1 : 1 ≤ k) (h8 : k < 8) (hx : q_ex sp k = true) (hs : sp k = false) (h2 : 2 ≤ q_wd n k) {j : Nat} (hj : j < q_wd n k / 2) :
    q_ft wv x (q_so n k + 2 * j) (q_wd n k / 2) j = A (32 * (2 * k + 1) + j) := by
  have hnx := q_nx_lt (show 1 ≤ q_wd n k / 2 by omega) hj
  have hag := fun m hm => hR k (by omega) hx hs m hm
  have hsm := ts_small2 hn hv hC h0 k h1 (by omega)
  rw [show 32 * (2 * k + 1) + j = 64 * k + 32 + j by omega, (ts_bands hv hC h1 h8 h2 hj).1, Nat.add_assoc (32 * k) (2 * j) 1, ts_filt hv (Int.le_refl _) (hsm (2 * j) (by omega)) (hsm (2 * j + 1) (by omega)) (hsm (2 * q_nx (q_wd n k / 2) j) (by omega))]
  unfold q_ft
  rw [hag (2 * j) (by omega), hag (2 * j + 1) (by omega), hag (2 * q_nx (q_wd n k / 2) j) (by omega)]
  have e : (if j + 1 < q_wd n k / 2 then q_so n k + 2 * j + 2 else q_so n k + 2 * j) = q_so n k + 2 * q_nx (q_wd n k / 2) j := by
    unfold q_nx
    split
    · omega
    · omega
  rw [e, show q_so n k + 2 * j + 1 = q_so n k + (2 * j + 1) by omega]
