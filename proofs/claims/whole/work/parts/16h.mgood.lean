/-! WHAT IS LEARNT IS WHAT IS TOLD -/
def q_sg (x : Nat → Int64) (j : Nat) : Nat := if x j < lN 0 then 2 else 1
/-- all that is known down to plane P -/
def q_fs (x : Nat → Int64) (r : Nat → Nat) (P : Nat) : Nat → q_ls := fun j => if r j / 2 ^ P = 0 then (0, 0, 0) else (r j / 2 ^ P * 2 ^ P, P + 1, q_sg x j)
/-- an event that fits what is known -/
def q_gd (x : Nat → Int64) (r : Nat → Nat) (st : Nat → q_ls) (e : q_ev) : Prop := e.1 = 0 ∨ (e.1 = 1 ∧ st e.2.2.1 = (0, 0, 0)) ∨ (2 ≤ e.1 ∧ q_stp st e e.2.2.1 = (r e.2.2.1 / 2 ^ e.2.2.2 * 2 ^ e.2.2.2, e.2.2.2 + 1, q_sg x e.2.2.1))
def q_stl : (Nat → q_ls) → List q_ev → (Nat → q_ls)
  | st, [] => st
  | st, e :: es => q_stl (q_stp st e) es
def q_Gd (x : Nat → Int64) (r : Nat → Nat) : (Nat → q_ls) → List q_ev → Prop
  | _, [] => True
  | st, e :: es => q_gd x r st e ∧ q_Gd x r (q_stp st e) es
theorem q_stl_app : ∀ (A : List q_ev) (st : Nat → q_ls) (B : List q_ev), q_stl st (A ++ B) = q_stl (q_stl st A) B
  | [], _, _ => rfl
  | e :: A, st, B => q_stl_app A (q_stp st e) B
theorem q_Gd_app {x : Nat → Int64} {r : Nat → Nat} : ∀ (A : List q_ev) (st : Nat → q_ls) (B : List q_ev), q_Gd x r st A → q_Gd x r (q_stl st A) B → q_Gd x r st (A ++ B)
  | [], _, _, _, h => h
  | e :: A, st, B, h, g => ⟨h.1, q_Gd_app A (q_stp st e) B h.2 g⟩
theorem q_Gd_at {x : Nat → Int64} {r : Nat → Nat} : ∀ (E : List q_ev) (st : Nat → q_ls) (k : Nat) (e : q_ev), q_Gd x r st E → E[k]? = some e → q_gd x r (q_stl st (E.take k)) e
  | [], _, k, e, _, h => absurd h (by simp)
  | a :: E, st, 0, e, h, hk => by
    simp only [List.getElem?_cons_zero, Option.some.injEq] at hk
    rw [← hk]; exact h.1
  | a :: E, st, k + 1, e, h, hk => by
    rw [List.getElem?_cons_succ] at hk
    exact q_Gd_at E (q_stp st a) k e h.2 hk
theorem q_stp0 {st : Nat → q_ls} {e : q_ev} (h : e.1 = 0) : q_stp st e = st := by
  funext j; unfold q_stp
  rw [if_pos h, ite_self]
section Go
variable {n lo : Nat} {x R : Nat → Int64} {r : Nat → Nat}
/-- the sizes of a row as plain numbers -/
def q_rn (n : Nat) (x : Nat → Int64) (r : Nat → Nat) : Prop := (∀ j, j < n → p_abs (x j) = lN (r j) ∧ r j < 2 ^ 63) ∧ ∀ j, n ≤ j → r j = 0
theorem q_rn_ex (h : q_ns n x) : ∃ r, q_rn n x r := by
  obtain ⟨r, hr⟩ := q_ns_N h
  refine ⟨fun j => if j < n then r j else 0, fun j hj => ?_, fun j hj => if_neg (by omega)⟩
  dsimp only
  rw [if_pos hj]; exact hr j hj
theorem q_b1N {c : Nat} : q_b1 (lN c) = c % 2 := by
  unfold q_b1
  rw [wb_tb, BitVec.getLsbD_ofNat]
  simp only [Nat.testBit_zero]
  rcases Nat.mod_two_eq_zero_or_one c with h | h <;> rw [h] <;> decide
theorem q_half_div {a P : Nat} : a / 2 ^ (P + 1) = a / 2 ^ P / 2 := by rw [Nat.pow_succ, Nat.div_div_eq_div_mul]
/-- in the first pass, before place k -/
def q_p1 (x : Nat → Int64) (r : Nat → Nat) (pl k : Nat) : Nat → q_ls := fun j => if j < k ∧ r j / 2 ^ pl = 1 then (2 ^ pl, pl + 1, q_sg x j) else q_fs x r (pl + 1) j
theorem q_go1 (hr : q_rn n x r) {pl : Nat} (hpl : pl < 63) {k : Nat} (hk : k < n) : q_Gd x r (q_p1 x r pl k) (q_f1 n lo x R pl k) ∧ q_stl (q_p1 x r pl k) (q_f1 n lo x R pl k) = q_p1 x r pl (k + 1) := by
  obtain ⟨h1, h2⟩ := hr.1 k hk
  have hd : r k / 2 ^ pl ≤ r k := Nat.div_le_self _ _
  have hv : q_sh (p_abs (x k)) pl = lN (r k / 2 ^ pl) := by rw [h1, q_shN h2 hpl]
  have hone : q_sh (p_abs (x k)) pl = lN 1 ↔ r k / 2 ^ pl = 1 := by
    rw [hv]; exact pk_lEQ (Nat.lt_of_le_of_lt hd h2) (by omega)
  unfold q_f1
  by_cases hc : q_sh (p_abs (x k)) pl = lN 1
  · rw [if_pos hc]
    have hc1 := hone.mp hc
    have hf : q_fs x r (pl + 1) k = (0, 0, 0) := by
      unfold q_fs; rw [if_pos]; rw [q_half_div, hc1]
    have hk0 : q_p1 x r pl k k = (0, 0, 0) := by unfold q_p1; rw [if_neg (by omega)]; exact hf
    have hst : q_stp (q_stp (q_p1 x r pl k) (1, 1, k, pl)) (2, if x k < lN 0 then 1 else 0, k, pl) = q_p1 x r pl (k + 1) := by
      funext j
      by_cases hj : j = k
      · subst hj
        unfold q_stp
        dsimp only
        rw [if_pos rfl, if_neg (by decide), if_neg (by decide), if_pos rfl, if_pos rfl, if_neg (by decide), if_pos rfl, hk0]
        have e1 : q_p1 x r pl (j + 1) j = (2 ^ pl, pl + 1, q_sg x j) := by
          unfold q_p1; exact if_pos ⟨by omega, hc1⟩
        rw [e1]
        unfold q_sg
        by_cases hn0 : x j < lN 0
        · rw [if_pos hn0, if_pos hn0]; rfl
        · rw [if_neg hn0, if_neg hn0]; rfl
      · unfold q_stp
        dsimp only
        rw [if_neg hj, if_neg hj]
        unfold q_p1
        by_cases hj2 : j < k ∧ r j / 2 ^ pl = 1
        · rw [if_pos hj2, if_pos ⟨by omega, hj2.2⟩]
        · rw [if_neg hj2, if_neg (fun z => hj2 ⟨by omega, z.2⟩)]
    refine ⟨⟨Or.inr (Or.inl ⟨rfl, hk0⟩), Or.inr (Or.inr ⟨Nat.le_refl _, ?_⟩), trivial⟩, hst⟩
    rw [hst]
    show q_p1 x r pl (k + 1) k = (r k / 2 ^ pl * 2 ^ pl, pl + 1, q_sg x k)
    unfold q_p1
    rw [if_pos ⟨by omega, hc1⟩, hc1, Nat.one_mul]
  · rw [if_neg hc]
    have hne : r k / 2 ^ pl ≠ 1 := fun z => hc (hone.mpr z)
    have hsame : q_p1 x r pl k = q_p1 x r pl (k + 1) := by
      funext j; unfold q_p1
      by_cases hj : j = k
      · subst hj
        rw [if_neg (by omega), if_neg (fun z => hne z.2)]
      · by_cases hj2 : j < k ∧ r j / 2 ^ pl = 1
        · rw [if_pos hj2, if_pos ⟨by omega, hj2.2⟩]
        · rw [if_neg hj2, if_neg (fun z => hj2 ⟨by omega, z.2⟩)]
    split
    · split
      · refine ⟨⟨Or.inl rfl, Or.inl rfl, trivial⟩, ?_⟩
        rw [q_stl, q_stl, q_stl, q_stp0 rfl, q_stp0 rfl]; exact hsame
      · refine ⟨⟨Or.inl rfl, trivial⟩, ?_⟩
        rw [q_stl, q_stl, q_stp0 rfl]; exact hsame
    · exact ⟨trivial, hsame⟩
theorem q_go2 (hr : q_rn n x r) {pl : Nat} (hpl : pl < 63) : ∀ (d k : Nat), k + d ≤ n → q_Gd x r (q_p1 x r pl k) (q_f2 n lo x R pl k d) ∧ q_stl (q_p1 x r pl k) (q_f2 n lo x R pl k d) = q_p1 x r pl (k + d)
  | 0, _, _ => ⟨trivial, rfl⟩
  | d + 1, k, hk => by
    have h1 := q_go1 (lo := lo) (R := R) hr hpl (show k < n by omega)
    have h2 := q_go2 hr hpl d (k + 1) (by omega)
    rw [q_f2, q_stl_app, h1.2]
    refine ⟨q_Gd_app _ _ _ h1.1 (by rw [h1.2]; exact h2.1), ?_⟩
    rw [h2.2, show k + 1 + d = k + (d + 1) by omega]
/-- in the second pass, before place k -/
def q_p2 (n : Nat) (x : Nat → Int64) (r : Nat → Nat) (pl k : Nat) : Nat → q_ls := fun j => if j < k then q_fs x r pl j else q_p1 x r pl n j
theorem q_go3 (hr : q_rn n x r) {pl : Nat} (hpl : pl < 63) {k : Nat} (hk : k < n) : q_Gd x r (q_p2 n x r pl k) (q_s1 x pl k) ∧ q_stl (q_p2 n x r pl k) (q_s1 x pl k) = q_p2 n x r pl (k + 1) := by
  obtain ⟨h1, h2⟩ := hr.1 k hk
  have hd : r k / 2 ^ pl ≤ r k := Nat.div_le_self _ _
  have hv : q_sh (p_abs (x k)) pl = lN (r k / 2 ^ pl) := by rw [h1, q_shN h2 hpl]
  have hbig : lN 1 < q_sh (p_abs (x k)) pl ↔ 1 < r k / 2 ^ pl := by
    rw [hv]; exact pk_lLT (by omega) (Nat.lt_of_le_of_lt hd h2)
  have hoth : ∀ j, j ≠ k → q_p2 n x r pl (k + 1) j = q_p2 n x r pl k j := by
    intro j hj; unfold q_p2
    by_cases h : j < k
    · rw [if_pos h, if_pos (by omega)]
    · rw [if_neg h, if_neg (by omega)]
  have hnew : q_p2 n x r pl (k + 1) k = q_fs x r pl k := by unfold q_p2; rw [if_pos (by omega)]
  have hold : q_p2 n x r pl k k = q_p1 x r pl n k := by unfold q_p2; rw [if_neg (by omega)]
  unfold q_s1
  by_cases hc : lN 1 < q_sh (p_abs (x k)) pl
  · rw [if_pos hc]
    have hc1 := hbig.mp hc
    have hp1 : q_p1 x r pl n k = (r k / 2 ^ (pl + 1) * 2 ^ (pl + 1), pl + 2, q_sg x k) := by
      unfold q_p1 q_fs
      have hz : ¬ r k / 2 ^ (pl + 1) = 0 := by rw [q_half_div]; generalize r k / 2 ^ pl = c at hc1; omega
      rw [if_neg (fun z => by rw [z.2] at hc1; exact absurd hc1 (by decide)), if_neg hz]
    have hbit : q_b1 (q_sh (p_abs (x k)) pl) = r k / 2 ^ pl % 2 := by rw [hv, q_b1N]
    have hfs : q_fs x r pl k = (r k / 2 ^ pl * 2 ^ pl, pl + 1, q_sg x k) := by
      unfold q_fs; rw [if_neg (fun z => by rw [z] at hc1; exact absurd hc1 (by decide))]
    have hst : q_stp (q_p2 n x r pl k) (3, q_b1 (q_sh (p_abs (x k)) pl), k, pl) = q_p2 n x r pl (k + 1) := by
      funext j
      by_cases hj : j = k
      · subst hj
        rw [hnew, hfs]
        unfold q_stp
        dsimp only
        rw [if_pos rfl, if_neg (by decide), if_neg (by decide), if_neg (by decide), hold, hp1, hbit]
        have e : r j / 2 ^ (pl + 1) * 2 ^ (pl + 1) + r j / 2 ^ pl % 2 * 2 ^ pl = r j / 2 ^ pl * 2 ^ pl := by
          rw [q_half_div, Nat.pow_succ, Nat.mul_comm (2 ^ pl) 2, ← Nat.mul_assoc, ← Nat.add_mul]
          congr 1
          generalize r j / 2 ^ pl = c
          omega
        rw [e]
      · rw [hoth j hj]
        unfold q_stp
        dsimp only
        rw [if_neg hj]
    refine ⟨⟨Or.inr (Or.inr ⟨show 2 ≤ 3 by decide, ?_⟩), trivial⟩, hst⟩
    rw [hst]
    show q_p2 n x r pl (k + 1) k = _
    rw [hnew, hfs]
  · rw [if_neg hc]
    refine ⟨trivial, ?_⟩
    have hc1 : ¬ 1 < r k / 2 ^ pl := fun z => hc (hbig.mpr z)
    funext j
    rw [q_stl]
    by_cases hj : j = k
    · subst hj
      rw [hnew, hold]
      unfold q_p1 q_fs
      by_cases h1 : r j / 2 ^ pl = 1
      · rw [if_pos ⟨hk, h1⟩, h1, if_neg (by decide), Nat.one_mul]
      · have h0 : r j / 2 ^ pl = 0 := (Nat.le_one_iff_eq_zero_or_eq_one.mp (Nat.not_lt.mp hc1)).resolve_right h1
        rw [if_neg (fun z => h1 z.2), if_pos h0, if_pos (by rw [q_half_div, h0])]
    · exact (hoth j hj).symm
theorem q_go4 (hr : q_rn n x r) {pl : Nat} (hpl : pl < 63) : ∀ (d k : Nat), k + d ≤ n → q_Gd x r (q_p2 n x r pl k) (q_s2 x pl k d) ∧ q_stl (q_p2 n x r pl k) (q_s2 x pl k d) = q_p2 n x r pl (k + d)
  | 0, _, _ => ⟨trivial, rfl⟩
  | d + 1, k, hk => by
    have h1 := q_go3 hr hpl (show k < n by omega)
    have h2 := q_go4 hr hpl d (k + 1) (by omega)
    rw [q_s2, q_stl_app, h1.2]
    refine ⟨q_Gd_app _ _ _ h1.1 (by rw [h1.2]; exact h2.1), ?_⟩
    rw [h2.2, show k + 1 + d = k + (d + 1) by omega]
theorem q_p2_n (hr : q_rn n x r) {pl : Nat} : q_p2 n x r pl n = q_fs x r pl := by
  funext j; unfold q_p2
  by_cases h : j < n
  · rw [if_pos h]
  · have h0 := hr.2 j (by omega)
    rw [if_neg h]
    unfold q_p1 q_fs
    rw [if_neg (fun z => h z.1), h0, Nat.zero_div, if_pos rfl, Nat.zero_div, if_pos rfl]
theorem q_go5 (hr : q_rn n x r) : ∀ (P : Nat), P ≤ 63 → q_Gd x r (q_fs x r P) (q_pl n lo x R P) ∧ q_stl (q_fs x r P) (q_pl n lo x R P) = q_fs x r 0
  | 0, _ => ⟨trivial, rfl⟩
  | P + 1, hP => by
    have e0 : q_fs x r (P + 1) = q_p1 x r P 0 := by funext j; unfold q_p1; rw [if_neg (by omega)]
    have h1 := q_go2 (lo := lo) (R := R) hr (show P < 63 by omega) n 0 (by omega)
    have e1 : q_p1 x r P (0 + n) = q_p2 n x r P 0 := by funext j; unfold q_p2; rw [if_neg (by omega), Nat.zero_add]
    have h2 := q_go4 hr (show P < 63 by omega) n 0 (by omega)
    have h3 := q_go5 hr P (by omega)
    rw [Nat.zero_add, q_p2_n hr] at h2
    rw [q_pl, e0, q_stl_app, q_stl_app, h1.2, e1, h2.2]
    refine ⟨q_Gd_app _ _ _ h1.1 ?_, h3.2⟩
    rw [h1.2, e1]
    refine q_Gd_app _ _ _ h2.1 ?_
    rw [h2.2]; exact h3.1
theorem q_go6 {P : Nat} {st : Nat → q_ls} : ∀ d, q_Gd x r st (q_hd P d) ∧ q_stl st (q_hd P d) = st
  | 0 => ⟨trivial, rfl⟩
  | d + 1 => by
    have h := q_go6 (P := P) (st := st) d
    rw [q_hd, q_Gd, q_stl, q_stp0 rfl]
    exact ⟨⟨Or.inl rfl, h.1⟩, h.2⟩
theorem q_dgl_z {a : Nat} (ha : a < 2 ^ 63) : ∀ (f d : Nat), d + f = 63 → a / 2 ^ (q_dgl (lN a) f d) = 0
  | 0, d, h => by
    have : d = 63 := by omega
    subst this
    exact Nat.div_eq_of_lt ha
  | f + 1, d, h => by
    rw [q_dgl, q_shN ha (by omega)]
    have hd : a / 2 ^ d ≤ a := Nat.div_le_self _ _
    by_cases hz : lN (a / 2 ^ d) = lN 0
    · rw [if_pos hz]; exact (pk_lEQ (Nat.lt_of_le_of_lt hd ha) (by omega)).mp hz
    · rw [if_neg hz]; exact q_dgl_z ha f (d + 1) (by omega)
theorem q_mx_ge (h : q_ns n x) (hr : q_rn n x r) {c : Nat} (hc : c < 2 ^ 63) : ∀ k, k ≤ n → q_mx x k = lN c → ∀ j, j < k → r j ≤ c := by
  have key : ∀ k, k ≤ n → ∃ c, c < 2 ^ 63 ∧ q_mx x k = lN c ∧ ∀ j, j < k → r j ≤ c := by
    intro k
    induction k with
    | zero => intro _; exact ⟨0, by decide, rfl, fun j hj => by omega⟩
    | succ k ih =>
      intro hk
      obtain ⟨c, c1, c2, c3⟩ := ih (by omega)
      obtain ⟨a1, a2⟩ := hr.1 k (by omega)
      refine ⟨max c (r k), by omega, by rw [q_mx, c2, a1, q_maxN c1 a2], fun j hj => ?_⟩
      by_cases e : j = k
      · rw [e]; omega
      · have := c3 j (by omega); omega
  intro k hk he j hj
  obtain ⟨c', c1, c2, c3⟩ := key k hk
  rw [c2] at he
  have := (pk_lEQ c1 hc).mp he
  rw [← this]; exact c3 j hj
theorem q_fs_top (h : q_ns n x) (hr : q_rn n x r) : q_fs x r (q_dg (q_mx x n)) = fun _ => (0, 0, 0) := by
  obtain ⟨c, c1, c2⟩ := q_mx_N h n (Nat.le_refl _)
  have hz := q_dgl_z c1 63 0 rfl
  funext j; unfold q_fs
  rw [if_pos]
  by_cases hj : j < n
  · have hle := q_mx_ge h hr c1 n (Nat.le_refl _) c2 j hj
    rw [c2]
    exact Nat.le_zero.mp (by rw [← hz]; exact Nat.div_le_div_right hle)
  · rw [hr.2 j (by omega), Nat.zero_div]
theorem q_go (h : q_ns n x) (hr : q_rn n x r) : q_Gd x r (fun _ => (0, 0, 0)) (q_cd n lo x) ∧ q_stl (fun _ => (0, 0, 0)) (q_cd n lo x) = q_fs x r 0 := by
  unfold q_cd q_code
  have h6 := q_go6 (x := x) (r := r) (P := q_dg (q_mx x n)) (st := fun _ => (0, 0, 0)) 6
  have h5 := q_go5 (lo := lo) (R := q_rd lo n (q_ab x (fun _ => lN 0) n)) hr (q_dg (q_mx x n)) q_dg_le
  rw [q_fs_top h hr] at h5
  rw [q_stl_app, h6.2]
  refine ⟨q_Gd_app _ _ _ h6.1 ?_, h5.2⟩
  rw [h6.2]; exact h5.1
theorem q_bk_full (hr : q_rn n x r) {p pl : Nat} (hp : p < n) (hpl : pl < 63) : q_bk (r p / 2 ^ pl * 2 ^ pl, pl + 1, q_sg x p) = q_kn (x p) pl := by
  obtain ⟨h1, h2⟩ := hr.1 p hp
  have hs : q_sl64 (q_sh (p_abs (x p)) pl) pl = lN (r p / 2 ^ pl * 2 ^ pl) := by
    rw [h1, q_shN h2 hpl]; exact wb_shl _ (by omega)
  have hks : q_ks (x p) pl = lN (r p / 2 ^ pl * 2 ^ pl) + (if 2 ≤ pl + 1 then lN (2 ^ (pl + 1 - 2)) else lN 0) := by
    unfold q_ks
    rw [hs]
    by_cases h0 : pl = 0
    · rw [if_pos h0, if_neg (by omega)]; exact (Int64.add_zero _).symm
    · rw [if_neg h0, if_pos (by omega)]
      have : q_sl64 (lN 1) (pl - 1) = lN (1 * 2 ^ (pl - 1)) := wb_shl 1 (by omega)
      rw [this, Nat.one_mul, show pl + 1 - 2 = pl - 1 by omega]
  unfold q_bk q_kn
  dsimp only
  rw [← hks]
  unfold q_sg
  by_cases hn : x p < lN 0
  · rw [if_pos hn, if_pos hn]
    show (q_sn 2).toInt64 * _ = _
    rw [show (q_sn 2).toInt64 = -1 by decide, Int64.neg_mul, Int64.one_mul]
  · rw [if_neg hn, if_neg hn]
    show (q_sn 1).toInt64 * _ = _
    rw [show (q_sn 1).toInt64 = 1 by decide, Int64.one_mul]
theorem q_bk0 {l : q_ls} (h : l.2.2 = 0) : q_bk l = lN 0 := by
  unfold q_bk
  rw [h, show (q_sn 0).toInt64 = 0 by decide, Int64.zero_mul]; rfl
theorem q_bk_stp (hr : q_rn n x r) {st : Nat → q_ls} {e : q_ev} (ho : e.2.2.2 < 63) (hg : q_gd x r st e) {j : Nat} (hj : j < n) : q_bk (q_stp st e j) = if 2 ≤ e.1 ∧ j = e.2.2.1 then q_kn (x j) e.2.2.2 else q_bk (st j) := by
  by_cases hp : j = e.2.2.1
  · rcases hg with h0 | ⟨h1, h2⟩ | ⟨h1, h2⟩
    · rw [if_neg (fun z => by rw [h0] at z; exact absurd z.1 (by decide)), q_stp0 h0]
    · rw [if_neg (fun z => by rw [h1] at z; exact absurd z.1 (by decide))]
      have hst : st j = (0, 0, 0) := by rw [hp]; exact h2
      unfold q_stp
      rw [if_pos hp, h1, if_neg (by decide), if_pos rfl, hst, q_bk0 rfl, q_bk0 rfl]
    · rw [if_pos ⟨h1, hp⟩, hp, h2]
      exact q_bk_full hr (by rw [← hp]; exact hj) ho
  · rw [if_neg (fun z => hp z.2)]
    unfold q_stp
    rw [if_neg hp]
theorem q_take_S {E : List q_ev} {k : Nat} {e : q_ev} (hk : E[k]? = some e) : E.take (k + 1) = E.take k ++ [e] := by
  rw [List.take_add_one, hk]; rfl
theorem q_td_bk (h : q_ns n x) (hr : q_rn n x r) (hpl : ∀ e ∈ q_cd n lo x, e.2.2.2 < 63) : ∀ k, k ≤ (q_cd n lo x).length → ∀ j, j < n → q_td (q_cd n lo x) x k j = q_bk (q_stl (fun _ => (0, 0, 0)) ((q_cd n lo x).take k) j)
  | 0, _, j, hj => by
    rw [q_td, List.take_zero]; exact (q_bk0 rfl).symm
  | k + 1, hk, j, hj => by
    have hge := List.getElem?_eq_getElem (show k < (q_cd n lo x).length by omega)
    have hg := q_Gd_at _ _ k _ (q_go (lo := lo) h hr).1 hge
    rw [q_td, hge, q_take_S hge, q_stl_app]
    dsimp only
    rw [q_stl, q_stl, q_bk_stp hr (hpl _ (List.getElem_mem _)) hg hj, q_td_bk h hr hpl k (by omega) j hj]
theorem q_td_full (h : q_ns n x) (hpl : ∀ e ∈ q_cd n lo x, e.2.2.2 < 63) : ∀ j, j < n → q_td (q_cd n lo x) x (q_cd n lo x).length j = x j := by
  intro j hj
  obtain ⟨r, hr⟩ := q_rn_ex h
  obtain ⟨h1, h2⟩ := hr.1 j hj
  rw [q_td_bk h hr hpl _ (Nat.le_refl _) j hj, List.take_length, (q_go h hr).2]
  unfold q_fs
  by_cases hz : r j / 2 ^ 0 = 0
  · rw [if_pos hz, q_bk0 rfl]
    rw [Nat.pow_zero, Nat.div_one] at hz
    rw [hz] at h1
    unfold p_abs at h1
    by_cases hp : 0 < x j
    · rw [if_pos hp] at h1; exact h1.symm
    · rw [if_neg hp] at h1
      have := congrArg (fun z => -z) h1
      simp only [Int64.neg_neg] at this
      rw [this]; rfl
  · rw [if_neg hz, q_bk_full hr hj (by decide)]
    unfold q_kn q_ks
    rw [if_pos rfl]
    have hs : q_sl64 (q_sh (p_abs (x j)) 0) 0 = p_abs (x j) := by
      rw [h1, q_shN h2 (by decide), Nat.pow_zero, Nat.div_one]
      have : q_sl64 (lN (r j)) 0 = lN (r j * 2 ^ 0) := wb_shl _ (by decide)
      rw [this, Nat.pow_zero, Nat.mul_one]
    rw [hs]
    unfold p_abs
    by_cases hn : x j < lN 0
    · have hp : ¬ (0 : Int64) < x j := fun z => absurd (Int64.lt_trans z hn) (Int64.lt_irrefl)
      rw [if_pos hn, if_neg hp, Int64.neg_neg]
    · rw [if_neg hn]
      by_cases hp : 0 < x j
      · rw [if_pos hp]
      · have : x j = 0 := Int64.le_antisymm (Int64.not_lt.mp hp) (Int64.not_lt.mp hn)
        rw [if_neg hp, this]; rfl
end Go
