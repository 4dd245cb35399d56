/-! LIFTING IN WHOLE NUMBERS WITHOUT BOUNDS, AND WITHOUT ROUNDING -/
def bo_oc (wv st : Nat) (a b : Int) : Int := if wv = 0 then -a else if wv = 1 then -((a + b) / 2) else ((if st = 0 then -6497 else 3616) * (a + b) + 2048) / 4096
def bo_ec (wv st : Nat) (a b : Int) : Int := if wv = 0 then b / 2 else if wv = 1 then (a + b + 2) / 4 else ((if st = 1 then -217 else 1817) * (a + b) + 2048) / 4096
theorem bo_oc_0 {st : Nat} {a b : Int} : bo_oc 0 st a b = -a := rfl
theorem bo_oc_1 {st : Nat} {a b : Int} : bo_oc 1 st a b = -((a + b) / 2) := rfl
theorem bo_oc_2 {a b : Int} : bo_oc 2 0 a b = (-6497 * (a + b) + 2048) / 4096 := rfl
theorem bo_oc_3 {a b : Int} : bo_oc 2 2 a b = (3616 * (a + b) + 2048) / 4096 := rfl
theorem bo_ec_0 {st : Nat} {a b : Int} : bo_ec 0 st a b = b / 2 := rfl
theorem bo_ec_1 {st : Nat} {a b : Int} : bo_ec 1 st a b = (a + b + 2) / 4 := rfl
theorem bo_ec_2 {a b : Int} : bo_ec 2 1 a b = (-217 * (a + b) + 2048) / 4096 := rfl
theorem bo_ec_3 {a b : Int} : bo_ec 2 3 a b = (1817 * (a + b) + 2048) / 4096 := rfl
def bo_ps (wv st : Nat) (sg : Int) (h : Nat) (p : bo_p) : bo_p := if st % 2 = 0 then (p.1, fun k => p.2 k + sg * bo_oc wv st (p.1 k) (p.1 (q_nx h k))) else (fun k => p.1 k + sg * bo_ec wv st (p.2 (k - 1)) (p.2 k), p.2)
def bo_up (wv h : Nat) (p : bo_p) : bo_p := if wv = 2 then bo_ps wv 3 1 h (bo_ps wv 2 1 h (bo_ps wv 1 1 h (bo_ps wv 0 1 h p))) else bo_ps wv 1 1 h (bo_ps wv 0 1 h p)
def bo_dn (wv h : Nat) (p : bo_p) : bo_p := if wv = 2 then bo_ps wv 0 (-1) h (bo_ps wv 1 (-1) h (bo_ps wv 2 (-1) h (bo_ps wv 3 (-1) h p))) else bo_ps wv 0 (-1) h (bo_ps wv 1 (-1) h p)
theorem bo_ps_inv {wv st h : Nat} (p : bo_p) : bo_ps wv st 1 h (bo_ps wv st (-1) h p) = p := by
  unfold bo_ps
  by_cases he : st % 2 = 0
  · rw [if_pos he, if_pos he]
    refine Prod.ext rfl (funext fun k => ?_)
    dsimp only
    omega
  · rw [if_neg he, if_neg he]
    refine Prod.ext (funext fun k => ?_) rfl
    dsimp only
    omega
theorem bo_up_dn {wv h : Nat} (p : bo_p) : bo_up wv h (bo_dn wv h p) = p := by
  unfold bo_up bo_dn
  by_cases h2 : wv = 2
  · rw [if_pos h2, if_pos h2, bo_ps_inv, bo_ps_inv, bo_ps_inv, bo_ps_inv]
  · rw [if_neg h2, if_neg h2, bo_ps_inv, bo_ps_inv]
/-- rounding: at most 6 off -/
def bo_nr (S : Int) (p q : bo_p) (r : Int) : Prop := ∀ k, (-r ≤ S * p.1 k - q.1 k ∧ S * p.1 k - q.1 k ≤ r) ∧ (-r ≤ S * p.2 k - q.2 k ∧ S * p.2 k - q.2 k ≤ r)
theorem bo_rd0 {h : Nat} (p : bo_p) : bo_nr 2 (bo_up 0 h p) (bo_lsp 0 h p) 12 := by
  intro k
  unfold bo_up bo_lsp
  rw [if_neg (by decide), if_pos rfl]
  unfold bo_ps
  rw [if_neg (by decide), if_pos (by decide)]
  unfold bo_lE bo_lO
  dsimp only
  simp only [bo_oc_0, bo_ec_0]
  omega
theorem bo_rd1 {h : Nat} (p : bo_p) : bo_nr 8 (bo_up 1 h p) (bo_lsp 1 h p) 48 := by
  intro k
  unfold bo_up bo_lsp
  rw [if_neg (by decide), if_neg (by decide), if_pos rfl]
  unfold bo_ps
  rw [if_neg (by decide), if_pos (by decide)]
  unfold bo_lE bo_lO
  dsimp only
  simp only [bo_oc_1, bo_ec_1]
  omega
theorem bo_rd2 {h : Nat} (p : bo_p) : bo_nr (4096 ^ 4) (bo_up 2 h p) (bo_lsp 2 h p) (6 * 4096 ^ 4) := by
  have s1 : ∀ k, -2048 ≤ 4096 * (bo_ps 2 0 1 h p).2 k - (bo_lO 4096 (-6497) (-6497) h p).2 k ∧ 4096 * (bo_ps 2 0 1 h p).2 k - (bo_lO 4096 (-6497) (-6497) h p).2 k ≤ 2048 := by
    intro k
    unfold bo_ps bo_lO
    rw [if_pos (by decide)]
    dsimp only
    simp only [bo_oc_2]
    omega
  have s1e : ∀ k, 4096 * (bo_ps 2 0 1 h p).1 k - (bo_lO 4096 (-6497) (-6497) h p).1 k = 0 := by
    intro k
    unfold bo_ps bo_lO
    rw [if_pos (by decide)]
    dsimp only
    omega
  have e1 : bo_up 2 h p = bo_ps 2 3 1 h (bo_ps 2 2 1 h (bo_ps 2 1 1 h (bo_ps 2 0 1 h p))) := rfl
  have e2 : bo_lsp 2 h p = bo_lE 4096 1817 1817 (bo_lO 4096 3616 3616 h (bo_lE 4096 (-217) (-217) (bo_lO 4096 (-6497) (-6497) h p))) := rfl
  rw [e1, e2]
  generalize bo_ps 2 0 1 h p = p1 at *
  generalize bo_lO 4096 (-6497) (-6497) h p = l1 at *
  have s2 : ∀ k, (-10066330 ≤ 16777216 * (bo_ps 2 1 1 h p1).1 k - (bo_lE 4096 (-217) (-217) l1).1 k ∧ 16777216 * (bo_ps 2 1 1 h p1).1 k - (bo_lE 4096 (-217) (-217) l1).1 k ≤ 10066330) ∧ -8388608 ≤ 16777216 * (bo_ps 2 1 1 h p1).2 k - (bo_lE 4096 (-217) (-217) l1).2 k ∧ 16777216 * (bo_ps 2 1 1 h p1).2 k - (bo_lE 4096 (-217) (-217) l1).2 k ≤ 8388608 := by
    intro k
    have a1 := s1 k
    have a2 := s1 (k - 1)
    have a3 := s1e k
    unfold bo_ps bo_lE
    rw [if_neg (by decide)]
    dsimp only
    simp only [bo_ec_2]
    omega
  generalize bo_ps 2 1 1 h p1 = p2 at *
  generalize bo_lE 4096 (-217) (-217) l1 = l2 at *
  clear s1 s1e e1 e2
  have s3 : ∀ k, (-41231687680 ≤ 68719476736 * (bo_ps 2 2 1 h p2).1 k - (bo_lO 4096 3616 3616 h l2).1 k ∧ 68719476736 * (bo_ps 2 2 1 h p2).1 k - (bo_lO 4096 3616 3616 h l2).1 k ≤ 41231687680) ∧ -141600000000 ≤ 68719476736 * (bo_ps 2 2 1 h p2).2 k - (bo_lO 4096 3616 3616 h l2).2 k ∧ 68719476736 * (bo_ps 2 2 1 h p2).2 k - (bo_lO 4096 3616 3616 h l2).2 k ≤ 141600000000 := by
    intro k
    have a1 := s2 k
    have a2 := s2 (q_nx h k)
    unfold bo_ps bo_lO
    rw [if_pos (by decide)]
    dsimp only
    simp only [bo_oc_3]
    omega
  generalize bo_ps 2 2 1 h p2 = p3 at *
  generalize bo_lO 4096 3616 3616 h l2 = l3 at *
  intro k
  have a1 := s3 k
  have a2 := s3 (k - 1)
  unfold bo_ps bo_lE
  rw [if_neg (by decide)]
  dsimp only
  simp only [bo_ec_3]
  omega
theorem bo_rd {wv h : Nat} (hw : wv < 3) (p : bo_p) : bo_nr (bn_S wv) (bo_up wv h p) (bo_lsp wv h p) (6 * bn_S wv) := by
  have h3 : wv = 0 ∨ wv = 1 ∨ wv = 2 := by omega
  rcases h3 with z | z | z <;> subst z
  · exact bo_rd0 p
  · exact bo_rd1 p
  · exact bo_rd2 p
/-! THE LONGS KEEP UP WHILE THE NUMBERS ARE SMALL -/
def bo_tI (h : Nat) (P : (Nat → Int64) × (Nat → Int64)) (p : bo_p) : Prop := ∀ k, k < h → (P.1 k).toInt = p.1 k ∧ (P.2 k).toInt = p.2 k
theorem bo_oc_n {st : Nat} {a b : Int} (h : ¬ st = 0) : bo_oc 2 st a b = (3616 * (a + b) + 2048) / 4096 := by
  show ((if st = 0 then (-6497 : Int) else 3616) * (a + b) + 2048) / 4096 = _
  rw [if_neg h]
theorem bo_ec_n {st : Nat} {a b : Int} (h : ¬ st = 1) : bo_ec 2 st a b = (1817 * (a + b) + 2048) / 4096 := by
  show ((if st = 1 then (-217 : Int) else 1817) * (a + b) + 2048) / 4096 = _
  rw [if_neg h]
theorem bo_qoc_n {st : Nat} {a b : Int64} (h : ¬ st = 0) : q_oc 2 st a b = q_sh (lN 3616 * (a + b) + lN 2048) 12 := by
  show q_sh ((if st = 0 then (-6497 : Int64) else lN 3616) * (a + b) + lN 2048) 12 = _
  rw [if_neg h]
theorem bo_qec_n {st : Nat} {a b : Int64} (h : ¬ st = 1) : q_ec 2 st a b = q_sh (lN 1817 * (a + b) + lN 2048) 12 := by
  show q_sh ((if st = 1 then (-217 : Int64) else lN 1817) * (a + b) + lN 2048) 12 = _
  rw [if_neg h]
theorem bo_mI {f : Int} {F a : Int64} {M : Int} (hF : F.toInt = f) (h1 : -(2 ^ 63) ≤ f * a.toInt) (h2 : f * a.toInt + 2048 < 2 ^ 63) : (q_sh (F * a + lN 2048) 12).toInt = (f * a.toInt + 2048) / 4096 := by
  have e3 : (lN 2048).toInt = 2048 := rfl
  have e2 : (F * a).toInt = f * a.toInt := by rw [q_mulI (by rw [hF]; omega) (by rw [hF]; omega), hF]
  rw [q_shI (by omega), q_addI (by rw [e2, e3]; omega) (by rw [e2, e3]; omega), e2, e3]; rfl
theorem bo_ocI {wv st : Nat} {a b : Int64} (hw : wv < 3) {M : Int} (hM : M ≤ 2 ^ 60) (ha : -M ≤ a.toInt ∧ a.toInt ≤ M) (hb : -M ≤ b.toInt ∧ b.toInt ≤ M) (h2 : wv = 2 → (if st = 0 then 12994 else 7232) * M + 2048 < 2 ^ 63) : (q_oc wv st a b).toInt = bo_oc wv st a.toInt b.toInt := by
  have h3 : wv = 0 ∨ wv = 1 ∨ wv = 2 := by omega
  have e1 : (a + b).toInt = a.toInt + b.toInt := q_addI (by omega) (by omega)
  rcases h3 with z | z | z <;> subst z
  · rw [bo_oc_0, show q_oc 0 st a b = -a from rfl, q_negI (by omega)]
  · rw [bo_oc_1, show q_oc 1 st a b = -(q_sh (a + b) 1) from rfl]
    have e : (q_sh (a + b) 1).toInt = (a.toInt + b.toInt) / 2 := by rw [q_shI (by omega), e1]; rfl
    rw [q_negI (by rw [e]; omega), e]
  · have hh := h2 rfl
    by_cases hs : st = 0
    · subst hs
      rw [if_pos rfl] at hh
      rw [bo_oc_2, show q_oc 2 0 a b = q_sh ((-6497 : Int64) * (a + b) + lN 2048) 12 from rfl, bo_mI (f := -6497) (M := M) rfl (by rw [e1]; omega) (by rw [e1]; omega), e1]
    · rw [if_neg hs] at hh
      rw [bo_oc_n hs, bo_qoc_n hs, bo_mI (f := 3616) (M := M) rfl (by rw [e1]; omega) (by rw [e1]; omega), e1]
theorem bo_ecI {wv st : Nat} {a b : Int64} (hw : wv < 3) {M : Int} (hM : M ≤ 2 ^ 60) (ha : -M ≤ a.toInt ∧ a.toInt ≤ M) (hb : -M ≤ b.toInt ∧ b.toInt ≤ M) (h2 : wv = 2 → (if st = 1 then 434 else 3634) * M + 2048 < 2 ^ 63) : (q_ec wv st a b).toInt = bo_ec wv st a.toInt b.toInt := by
  have h3 : wv = 0 ∨ wv = 1 ∨ wv = 2 := by omega
  have e1 : (a + b).toInt = a.toInt + b.toInt := q_addI (by omega) (by omega)
  rcases h3 with z | z | z <;> subst z
  · rw [bo_ec_0, show q_ec 0 st a b = q_sh b 1 from rfl, q_shI (by omega)]; rfl
  · have e3 : (lN 2).toInt = 2 := rfl
    rw [bo_ec_1, show q_ec 1 st a b = q_sh (a + b + lN 2) 2 from rfl, q_shI (by omega), q_addI (by rw [e1, e3]; omega) (by rw [e1, e3]; omega), e1, e3]; rfl
  · have hh := h2 rfl
    by_cases hs : st = 1
    · subst hs
      rw [if_pos rfl] at hh
      rw [bo_ec_2, show q_ec 2 1 a b = q_sh ((-217 : Int64) * (a + b) + lN 2048) 12 from rfl, bo_mI (f := -217) (M := M) rfl (by rw [e1]; omega) (by rw [e1]; omega), e1]
    · rw [if_neg hs] at hh
      rw [bo_ec_n hs, bo_qec_n hs, bo_mI (f := 1817) (M := M) rfl (by rw [e1]; omega) (by rw [e1]; omega), e1]
/-- the numbers of a pair are at most M -/
def bo_bp (h : Nat) (p : Nat → Int) (M : Int) : Prop := ∀ k, k < h → -M ≤ p k ∧ p k ≤ M
theorem bo_stO {wv st h : Nat} {P : (Nat → Int64) × (Nat → Int64)} {p : bo_p} (hw : wv < 3) (h1 : 1 ≤ h) (he : st % 2 = 0) (ht : bo_tI h P p) {M M2 : Int} (hM : M ≤ 2 ^ 60) (hb : bo_bp h p.1 M) (h2 : wv = 2 → (if st = 0 then 12994 else 7232) * M + 2048 < 2 ^ 63) (hM2 : M2 ≤ 2 ^ 62) (hr : bo_bp h (bo_ps wv st 1 h p).2 M2) : bo_tI h (q_ps wv st 1 h P) (bo_ps wv st 1 h p) := by
  intro k hk
  have hr := hr k hk
  unfold bo_ps at hr ⊢
  unfold q_ps
  rw [if_pos he] at hr ⊢
  rw [if_pos he]
  refine ⟨(ht k hk).1, ?_⟩
  dsimp only at hr ⊢
  unfold q_pO
  rw [q_seg_in (by omega), Int64.one_mul]
  have hn := q_nx_lt h1 hk
  have a1 := (ht k hk).1
  have a2 := (ht _ hn).1
  have c := bo_ocI (st := st) (a := P.1 k) (b := P.1 (q_nx h k)) hw hM (by rw [a1]; exact hb k hk) (by rw [a2]; exact hb _ hn) h2
  rw [a1, a2] at c
  rw [Int.one_mul] at hr ⊢
  have a3 := (ht k hk).2
  rw [q_addI (by rw [a3, c]; omega) (by rw [a3, c]; omega), a3, c]
theorem bo_stE {wv st h : Nat} {P : (Nat → Int64) × (Nat → Int64)} {p : bo_p} (hw : wv < 3) (he : ¬ st % 2 = 0) (ht : bo_tI h P p) {M M2 : Int} (hM : M ≤ 2 ^ 60) (hb : bo_bp h p.2 M) (h2 : wv = 2 → (if st = 1 then 434 else 3634) * M + 2048 < 2 ^ 63) (hM2 : M2 ≤ 2 ^ 62) (hr : bo_bp h (bo_ps wv st 1 h p).1 M2) : bo_tI h (q_ps wv st 1 h P) (bo_ps wv st 1 h p) := by
  intro k hk
  have hr := hr k hk
  unfold bo_ps at hr ⊢
  unfold q_ps
  rw [if_neg he] at hr ⊢
  rw [if_neg he]
  refine ⟨?_, (ht k hk).2⟩
  dsimp only at hr ⊢
  unfold q_pE
  rw [q_seg_in (by omega), Int64.one_mul]
  have hn : k - 1 < h := by omega
  have a1 := (ht k hk).2
  have a2 := (ht _ hn).2
  have c := bo_ecI (st := st) (a := P.2 (k - 1)) (b := P.2 k) hw hM (by rw [a2]; exact hb _ hn) (by rw [a1]; exact hb k hk) h2
  rw [a1, a2] at c
  rw [Int.one_mul] at hr ⊢
  have a3 := (ht k hk).1
  rw [q_addI (by rw [a3, c]; omega) (by rw [a3, c]; omega), a3, c]
/-- split forward: small numbers before and behind -/
theorem bo_fwd {wv h : Nat} {P : (Nat → Int64) × (Nat → Int64)} {p : bo_p} (hw : wv < 3) (h1 : 1 ≤ h) (ht : bo_tI h P p) (b1 : bo_bp h p.1 (bo_Lm wv)) (b2 : bo_bp h p.2 (bo_Lm wv)) (b3 : bo_bp h (bo_up wv h p).1 (bo_Lm wv)) (b4 : bo_bp h (bo_up wv h p).2 (bo_Lm wv)) : bo_tI h (q_pu2 wv h (q_nst wv) 0 P) (bo_up wv h p) := by
  by_cases h2 : wv = 2
  · subst h2
    have hL : bo_Lm 2 = 709000000000000 := rfl
    rw [hL] at b1 b2 b3 b4
    have e1 : bo_up 2 h p = bo_ps 2 3 1 h (bo_ps 2 2 1 h (bo_ps 2 1 1 h (bo_ps 2 0 1 h p))) := rfl
    have e2 : q_pu2 2 h (q_nst 2) 0 P = q_ps 2 3 1 h (q_ps 2 2 1 h (q_ps 2 1 1 h (q_ps 2 0 1 h P))) := rfl
    rw [e1] at b3 b4
    rw [e1, e2]
    have c0 : bo_bp h (bo_ps 2 0 1 h p).2 3000000000000000 := by
      intro k hk
      have a1 := b1 k hk
      have a2 := b1 _ (q_nx_lt h1 hk)
      have a3 := b2 k hk
      unfold bo_ps
      rw [if_pos (by decide)]
      dsimp only
      simp only [bo_oc_2]
      omega
    have t0 := bo_stO (st := 0) hw h1 (by decide) ht (by decide) b1 (fun _ => by decide) (by decide) c0
    have d0 : bo_bp h (bo_ps 2 0 1 h p).1 709000000000000 := b1
    generalize bo_ps 2 0 1 h p = p1 at *
    generalize q_ps 2 0 1 h P = P1 at *
    have c1 : bo_bp h (bo_ps 2 1 1 h p1).1 1100000000000000 := by
      intro k hk
      have a1 := c0 k hk
      have a2 := c0 (k - 1) (by omega)
      have a3 := d0 k hk
      unfold bo_ps
      rw [if_neg (by decide)]
      dsimp only
      simp only [bo_ec_2]
      omega
    have t1 := bo_stE (st := 1) hw (by decide) t0 (by decide) c0 (fun _ => by decide) (by decide) c1
    generalize bo_ps 2 1 1 h p1 = p2 at *
    generalize q_ps 2 1 1 h P1 = P2 at *
    have d2 : (bo_ps 2 3 1 h (bo_ps 2 2 1 h p2)).2 = (bo_ps 2 2 1 h p2).2 := rfl
    rw [d2] at b4
    have t2 := bo_stO (st := 2) hw h1 (by decide) t1 (by decide) c1 (fun _ => by decide) (by decide) b4
    generalize bo_ps 2 2 1 h p2 = p3 at *
    generalize q_ps 2 2 1 h P2 = P3 at *
    exact bo_stE (st := 3) hw (by decide) t2 (by decide) b4 (fun _ => by decide) (by decide) b3
  · have hL : bo_Lm wv = 2 ^ 52 := if_neg h2
    rw [hL] at b1 b2 b3 b4
    have e1 : bo_up wv h p = bo_ps wv 1 1 h (bo_ps wv 0 1 h p) := if_neg h2
    have e2 : q_pu2 wv h (q_nst wv) 0 P = q_ps wv 1 1 h (q_ps wv 0 1 h P) := by
      have : q_nst wv = 2 := if_neg h2
      rw [this]; rfl
    rw [e1] at b3 b4
    rw [e1, e2]
    have d2 : (bo_ps wv 1 1 h (bo_ps wv 0 1 h p)).2 = (bo_ps wv 0 1 h p).2 := rfl
    rw [d2] at b4
    have t0 := bo_stO (st := 0) hw h1 (by decide) ht (by decide) b1 (fun z => absurd z h2) (by decide) b4
    exact bo_stE (st := 1) hw (by decide) t0 (by decide) b4 (fun z => absurd z h2) (by decide) b3
