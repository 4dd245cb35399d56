/-! WITHOUT FUEL: p_ev is what some fuel gives -/
theorem p_run_S : ∀ (n : Nat) (scr : pX) (mi pc : Nat) (L st : List Value) (w : pW) (r : pR), p_run n scr mi pc L st w = some r → p_run (n + 1) scr mi pc L st w = some r := by
  intro n
  induction n with
  | zero => intro scr mi pc L st w r h; simp [p_run] at h
  | succ n ih =>
    intro scr mi pc L st w r h
    rw [p_run] at h ⊢
    cases hs : p_stp scr mi pc L st w with
    | none => rw [hs] at h; simp at h
    | some q =>
      rw [hs] at h
      rcases q with q | q | q
      · exact h
      · exact ih _ _ _ _ _ _ _ h
      · dsimp only at h ⊢
        cases hc : p_run n none q.1 0 (p_ent q.2.1 (p_ml q.1)) [] w with
        | none => rw [hc] at h; simp at h
        | some c =>
          rw [hc] at h
          rw [ih _ _ _ _ _ _ _ hc]
          obtain ⟨o, w1, k1⟩ := c
          rcases o with v | E | z
          · dsimp only at h ⊢
            cases hd : p_run n scr mi (pc + 3) L (v.toList ++ q.2.2) w1 with
            | none => rw [hd] at h; simp at h
            | some d => rw [hd] at h; rw [ih _ _ _ _ _ _ _ hd]; exact h
          · exact h
          · exact h
theorem p_run_le {n k : Nat} (hk : n ≤ k) {scr : pX} {mi pc : Nat} {L st : List Value} {w : pW} {r : pR} (h : p_run n scr mi pc L st w = some r) : p_run k scr mi pc L st w = some r := by
  induction hk with
  | refl => exact h
  | step _ ih => exact p_run_S _ _ _ _ _ _ _ _ ih
theorem p_ev_ex (scr : pX) (mi pc : Nat) (L st : List Value) (w : pW) : ∃ o : Option pR, ∀ r, o = some r ↔ ∃ n, p_run n scr mi pc L st w = some r := by
  rcases Classical.em (∃ r n, p_run n scr mi pc L st w = some r) with h | h
  · obtain ⟨r, n, h⟩ := h
    refine ⟨some r, fun r2 => ⟨fun e => ⟨n, by cases e; exact h⟩, fun ⟨k, e⟩ => ?_⟩⟩
    have h1 := p_run_le (Nat.le_max_left n k) h
    have h2 := p_run_le (Nat.le_max_right n k) e
    rw [h1] at h2
    exact h2
  · exact ⟨none, fun r => ⟨fun e => by simp at e, fun e => absurd ⟨r, e⟩ h⟩⟩
noncomputable def p_ev (scr : pX) (mi pc : Nat) (L st : List Value) (w : pW) : Option pR := Classical.choose (p_ev_ex scr mi pc L st w)
theorem p_ev_iff {scr : pX} {mi pc : Nat} {L st : List Value} {w : pW} {r : pR} : p_ev scr mi pc L st w = some r ↔ ∃ n, p_run n scr mi pc L st w = some r := Classical.choose_spec (p_ev_ex scr mi pc L st w) r
theorem p_opt {α : Type} {a b : Option α} (h : ∀ r, a = some r ↔ b = some r) : a = b := by
  cases a with
  | none => cases b with
    | none => rfl
    | some y => exact absurd ((h y).mpr rfl) (by simp)
  | some x => exact ((h x).mp rfl).symm
theorem p_ev_stp {scr : pX} {mi pc : Nat} {L st : List Value} {w : pW} {r : pR} : p_ev scr mi pc L st w = some r ↔ ∃ n, p_run (n + 1) scr mi pc L st w = some r := by
  rw [p_ev_iff]
  exact ⟨fun ⟨n, h⟩ => ⟨n, p_run_S _ _ _ _ _ _ _ _ h⟩, fun ⟨n, h⟩ => ⟨_, h⟩⟩
theorem p_ev_jump {scr : pX} {mi pc pc1 : Nat} {L st L1 st1 : List Value} {w w1 : pW} (h : p_stp scr mi pc L st w = some (.inr (.inl (pc1, L1, st1, w1)))) : p_ev scr mi pc L st w = p_ev scr mi pc1 L1 st1 w1 := by
  apply p_opt
  intro r
  rw [p_ev_stp, p_ev_iff]
  simp only [p_run, h]
theorem p_ev_done {scr : pX} {mi pc : Nat} {L st : List Value} {w : pW} {r : pR} (h : p_stp scr mi pc L st w = some (.inl r)) : p_ev scr mi pc L st w = some r := by
  rw [p_ev_stp]
  exact ⟨0, by simp only [p_run, h]⟩
/-- behind a callee -/
noncomputable def p_bnd (scr : pX) (mi pc pc1 : Nat) (L rest : List Value) : Option pR → Option pR
  | none => none
  | some (.inl v, w1, k1) => (p_ev scr mi pc1 L (v.toList ++ rest) w1).map (fun q => (q.1, q.2.1, k1 + q.2.2))
  | some (.inr (.inl E), w1, k1) => (match p_hd mi pc E with
    | some h => some (.inl (some (.int h.2.2)), w1, k1)
    | none => if p_hh mi = [] then some (.inr (.inl E), w1, k1) else none)
  | some (.inr (.inr _), _, _) => none
theorem p_ev_call {scr : pX} {mi pc mj : Nat} {L st as rest : List Value} {w : pW} (h : p_stp scr mi pc L st w = some (.inr (.inr (mj, as, rest)))) : p_ev scr mi pc L st w = p_bnd scr mi pc (pc + 3) L rest (p_ev none mj 0 (p_ent as (p_ml mj)) [] w) := by
  apply p_opt
  intro r
  rw [p_ev_stp]
  constructor
  · rintro ⟨n, e⟩
    simp only [p_run, h] at e
    cases hc : p_run n none mj 0 (p_ent as (p_ml mj)) [] w with
    | none => rw [hc] at e; simp at e
    | some c =>
      rw [hc] at e
      rw [p_ev_iff.mpr ⟨n, hc⟩]
      obtain ⟨o, w1, k1⟩ := c
      rcases o with v | E | z
      · dsimp only at e
        cases hd : p_run n scr mi (pc + 3) L (v.toList ++ rest) w1 with
        | none => rw [hd] at e; simp at e
        | some d =>
          rw [hd] at e
          simp only [p_bnd]
          rw [p_ev_iff.mpr ⟨n, hd⟩]
          exact e
      · exact e
      · simp at e
  · intro e
    cases hc : p_ev none mj 0 (p_ent as (p_ml mj)) [] w with
    | none => rw [hc] at e; simp [p_bnd] at e
    | some c =>
      obtain ⟨n1, h1⟩ := p_ev_iff.mp hc
      rw [hc] at e
      obtain ⟨o, w1, k1⟩ := c
      rcases o with v | E | z
      · simp only [p_bnd] at e
        cases hd : p_ev scr mi (pc + 3) L (v.toList ++ rest) w1 with
        | none => rw [hd] at e; simp at e
        | some d =>
          obtain ⟨n2, h2⟩ := p_ev_iff.mp hd
          rw [hd] at e
          refine ⟨max n1 n2, ?_⟩
          simp only [p_run, h]
          rw [p_run_le (Nat.le_max_left n1 n2) h1]
          dsimp only
          rw [p_run_le (Nat.le_max_right n1 n2) h2]
          exact e
      · refine ⟨n1, ?_⟩
        simp only [p_run, h, h1]
        exact e
      · simp [p_bnd] at e
theorem p_map0 (o : Option pR) : o.map (fun q => (q.1, q.2.1, 0 + q.2.2)) = o := by
  cases o with
  | none => rfl
  | some q => obtain ⟨a, b, c⟩ := q; simp
theorem p_bnd_s {scr : pX} {mi pc pc1 : Nat} {L rest : List Value} {v : Value} {w1 : pW} : p_bnd scr mi pc pc1 L rest (some (.inl (some v), w1, 0)) = p_ev scr mi pc1 L (v :: rest) w1 := p_map0 _
theorem p_bnd_v {scr : pX} {mi pc pc1 : Nat} {L rest : List Value} {w1 : pW} : p_bnd scr mi pc pc1 L rest (some (.inl none, w1, 0)) = p_ev scr mi pc1 L rest w1 := p_map0 _
theorem p_bnd_x {scr : pX} {mi pc pc1 E k1 : Nat} {L rest : List Value} {w1 : pW} (h : p_hd mi pc E = none) (h2 : p_hh mi = []) : p_bnd scr mi pc pc1 L rest (some (.inr (.inl E), w1, k1)) = some (.inr (.inl E), w1, k1) := by
  simp only [p_bnd, h, h2, if_pos]
theorem p_bnd_h {scr : pX} {mi pc pc1 E k1 : Nat} {L rest : List Value} {w1 : pW} {q : Nat × Nat × Int32} (h : p_hd mi pc E = some q) : p_bnd scr mi pc pc1 L rest (some (.inr (.inl E), w1, k1)) = some (.inl (some (.int q.2.2)), w1, k1) := by
  simp only [p_bnd, h]
theorem p_bnd_ite {scr : pX} {mi pc pc1 : Nat} {L rest : List Value} {c : Prop} [Decidable c] {a b : Option pR} : p_bnd scr mi pc pc1 L rest (if c then a else b) = if c then p_bnd scr mi pc pc1 L rest a else p_bnd scr mi pc pc1 L rest b := by
  split <;> rfl
/-! the rules, one for each kind of instruction -/
section Rules
variable {scr : pX} {mi pc : Nat} {L st : List Value} {w : pW}
theorem p_r {ins : Instr} {pc1 : Nat} {L1 st1 : List Value} {w1 : pW} (h : p_at mi pc = some ins) (h2 : p_ex scr mi pc ins L st w = some (.inr (.inl (pc1, L1, st1, w1)))) : p_ev scr mi pc L st w = p_ev scr mi pc1 L1 st1 w1 :=
  p_ev_jump (by simp only [p_stp, h]; exact h2)
theorem p_rd {ins : Instr} {r : pR} (h : p_at mi pc = some ins) (h2 : p_ex scr mi pc ins L st w = some (.inl r)) : p_ev scr mi pc L st w = some r :=
  p_ev_done (by simp only [p_stp, h]; exact h2)
theorem p_rc {ins : Instr} {mj : Nat} {as rest : List Value} (h : p_at mi pc = some ins) (h2 : p_ex scr mi pc ins L st w = some (.inr (.inr (mj, as, rest)))) : p_ev scr mi pc L st w = p_bnd scr mi pc (pc + 3) L rest (p_ev none mj 0 (p_ent as (p_ml mj)) [] w) :=
  p_ev_call (by simp only [p_stp, h]; exact h2)
theorem p_rb {ins : Instr} {c : Prop} [Decidable c] {t f : Nat} {s : List Value} (h : p_at mi pc = some ins) (h2 : p_ex scr mi pc ins L st w = p_J (if decide c = true then t else f) L s w) : p_ev scr mi pc L st w = if c then p_ev scr mi t L s w else p_ev scr mi f L s w := by
  have h3 := p_r h h2
  rw [h3]
  by_cases hc : c
  · simp [hc]
  · simp [hc]
theorem p_ite_t {c : Prop} [Decidable c] {a b : Option pS} (h : c) (e : a = b) {d : Option pS} : (if c then a else d) = b := by rw [if_pos h]; exact e
theorem p_rgf {i ci k o : Nat} {fs : List (Option Nat)} {f : Option Nat} {s : List Value} (h : p_at mi pc = some (.getfield i)) (hf : p_fld (p_own mi) i = some (ci, k)) (ho : p_ob o = some (.inr (ci, fs))) (hk : fs[k]? = some f) : p_ev scr mi pc L (.ref o :: s) w = p_ev scr mi (pc + 3) L (p_fv w o k f :: s) w :=
  p_r h (by simp only [p_ex, p_gf, hf, ho, hk, if_pos]; rfl)
theorem p_rpf {i ci k o : Nat} {fs : List (Option Nat)} {v : Int32} {s : List Value} (h : p_at mi pc = some (.putfield i)) (hf : p_fld (p_own mi) i = some (ci, k)) (ho : p_ob o = some (.inr (ci, fs))) (hk : fs[k]? = some none) : p_ev scr mi pc L (.int v :: .ref o :: s) w = p_ev scr mi (pc + 3) L s (p_u w.1 o k v, w.2) :=
  p_r h (by simp only [p_ex, p_pf, hf, ho, hk, if_pos]; rfl)
theorem p_riald {o n : Nat} {i : Int32} {s : List Value} (h : p_at mi pc = some .iaload) (ho : p_ob o = some (.inl (1, n))) (hi : p_out i n = false) : p_ev scr mi pc L (.int i :: .ref o :: s) w = p_ev scr mi (pc + 1) L (.int (w.2.2 o i.toNatClampNeg) :: s) w :=
  p_r h (by simp only [p_ex, p_ald, ho, hi, and_self, if_pos]; rfl)
theorem p_rsld {n : Nat} {xs : Nat → Int32} {i : Int32} {s : List Value} (h : p_at mi pc = some .iaload) (hi : p_out i n = false) : p_ev (some (n, xs)) mi pc L (.int i :: .ref 999 :: s) w = p_ev (some (n, xs)) mi (pc + 1) L (.int (xs i.toNatClampNeg) :: s) w :=
  p_r h (by simp only [p_ex, p_ald, show p_ob 999 = none from rfl, hi, and_self, if_pos]; rfl)
theorem p_rlald {o n : Nat} {i : Int32} {s : List Value} (h : p_at mi pc = some .laload) (ho : p_ob o = some (.inl (2, n))) (hi : p_out i n = false) : p_ev scr mi pc L (.int i :: .ref o :: s) w = p_ev scr mi (pc + 1) L (.long (w.2.1 o i.toNatClampNeg) :: s) w :=
  p_r h (by simp only [p_ex, p_lald, ho, hi, and_self, if_pos]; rfl)
theorem p_rbald {o t n : Nat} {i : Int32} {s : List Value} (h : p_at mi pc = some .baload) (ho : p_ob o = some (.inl (t, n))) (ht : t = 0 ∨ t = 3) (hi : p_out i n = false) : p_ev scr mi pc L (.int i :: .ref o :: s) w = p_ev scr mi (pc + 1) L (.int (w.2.2 o i.toNatClampNeg) :: s) w :=
  p_r h (by simp only [p_ex, p_bald, ho, hi, ht, and_self, if_pos]; rfl)
theorem p_rbast {o t n : Nat} {i x : Int32} {s : List Value} (h : p_at mi pc = some .bastore) (ho : p_ob o = some (.inl (t, n))) (ht : t = 0 ∨ t = 3) (hi : p_out i n = false) : p_ev scr mi pc L (.int x :: .int i :: .ref o :: s) w = p_ev scr mi (pc + 1) L s (w.1, w.2.1, p_u w.2.2 o i.toNatClampNeg (vp_nar (p_bty t) x)) :=
  p_r h (by simp only [p_ex, p_bast, ho, hi, ht, and_self, if_pos]; rfl)
theorem p_riast {o n : Nat} {i x : Int32} {s : List Value} (h : p_at mi pc = some .iastore) (ho : p_ob o = some (.inl (1, n))) (hi : p_out i n = false) : p_ev scr mi pc L (.int x :: .int i :: .ref o :: s) w = p_ev scr mi (pc + 1) L s (w.1, w.2.1, p_u w.2.2 o i.toNatClampNeg x) :=
  p_r h (by simp only [p_ex, p_iast, ho, hi, and_self, if_pos]; rfl)
theorem p_rlast {o n : Nat} {i : Int32} {x : Int64} {s : List Value} (h : p_at mi pc = some .lastore) (ho : p_ob o = some (.inl (2, n))) (hi : p_out i n = false) : p_ev scr mi pc L (.long x :: .int i :: .ref o :: s) w = p_ev scr mi (pc + 1) L s (w.1, p_u w.2.1 o i.toNatClampNeg x, w.2.2) :=
  p_r h (by simp only [p_ex, p_last, ho, hi, and_self, if_pos]; rfl)
theorem p_ralen {o t n : Nat} {s : List Value} (h : p_at mi pc = some .arraylength) (ho : p_ob o = some (.inl (t, n))) : p_ev scr mi pc L (.ref o :: s) w = p_ev scr mi (pc + 1) L (.int (Int32.ofNat n) :: s) w :=
  p_r h (by simp only [p_ex, p_alen, ho]; rfl)
theorem p_rslen {n : Nat} {xs : Nat → Int32} {s : List Value} (h : p_at mi pc = some .arraylength) : p_ev (some (n, xs)) mi pc L (.ref 999 :: s) w = p_ev (some (n, xs)) mi (pc + 1) L (.int (Int32.ofNat n) :: s) w :=
  p_r h (by simp only [p_ex, p_alen, show p_ob 999 = none from rfl, if_pos]; rfl)
theorem p_ridiv {x y : Int32} {s : List Value} (h : p_at mi pc = some .idiv) (hy : ¬ y = 0) : p_ev scr mi pc L (.int y :: .int x :: s) w = p_ev scr mi (pc + 1) L (.int (x / y) :: s) w :=
  p_r h (by simp only [p_ex, p_i2z, hy, if_false]; rfl)
theorem p_rirem {x y : Int32} {s : List Value} (h : p_at mi pc = some .irem) (hy : ¬ y = 0) : p_ev scr mi pc L (.int y :: .int x :: s) w = p_ev scr mi (pc + 1) L (.int (x - x / y * y) :: s) w :=
  p_r h (by simp only [p_ex, p_i2z, hy, if_false]; rfl)
theorem p_rldiv {x y : Int64} {s : List Value} (h : p_at mi pc = some .ldiv) (hy : ¬ y = 0) : p_ev scr mi pc L (.long y :: .long x :: s) w = p_ev scr mi (pc + 1) L (.long (x / y) :: s) w :=
  p_r h (by simp only [p_ex, p_l2z, hy, if_false]; rfl)
theorem p_rlrem {x y : Int64} {s : List Value} (h : p_at mi pc = some .lrem) (hy : ¬ y = 0) : p_ev scr mi pc L (.long y :: .long x :: s) w = p_ev scr mi (pc + 1) L (.long (x - x / y * y) :: s) w :=
  p_r h (by simp only [p_ex, p_l2z, hy, if_false]; rfl)
theorem p_rzret {v : Int32} (h : p_at mi pc = some .ireturn) (hr : p_rt mi = some .boolean) (hv : narrow .boolean (.int v) = .int v) : p_ev scr mi pc L [.int v] w = some (.inl (some (.int v)), w, 0) :=
  p_rd h (by simp only [p_ex, p_irt, hr, hv, if_pos]; rfl)
end Rules
section Rules2
variable {scr : pX} {mi pc : Nat} {L st : List Value} {w : pW}
theorem p_rabs {i n : Nat} {x : Int64} {s : List Value} (h : p_at mi pc = some (.invokestatic i)) (hv : p_inv (p_own mi) i = some (0, 0, n)) (hc : p_cs s ≤ 8) (hm : p_mok mi = true) : p_ev scr mi pc L (.long x :: s) w = p_ev scr mi (pc + 3) L (.long (p_abs x) :: s) w :=
  p_r h (by simp only [p_ex, p_iv, hv, hc, hm, and_self, if_pos]; rfl)
theorem p_rmax {i n : Nat} {x y : Int64} {s : List Value} (h : p_at mi pc = some (.invokestatic i)) (hv : p_inv (p_own mi) i = some (0, 1, n)) (hc : p_cs s ≤ 8) (hm : p_mok mi = true) : p_ev scr mi pc L (.long y :: .long x :: s) w = p_ev scr mi (pc + 3) L (.long (p_max x y) :: s) w :=
  p_r h (by simp only [p_ex, p_iv, hv, hc, hm, and_self, if_pos]; rfl)
theorem p_rmin {i n : Nat} {x y : Int64} {s : List Value} (h : p_at mi pc = some (.invokestatic i)) (hv : p_inv (p_own mi) i = some (0, 2, n)) (hc : p_cs s ≤ 8) (hm : p_mok mi = true) : p_ev scr mi pc L (.long y :: .long x :: s) w = p_ev scr mi (pc + 3) L (.long (p_min x y) :: s) w :=
  p_r h (by simp only [p_ex, p_iv, hv, hc, hm, and_self, if_pos]; rfl)
theorem p_rcs {i mj n nl : Nat} {as rest E : List Value} (h : p_at mi pc = some (.invokestatic i)) (hv : p_inv (p_own mi) i = some (1, mj, n)) (hc : (p_fits mi mj && (p_virt mj == false) && (p_ml mj == nl)) = true) (ht : (st.take n).reverse = as) (hd : st.drop n = rest) (hn : n ≤ st.length) (hcs : p_cs rest ≤ 8) (hE : p_cs as ≤ nl) (he : p_ent as nl = E) : p_ev scr mi pc L st w = p_bnd scr mi pc (pc + 3) L rest (p_ev none mj 0 E [] w) := by
  simp only [Bool.and_eq_true, beq_iff_eq] at hc
  obtain ⟨⟨h1, h2⟩, h3⟩ := hc
  have h4 := p_rc (L := L) (st := st) (w := w) (scr := scr) (as := as) (rest := rest) (mj := mj) h (by simp only [p_ex, p_iv, hv]; rw [hd, ht]; simp [hn, hcs, h1, h2, h3, hE])
  rw [h4, h3, he]
theorem p_rcv {i mj n nl o : Nat} {as rest E : List Value} {fs : List (Option Nat)} (h : p_at mi pc = some (.invokevirtual i)) (hv : p_inv (p_own mi) i = some (1, mj, n)) (hc : (p_fits mi mj && (p_virt mj == true) && (p_ml mj == nl)) = true) (ho : p_ob o = some (.inr (p_own mj, fs))) (ht : (st.take n).reverse = .ref o :: as) (hd : st.drop n = rest) (hn : n ≤ st.length) (hcs : p_cs rest ≤ 8) (hE : p_cs (.ref o :: as) ≤ nl) (he : p_ent (.ref o :: as) nl = E) : p_ev scr mi pc L st w = p_bnd scr mi pc (pc + 3) L rest (p_ev none mj 0 E [] w) := by
  simp only [Bool.and_eq_true, beq_iff_eq] at hc
  obtain ⟨⟨h1, h2⟩, h3⟩ := hc
  have h4 := p_rc (L := L) (st := st) (w := w) (scr := scr) (as := .ref o :: as) (rest := rest) (mj := mj) h (by simp only [p_ex, p_iv, hv]; rw [hd, ht]; simp [hn, hcs, h1, h2, ho, h3, hE])
  rw [h4, h3, he]
theorem p_riret {v : Int32} (h : p_at mi pc = some .ireturn) (hr : p_rt mi = some .int) : p_ev scr mi pc L [.int v] w = some (.inl (some (.int v)), w, 0) :=
  p_rd h (by simp only [p_ex, p_irt, hr]; rfl)
theorem p_rlret {v : Int64} (h : p_at mi pc = some .lreturn) (hr : p_rt mi = some .long) : p_ev scr mi pc L [.long v] w = some (.inl (some (.long v)), w, 0) :=
  p_rd h (by simp only [p_ex, p_lrt, hr, if_pos]; rfl)
theorem p_rvret (h : p_at mi pc = some .return_) (hr : p_rt mi = none) : p_ev scr mi pc L [] w = some (.inl none, w, 0) :=
  p_rd h (by simp only [p_ex, p_vrt, hr, if_pos]; rfl)
theorem p_rnew {ik is ic E : Nat} (h : p_at mi pc = some (.new ik)) (h3 : p_at mi (pc + 3) = some .dup) (h4 : p_at mi (pc + 4) = some (.ldc is)) (h6 : p_at mi (pc + 6) = some (.invokespecial ic)) (h9 : p_at mi (pc + 9) = some .athrow) (ht : p_thr (p_own mi) ik is ic = some E) (hr : 6 ≤ p_rF mi ∧ 82 ≤ p_rL mi) : p_ev scr mi pc L [] w = some (.inr (.inl E), w, 1) :=
  p_rd h (by simp only [p_ex, p_nw, h3, h4, h6, h9, ht, hr, and_self, if_pos]; rfl)
theorem p_rstop {off : Int} (h : p_at mi pc = some (.goto off)) (hb : p_bo pc off = true) (hm : mi = p_lawI ∧ pc = p_lawG) : p_ev scr mi pc L [] w = some (.inr (.inr L), w, 0) :=
  by
  obtain ⟨rfl, rfl⟩ := hm
  exact p_rd h (by simp only [p_ex, p_gt, hb, and_self, if_pos]; rfl)
theorem p_rgo {off : Int} {t : Nat} (h : p_at mi pc = some (.goto off)) (ht : (p_bo pc off && (p_tg pc off == t) && !(decide (mi = p_lawI) && decide (pc = p_lawG))) = true) : p_ev scr mi pc L st w = p_ev scr mi t L st w := by
  simp only [Bool.and_eq_true, beq_iff_eq, Bool.not_eq_true', Bool.and_eq_false_iff, decide_eq_false_iff_not] at ht
  obtain ⟨⟨h1, h2⟩, h3⟩ := ht
  exact p_r h (by
    simp only [p_ex, p_gt, h1, if_pos]
    rw [if_neg (by rintro ⟨a, b⟩; rcases h3 with h3 | h3; exact h3 a; exact h3 b), h2]
    rfl)
theorem p_rb2 {c : Int32 → Int32 → Bool} {off : Int} {t f : Nat} {x y : Int32} {s : List Value} {ins : Instr} (h : p_at mi pc = some ins) (ht : (p_bo pc off && (p_tg pc off == t)) = true) (hf : pc + 3 = f) (h2 : p_ex scr mi pc ins L (.int y :: .int x :: s) w = p_b2 c pc off L (.int y :: .int x :: s) w) {P : Prop} [Decidable P] (hP : c x y = decide P) : p_ev scr mi pc L (.int y :: .int x :: s) w = if P then p_ev scr mi t L s w else p_ev scr mi f L s w := by
  simp only [Bool.and_eq_true, beq_iff_eq] at ht
  refine p_rb (ins := ins) h ?_
  rw [h2, p_b2, if_pos ht.1, ht.2, hf, hP]
theorem p_rb1 {c : Int32 → Bool} {off : Int} {t f : Nat} {x : Int32} {s : List Value} {ins : Instr} (h : p_at mi pc = some ins) (ht : (p_bo pc off && (p_tg pc off == t)) = true) (hf : pc + 3 = f) (h2 : p_ex scr mi pc ins L (.int x :: s) w = p_b1 c pc off L (.int x :: s) w) {P : Prop} [Decidable P] (hP : c x = decide P) : p_ev scr mi pc L (.int x :: s) w = if P then p_ev scr mi t L s w else p_ev scr mi f L s w := by
  simp only [Bool.and_eq_true, beq_iff_eq] at ht
  refine p_rb (ins := ins) h ?_
  rw [h2, p_b1, if_pos ht.1, ht.2, hf, hP]
theorem p_rswi {d lo hi off : Int} {os : Array Int} {t : Nat} {x : Int32} (h : p_at mi pc = some (.tableswitch d lo hi os)) (h1 : ¬ (x.toInt < lo ∨ hi < x.toInt)) (h2 : os[(x.toInt - lo).toNat]? = some off) (ht : (p_bo pc off && (p_tg pc off == t)) = true) : p_ev scr mi pc L [.int x] w = p_ev scr mi t L [] w := by
  simp only [Bool.and_eq_true, beq_iff_eq] at ht
  exact p_r h (by simp only [p_ex, p_swt, h2, ht]; rw [if_neg h1]; rfl)
theorem p_rswo {d lo hi : Int} {os : Array Int} {t : Nat} {x : Int32} (h : p_at mi pc = some (.tableswitch d lo hi os)) (h1 : x.toInt < lo ∨ hi < x.toInt) (ht : (p_bo pc d && (p_tg pc d == t)) = true) : p_ev scr mi pc L [.int x] w = p_ev scr mi t L [] w := by
  simp only [Bool.and_eq_true, beq_iff_eq] at ht
  exact p_r h (by simp only [p_ex, p_swt, ht]; rw [if_pos h1]; rfl)
theorem p_rldcI {i : Nat} {v : Int32} (h : p_at mi pc = some (.ldc i)) (hc : p_cI (p_own mi) i = some v) : p_ev scr mi pc L st w = p_ev scr mi (pc + 2) L (.int v :: st) w :=
  p_r h (by simp only [p_ex, hc]; rfl)
theorem p_rldcJ {i : Nat} {v : Int64} (h : p_at mi pc = some (.ldc2_w i)) (hc : p_cJ (p_own mi) i = some v) : p_ev scr mi pc L st w = p_ev scr mi (pc + 3) L (.long v :: st) w :=
  p_r h (by simp only [p_ex, hc]; rfl)
end Rules2
/-- a row object: its cells are the array 7 behind it -/
def p_rw (r : Nat) : Prop := p_ob r = some (.inr (2, [some (r + 7)])) ∧ p_ob (r + 7) = some (.inl (2, 32))
def p_lg (a : Nat) : Prop := p_ob a = some (.inl (2, 512))
