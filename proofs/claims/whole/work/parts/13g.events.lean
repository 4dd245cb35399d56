/-! THE CODE: EVENTS. An event is (kind, bit, place, plane): kind 0 tells nothing, 1 a one without its sign, 2 a sign, 3 a digit of a number known before -/
abbrev q_ev : Type := Nat × Nat × Nat × Nat
def q_e1 (e : q_ev) : Int32 := nI e.2.1
def q_e2 (e : q_ev) : Int32 := if e.1 < 2 then -1 else nI e.2.2.1
def q_e3 (e : q_ev) : Int32 := if e.1 < 2 then nI 0 else nI e.2.2.2
def q_ok (e : q_ev) : Prop := e.2.1 < 2 ∧ e.2.2.1 < 32 ∧ e.2.2.2 < 64
def q_E (E : List q_ev) (w : pW) : Prop := w.1 3 5 = nI E.length ∧ ∀ i e, E[i]? = some e → w.2.2 20 i = q_e1 e ∧ w.2.2 21 i = q_e2 e ∧ w.2.2 22 i = q_e3 e
/-- what writing code leaves alone -/
def q_X (w w' : pW) : Prop := w'.2.1 = w.2.1 ∧ (∀ o j, ¬ (o = 3 ∧ j = 5) → w'.1 o j = w.1 o j) ∧ ∀ a, a < 20 ∨ 22 < a → w'.2.2 a = w.2.2 a
theorem q_X.rf {w : pW} : q_X w w := ⟨rfl, fun _ _ _ => rfl, fun _ _ => rfl⟩
theorem q_X.tr {a b c : pW} (h : q_X a b) (g : q_X b c) : q_X a c := ⟨g.1.trans h.1, fun o j ho => (g.2.1 o j ho).trans (h.2.1 o j ho), fun o ho => (g.2.2 o ho).trans (h.2.2 o ho)⟩
theorem q_byN : ∀ k, k < 128 → q_by (nI k) = nI k := by decide +kernel
theorem q_byM : q_by (-1) = -1 := by decide +kernel
theorem q_X_put {c : Nat} {a b d : Int32} {w : pW} : q_X w (q_put c a b d w) := by
  refine ⟨rfl, fun o j h => ?_, fun q h => ?_⟩
  · show q_r w.1 3 _ o j = w.1 o j
    by_cases ho : o = 3
    · subst ho
      rw [q_r_s]
      exact if_neg (fun z => h ⟨rfl, z⟩)
    · rw [q_r_n ho]
  · show q_r (q_r (q_r w.2.2 20 _) 21 _) 22 _ q = w.2.2 q
    rw [q_r_n (by omega), q_r_n (by omega), q_r_n (by omega)]
theorem q_put_20 {c i : Nat} {a b d : Int32} {w : pW} : (q_put c a b d w).2.2 20 i = if i = c then q_by a else w.2.2 20 i := by
  unfold q_put
  dsimp only
  rw [q_r_n (by decide), q_r_n (by decide), q_r_s]
theorem q_put_21 {c i : Nat} {a b d : Int32} {w : pW} : (q_put c a b d w).2.2 21 i = if i = c then q_by b else w.2.2 21 i := by
  unfold q_put
  dsimp only
  rw [q_r_n (by decide), q_r_s]
theorem q_put_22 {c i : Nat} {a b d : Int32} {w : pW} : (q_put c a b d w).2.2 22 i = if i = c then q_by d else w.2.2 22 i := by
  unfold q_put
  dsimp only
  rw [q_r_s]
theorem q_E_put {E : List q_ev} {e : q_ev} {w : pW} (h : q_E E w) (hk : q_ok e) : q_E (E ++ [e]) (q_put E.length (q_e1 e) (q_e2 e) (q_e3 e) w) := by
  refine ⟨?_, fun i e' hi => ?_⟩
  · show q_r w.1 3 _ 3 5 = _
    rw [q_r_s, List.length_append]
    rfl
  · have b1 : q_by (q_e1 e) = q_e1 e := q_byN _ (by have := hk.1; omega)
    have b2 : q_by (q_e2 e) = q_e2 e := by
      unfold q_e2; split
      · exact q_byM
      · exact q_byN _ (by have := hk.2.1; omega)
    have b3 : q_by (q_e3 e) = q_e3 e := by
      unfold q_e3; split
      · exact q_byN _ (by omega)
      · exact q_byN _ (by have := hk.2.2; omega)
    rw [q_put_20, q_put_21, q_put_22, b1, b2, b3]
    by_cases hl : i = E.length
    · subst hl
      rw [List.getElem?_append_right (Nat.le_refl _)] at hi
      simp only [Nat.sub_self, List.getElem?_cons_zero, Option.some.injEq] at hi
      subst hi
      simp
    · have hlt : i < E.length := by
        have := List.getElem?_eq_some_iff.mp hi
        obtain ⟨h1, _⟩ := this
        rw [List.length_append, List.length_singleton] at h1
        omega
      rw [List.getElem?_append_left hlt] at hi
      simp only [hl, if_false]
      exact h.2 i e' hi
theorem q_W_put {n lo c : Nat} {a b d : Int32} {w : pW} (h : q_W n lo w) : q_W n lo (q_put c a b d w) := by
  refine ⟨?_, ?_⟩
  · rw [← h.1]; exact q_X_put.2.1 3 6 (by decide)
  · rw [← h.2]; exact q_X_put.2.1 3 7 (by decide)
theorem q_W.x {n lo : Nat} {w w' : pW} (h : q_W n lo w) (g : q_X w w') : q_W n lo w' := by
  refine ⟨?_, ?_⟩
  · rw [← h.1]; exact g.2.1 3 6 (by decide)
  · rw [← h.2]; exact g.2.1 3 7 (by decide)
theorem q_putE {E : List q_ev} {w : pW} {a b d : Int32} (h : q_E E w) (hl : E.length < 4038) : p_ev none 13 0 [.ref 3, .int a, .int b, .int d] [] w = some (.inl none, q_put E.length a b d w, 0) := q_putT h.1 hl
theorem q_put1E {E : List q_ev} {w : pW} {a : Int32} (h : q_E E w) (hl : E.length < 4038) : p_ev none 12 0 [.ref 3, .int a] [] w = some (.inl none, q_put E.length a (-1) (nI 0) w, 0) := q_put1 h.1 hl
theorem q_put_l {c : Nat} {a b d : Int32} {w : pW} : (q_put c a b d w).2.1 = w.2.1 := rfl
/-- the lowest digit -/
def q_b1 (v : Int64) : Nat := (v.toBitVec.getLsbD 0).toNat
theorem q_b1_lt {v : Int64} : q_b1 v < 2 := Bool.toNat_lt _
theorem q_and1 {v : Int64} : v &&& lN 1 = lN (q_b1 v) := by
  apply Int64.toBitVec_inj.mp
  rw [Int64.toBitVec_and]
  unfold q_b1
  have h1 : (lN 1).toBitVec = 1#64 := by decide
  rw [h1]
  cases hb : v.toBitVec.getLsbD 0
  · have h0 : (lN (false.toNat)).toBitVec = 0#64 := by decide
    rw [h0]
    apply BitVec.eq_of_getLsbD_eq
    intro i hi
    rw [BitVec.getLsbD_and, BitVec.getLsbD_one, BitVec.getLsbD_zero]
    by_cases hz : i = 0
    · subst hz; rw [hb]; rfl
    · simp [hz]
  · have h0 : (lN (true.toNat)).toBitVec = 1#64 := by decide
    rw [h0]
    apply BitVec.eq_of_getLsbD_eq
    intro i hi
    rw [BitVec.getLsbD_and, BitVec.getLsbD_one]
    by_cases hz : i = 0
    · subst hz; rw [hb]; rfl
    · simp [hz]
theorem q_bit1 {v : Int64} : (v &&& lN 1).toInt32 = nI (q_b1 v) := by
  rw [q_and1]
  unfold q_b1
  cases v.toBitVec.getLsbD 0
  · decide
  · decide
