/-! PICTURES: how the pure interpreter's state lies in the heap and in the locals -/
def p_cv (ad : Nat → Nat) (v : Value) : Value := match v with
  | .ref k => .ref (ad k)
  | x => x
def p_fl (ad : Nat → Nat) (w : pW) (o : Nat) : Nat → List (Option Nat) → List Value
  | _, [] => []
  | k, f :: r => p_cv ad (p_fv w o k f) :: p_fl ad w o (k + 1) r
def p_cell (ad : Nat → Nat) (ty : Nat → ClassId) (w : pW) (o : Nat) : va_E := match p_ob o with
  | some (.inl (t, n)) => .inl (ty t, n, if t = 2 then .inr (.inl (w.2.1 o)) else .inl (w.2.2 o))
  | some (.inr (c, fs)) => .inr (c, p_fl ad w o 0 fs)
  | none => .inr (0, [])
def p_ws (ad : Nat → Nat) (ty : Nat → ClassId) (w : pW) : va_W := (List.range p_M).map fun o => (ad o, p_cell ad ty w o)
def p_tys (ty : Nat → ClassId) : List (ClassId × FieldType) := [(ty 0, .byte), (ty 1, .int), (ty 2, .long), (ty 3, .boolean)]
theorem p_ob_lt {o : Nat} {x : (Nat × Nat) ⊕ (Nat × List (Option Nat))} (h : p_ob o = some x) : o < p_M := (List.getElem?_eq_some_iff.mp h).1
theorem p_ws_get {ad : Nat → Nat} {ty : Nat → ClassId} {w : pW} {o : Nat} (h : o < p_M) : (p_ws ad ty w)[o]? = some (ad o, p_cell ad ty w o) := by
  simp only [p_ws, List.getElem?_map, List.getElem?_range h, Option.map_some]
theorem p_ws_len {ad : Nat → Nat} {ty : Nat → ClassId} {w : pW} : (p_ws ad ty w).length = p_M := by simp [p_ws]
theorem p_fl_get {ad : Nat → Nat} {w : pW} {o : Nat} : ∀ (fs : List (Option Nat)) (k0 k : Nat), (p_fl ad w o k0 fs)[k]? = fs[k]?.map (fun f => p_cv ad (p_fv w o (k0 + k) f))
  | [], k0, k => by simp [p_fl]
  | f :: r, k0, 0 => by simp [p_fl]
  | f :: r, k0, k + 1 => by
    simp only [p_fl, List.getElem?_cons_succ]
    rw [p_fl_get r (k0 + 1) k, show k0 + 1 + k = k0 + (k + 1) by omega]
theorem p_fl_len {ad : Nat → Nat} {w : pW} {o : Nat} : ∀ (fs : List (Option Nat)) (k0 : Nat), (p_fl ad w o k0 fs).length = fs.length
  | [], k0 => rfl
  | f :: r, k0 => by simp [p_fl, p_fl_len r (k0 + 1)]
theorem p_fl_cg {ad : Nat → Nat} {w w1 : pW} {o : Nat} (h : w1.1 o = w.1 o) : ∀ (fs : List (Option Nat)) (k0 : Nat), p_fl ad w1 o k0 fs = p_fl ad w o k0 fs
  | [], k0 => rfl
  | f :: r, k0 => by
    simp only [p_fl]
    rw [p_fl_cg h r (k0 + 1)]
    cases f <;> simp [p_fv, h]
theorem p_cell_cg {ad : Nat → Nat} {ty : Nat → ClassId} {w w1 : pW} {o : Nat} (h1 : w1.1 o = w.1 o) (h2 : w1.2.1 o = w.2.1 o) (h3 : w1.2.2 o = w.2.2 o) : p_cell ad ty w1 o = p_cell ad ty w o := by
  unfold p_cell
  split
  · rw [h2, h3]
  · rw [p_fl_cg h1]
  · rfl
theorem p_u_ne {α : Type} {f : Nat → Nat → α} {o k i : Nat} {v : α} (h : i ≠ o) : p_u f o k v i = f i := by
  funext b; simp [p_u, h]
theorem p_u_eqL {f : Nat → Nat → Int64} {o k : Nat} {v : Int64} : p_u f o k v o = vp_updL (f o) k v := by
  funext b; simp [p_u, vp_updL]
theorem p_u_eqI {f : Nat → Nat → Int32} {o k : Nat} {v : Int32} : p_u f o k v o = upd (f o) k v := by
  funext b; simp [p_u, upd]
theorem p_ws_set {ad : Nat → Nat} {ty : Nat → ClassId} {w w1 : pW} {o : Nat} {e : va_E} (ho : o < p_M) (h1 : ∀ i, i ≠ o → p_cell ad ty w1 i = p_cell ad ty w i) (h2 : p_cell ad ty w1 o = e) : (p_ws ad ty w).set o (ad o, e) = p_ws ad ty w1 := by
  apply List.ext_getElem?
  intro i
  by_cases hi : i < p_M
  · rw [p_ws_get hi, List.getElem?_set]
    by_cases hio : o = i
    · subst hio
      rw [if_pos rfl, if_pos (by rw [p_ws_len]; exact hi), h2]
    · rw [if_neg hio, p_ws_get hi, h1 i (fun z => hio z.symm)]
  · rw [List.getElem?_eq_none (by rw [List.length_set, p_ws_len]; omega), List.getElem?_eq_none (by rw [p_ws_len]; omega)]
theorem p_wsD {A : Nat → Prop} {ad : Nat → Nat} {ty : Nat → ClassId} {w w1 : pW} (h : va_D A (p_ws ad ty w)) : va_D A (p_ws ad ty w1) := by
  have key : ∀ (k : Nat) (q : Nat × va_E), (p_ws ad ty w1)[k]? = some q → ∃ q0, (p_ws ad ty w)[k]? = some q0 ∧ q0.1 = q.1 := by
    intro k q hk
    have hl : k < p_M := by rw [← p_ws_len (ad := ad) (ty := ty) (w := w1)]; exact (List.getElem?_eq_some_iff.mp hk).1
    rw [p_ws_get hl] at hk
    cases hk
    exact ⟨_, p_ws_get hl, rfl⟩
  refine ⟨fun i j p q hp hq hpq => ?_, fun k q hk => ?_⟩
  · obtain ⟨p0, a1, a2⟩ := key i p hp
    obtain ⟨q0, b1, b2⟩ := key j q hq
    exact h.1 i j p0 q0 a1 b1 (a2.trans (hpq.trans b2.symm))
  · obtain ⟨q0, a1, a2⟩ := key k q hk
    rw [← a2]
    exact h.2 k q0 a1
theorem p_wsA {ad : Nat → Nat} {ty : Nat → ClassId} {w w1 : pW} {sz : Nat} {q : Nat} (h : va_A (p_ws ad ty w) sz q) : va_A (p_ws ad ty w1) sz q := by
  rcases h with ⟨k, e, h⟩ | h
  · have hl : k < p_M := by rw [← p_ws_len (ad := ad) (ty := ty) (w := w)]; exact (List.getElem?_eq_some_iff.mp h).1
    rw [p_ws_get hl] at h
    cases h
    exact Or.inl ⟨k, _, p_ws_get hl⟩
  · exact Or.inr h
theorem p_w_last {ad : Nat → Nat} {ty : Nat → ClassId} {w : pW} {o n k : Nat} {x : Int64} (ho : p_ob o = some (.inl (2, n))) : (p_ws ad ty w).set o (ad o, .inl (ty 2, n, .inr (.inl (vp_updL (w.2.1 o) k x)))) = p_ws ad ty (w.1, p_u w.2.1 o k x, w.2.2) :=
  p_ws_set (p_ob_lt ho) (fun i hi => p_cell_cg rfl (p_u_ne hi) rfl) (by unfold p_cell; rw [ho]; simp [p_u_eqL])
theorem p_w_iast {ad : Nat → Nat} {ty : Nat → ClassId} {w : pW} {o t n k : Nat} {x : Int32} (ho : p_ob o = some (.inl (t, n))) (ht : t ≠ 2) : (p_ws ad ty w).set o (ad o, .inl (ty t, n, .inl (upd (w.2.2 o) k x))) = p_ws ad ty (w.1, w.2.1, p_u w.2.2 o k x) :=
  p_ws_set (p_ob_lt ho) (fun i hi => p_cell_cg rfl rfl (p_u_ne hi)) (by unfold p_cell; rw [ho]; simp [p_u_eqI, ht])
theorem p_fl_out {ad : Nat → Nat} {w : pW} {o k : Nat} {v : Int32} : ∀ (r : List (Option Nat)) (k1 : Nat), k < k1 → p_fl ad (p_u w.1 o k v, w.2) o k1 r = p_fl ad w o k1 r
  | [], k1, _ => rfl
  | g :: r, k1, h1 => by
    simp only [p_fl]
    rw [p_fl_out (k := k) r (k1 + 1) (by omega)]
    cases g with
    | none =>
      have e : ¬ (True ∧ k1 = k) := by omega
      simp only [p_fv, p_u]
      rw [if_neg e]
    | some t => rfl
theorem p_fl_set {ad : Nat → Nat} {w : pW} {o k : Nat} {v : Int32} : ∀ (fs : List (Option Nat)) (k0 j : Nat), k0 + j = k → fs[j]? = some none → (p_fl ad w o k0 fs).set j (.int v) = p_fl ad (p_u w.1 o k v, w.2) o k0 fs
  | [], k0, j, _, h => by simp at h
  | f :: r, k0, 0, hk, h => by
    simp at h
    subst h
    simp only [p_fl, List.set_cons_zero]
    rw [p_fl_out r (k0 + 1) (by omega)]
    have : k0 = k := by omega
    subst this
    simp [p_fv, p_u, p_cv]
  | f :: r, k0, j + 1, hk, h => by
    simp at h
    simp only [p_fl, List.set_cons_succ]
    rw [p_fl_set (k := k) (v := v) r (k0 + 1) j (by omega) h]
    cases f with
    | none =>
      have e : ¬ (True ∧ k0 = k) := by omega
      simp only [p_fv, p_u]
      rw [if_neg e]
    | some t => rfl
theorem p_w_putf {ad : Nat → Nat} {ty : Nat → ClassId} {w : pW} {o c k : Nat} {fs : List (Option Nat)} {v : Int32} (ho : p_ob o = some (.inr (c, fs))) (hk : fs[k]? = some none) : (p_ws ad ty w).set o (ad o, .inr (c, (p_fl ad w o 0 fs).set k (.int v))) = p_ws ad ty (p_u w.1 o k v, w.2) :=
  p_ws_set (p_ob_lt ho) (fun i hi => p_cell_cg (p_u_ne hi) rfl rfl) (by unfold p_cell; rw [ho]; simp only []; rw [p_fl_set (k := k) (v := v) fs 0 k (by omega) hk])
/-! the locals -/
def p_lh (ad : Nat → Nat) (ls : Array Slot) (n : Nat) (L : List Value) : Prop := L.length = n ∧ ls.size = n ∧ lv_wf ls ∧ ∀ (i : Nat) (v : Value), L[i]? = some v → v ≠ p_U → ls[i]? = some (.val (p_cv ad v))
def p_lv (ad : Nat → Nat) (L : List Value) : List (Nat × Value) := (List.range L.length).filterMap fun i => L[i]?.bind fun v => if v = p_U then none else some (i, p_cv ad v)
theorem p_lv_mem {ad : Nat → Nat} {L : List Value} {q : Nat × Value} : q ∈ p_lv ad L ↔ ∃ v, L[q.1]? = some v ∧ v ≠ p_U ∧ q.2 = p_cv ad v := by
  unfold p_lv
  rw [List.mem_filterMap]
  constructor
  · rintro ⟨i, -, h⟩
    rw [Option.bind_eq_some_iff] at h
    obtain ⟨v, h1, h2⟩ := h
    split at h2
    · simp at h2
    · next hv => cases h2; exact ⟨v, h1, hv, rfl⟩
  · rintro ⟨v, h1, h2, h3⟩
    refine ⟨q.1, List.mem_range.mpr (List.getElem?_eq_some_iff.mp h1).1, ?_⟩
    rw [h1]
    simp only [Option.bind_some]
    rw [if_neg h2, ← h3]
theorem p_lh_at {ad : Nat → Nat} {ls : Array Slot} {n : Nat} {L : List Value} (h : p_lh ad ls n L) {i : Nat} {v : Value} (hv : L[i]? = some v) (hu : v ≠ p_U) : ls[i]? = some (.val (p_cv ad v)) := h.2.2.2 i v hv hu
theorem p_lh_has {ad : Nat → Nat} {ls : Array Slot} {n : Nat} {L : List Value} (h : p_lh ad ls n L) : lv_has ls n (p_lv ad L) := by
  refine ⟨h.2.1, h.2.2.1, fun q hq => ?_⟩
  obtain ⟨v, h1, h2, h3⟩ := p_lv_mem.mp hq
  rw [h3]
  exact h.2.2.2 _ _ h1 h2
theorem p_has_lh {ad : Nat → Nat} {ls : Array Slot} {n : Nat} {L : List Value} {lv : List (Nat × Value)} (hL : L.length = n) (h : lv_has ls n lv) (hm : ∀ (i : Nat) (v : Value), L[i]? = some v → v ≠ p_U → (i, p_cv ad v) ∈ lv) : p_lh ad ls n L :=
  ⟨hL, h.1, h.2.1, fun i v h1 h2 => h.2.2 _ (hm i v h1 h2)⟩
theorem p_cv_cat {ad : Nat → Nat} {v : Value} : (p_cv ad v).category = v.category := by cases v <;> rfl
theorem p_st_len {L : List Value} {k : Nat} {v : Value} : (p_st L k v).length = L.length := by
  unfold p_st
  rw [List.length_set]
  split
  · rfl
  · split
    · split <;> simp
    · rfl
/-- behind a store: the place itself, or what was there; a long just ahead of the place is gone -/
theorem p_st_get {L : List Value} {k : Nat} {v : Value} {j : Nat} {u : Value} (h : (p_st L k v)[j]? = some u) (hu : u ≠ p_U) : (j = k ∧ u = v) ∨ (j ≠ k ∧ L[j]? = some u ∧ ¬ (j + 1 = k ∧ u.category = 2)) := by
  by_cases hj : j = k
  · left
    refine ⟨hj, ?_⟩
    subst hj
    have hl := (List.getElem?_eq_some_iff.mp h).1
    rw [p_st_len] at hl
    unfold p_st at h
    rw [List.getElem?_set_self (by
      split
      · exact hl
      · split
        · split
          · rw [List.length_set]; exact hl
          · exact hl
        · exact hl)] at h
    exact (Option.some.inj h).symm
  · right
    refine ⟨hj, ?_⟩
    unfold p_st at h
    rw [List.getElem?_set_ne (fun z => hj z.symm)] at h
    cases k with
    | zero => exact ⟨h, fun z => by omega⟩
    | succ i =>
      dsimp only at h
      cases hx : L[i]? with
      | none =>
        rw [hx] at h
        refine ⟨h, fun z => ?_⟩
        have : j = i := by omega
        subst this
        rw [hx] at h
        cases h
      | some x =>
        rw [hx] at h
        dsimp only at h
        by_cases hc : x.category = 2
        · rw [if_pos hc] at h
          by_cases hji : j = i
          · subst hji
            rw [List.getElem?_set_self (List.getElem?_eq_some_iff.mp hx).1] at h
            exact absurd (Option.some.inj h).symm hu
          · rw [List.getElem?_set_ne (fun z => hji z.symm)] at h
            exact ⟨h, fun z => hji (by omega)⟩
        · rw [if_neg hc] at h
          refine ⟨h, fun z => ?_⟩
          have : j = i := by omega
          subst this
          rw [hx] at h
          cases h
          exact hc z.2
theorem p_lh_stI {ad : Nat → Nat} {ls ls1 : Array Slot} {n i : Nat} {L : List Value} {x : Int32} (h : p_lh ad ls n L) (h1 : lv_has ls1 n ((i, Value.int x) :: (p_lv ad L).filter (fun q => !(q.1 == i) && !(q.1 + 1 == i && q.2.category == 2)))) : p_lh ad ls1 n (p_st L i (.int x)) := by
  refine p_has_lh (by rw [p_st_len]; exact h.1) h1 (fun j u hu hn => ?_)
  rcases p_st_get hu hn with ⟨rfl, rfl⟩ | ⟨a, b, d⟩
  · exact List.mem_cons_self
  · refine List.mem_cons_of_mem _ (List.mem_filter.mpr ⟨p_lv_mem.mpr ⟨u, b, hn, rfl⟩, ?_⟩)
    simp only [Bool.and_eq_true, Bool.not_eq_true', beq_eq_false_iff_ne, ne_eq, Bool.and_eq_false_iff, p_cv_cat]
    exact ⟨a, by by_cases z : j + 1 = i; exact Or.inr (fun y => d ⟨z, y⟩); exact Or.inl z⟩
theorem p_lh_stJ {ad : Nat → Nat} {ls ls1 : Array Slot} {n i : Nat} {L : List Value} {x : Int64} (h : p_lh ad ls n L) (h1 : lv_has ls1 n ((i, Value.long x) :: (p_lv ad L).filter (fun q => !(q.1 == i) && (!(q.1 == i + 1) && !(q.1 + 1 == i && q.2.category == 2))))) : p_lh ad ls1 n ((p_st L i (.long x)).set (i + 1) p_U) := by
  refine p_has_lh (by rw [List.length_set, p_st_len]; exact h.1) h1 (fun j u hu hn => ?_)
  by_cases hj : j = i + 1
  · subst hj
    have hl := (List.getElem?_eq_some_iff.mp hu).1
    rw [List.length_set] at hl
    rw [List.getElem?_set_self hl] at hu
    exact absurd (Option.some.inj hu).symm hn
  · rw [List.getElem?_set_ne (fun z => hj z.symm)] at hu
    rcases p_st_get hu hn with ⟨rfl, rfl⟩ | ⟨a, b, d⟩
    · exact List.mem_cons_self
    · refine List.mem_cons_of_mem _ (List.mem_filter.mpr ⟨p_lv_mem.mpr ⟨u, b, hn, rfl⟩, ?_⟩)
      simp only [Bool.and_eq_true, Bool.not_eq_true', beq_eq_false_iff_ne, ne_eq, Bool.and_eq_false_iff, p_cv_cat]
      exact ⟨a, hj, by by_cases z : j + 1 = i; exact Or.inr (fun y => d ⟨z, y⟩); exact Or.inl z⟩
theorem p_lh_set {ad : Nat → Nat} {ls ls1 : Array Slot} {n i : Nat} {L : List Value} {x0 x : Int32} (h : p_lh ad ls n L) (hx : L[i]? = some (.int x0)) (h1 : lv_has ls1 n ((i, Value.int x) :: (p_lv ad L).filter (fun q => !(q.1 == i) && !(q.1 + 1 == i && q.2.category == 2)))) : p_lh ad ls1 n (L.set i (.int x)) := by
  have h2 := h1.2.1
  refine p_has_lh (by rw [List.length_set]; exact h.1) h1 (fun j u hu hn => ?_)
  by_cases hj : j = i
  · subst hj
    rw [List.getElem?_set_self (List.getElem?_eq_some_iff.mp hx).1] at hu
    rw [← Option.some.inj hu]
    exact List.mem_cons_self
  · rw [List.getElem?_set_ne (fun z => hj z.symm)] at hu
    refine List.mem_cons_of_mem _ (List.mem_filter.mpr ⟨p_lv_mem.mpr ⟨u, hu, hn, rfl⟩, ?_⟩)
    simp only [Bool.and_eq_true, Bool.not_eq_true', beq_eq_false_iff_ne, ne_eq, Bool.and_eq_false_iff, p_cv_cat]
    refine ⟨hj, ?_⟩
    by_cases z : j + 1 = i
    · refine Or.inr (fun y => ?_)
      have e1 := h.2.2.2 _ _ hu hn
      have e2 := h.2.2.1.1 _ _ e1 (by rw [p_cv_cat]; exact y)
      have e3 := h.2.2.2 _ _ hx (by simp [p_U])
      rw [z, e3] at e2
      cases e2
    · exact Or.inl z
