/-! NUMBERS, ROWS OF A WORLD, THE METHODS OF THE CLASS ROW -/
theorem q_out {k n : Nat} (h : k < n) (hn : n < 2 ^ 31) : p_out (nI k) n = false := by
  simp only [p_out, decide_eq_false_iff_not]
  exact vp_in_nI h hn
theorem q_cl {n : Nat} (h : n < 2 ^ 31) : (nI n).toNatClampNeg = n := nI_clamp h
/-- row a of a table becomes g -/
def q_r {α : Type} (f : Nat → Nat → α) (a : Nat) (g : Nat → α) : Nat → Nat → α := fun b => if b = a then g else f b
theorem q_r_s {α : Type} {f : Nat → Nat → α} {a : Nat} {g : Nat → α} : q_r f a g a = g := if_pos rfl
theorem q_r_n {α : Type} {f : Nat → Nat → α} {a b : Nat} {g : Nat → α} (h : b ≠ a) : q_r f a g b = f b := if_neg h
theorem q_r_r {α : Type} {f : Nat → Nat → α} {a : Nat} {g h : Nat → α} : q_r (q_r f a g) a h = q_r f a h := by
  funext b; unfold q_r; split <;> rfl
theorem q_r_id {α : Type} {f : Nat → Nat → α} {a : Nat} : q_r f a (f a) = f := by
  funext b; unfold q_r; split
  · next h => rw [h]
  · rfl
theorem q_pu {α : Type} {f : Nat → Nat → α} {o k : Nat} {v : α} : p_u f o k v = q_r f o (fun j => if j = k then v else f o j) := by
  funext a b
  unfold p_u q_r
  by_cases ha : a = o
  · subst ha; simp
  · simp [ha]
theorem q_sl : ∀ n, n < 32 → ((nI n &&& 31).toBitVec.smod 32).toNat = n := by decide +kernel
theorem q_shr {n l : Nat} (h : n < 2 ^ 31) (hl : l < 32) : nI n >>> (nI l &&& 31) = nI (n / 2 ^ l) := pk_shrN h _ l (q_sl l hl)
theorem q_shl {n l : Nat} (hl : l < 32) (h : n * 2 ^ l < 2 ^ 32) : nI n <<< (nI l &&& 31) = nI (n * 2 ^ l) := pk_shlN _ l (q_sl l hl) h
theorem q_nb {v : Nat} (h : v < 2) : narrow .boolean (.int (nI v)) = .int (nI v) := by
  match v, h with
  | 0, _ => rfl
  | 1, _ => rfl
theorem q_vb {v : Nat} (h : v < 2) : vp_nar .boolean (nI v) = nI v := by
  match v, h with
  | 0, _ => rfl
  | 1, _ => rfl
theorem q_sub {a b : Nat} (h : b ≤ a) : nI a - nI b = nI (a - b) := pk_sub h
theorem q_m1 {a : Nat} (h : 1 ≤ a) : nI a + (-1) = nI (a - 1) := by
  obtain ⟨b, rfl⟩ : ∃ b, a = b + 1 := ⟨a - 1, by omega⟩
  exact pk_m1 b
theorem q_div {a d : Nat} (ha : a < 2 ^ 31) (h0 : 0 < d) (hd : d < 2 ^ 31) : nI a / nI d = nI (a / d) := pk_div ha h0 hd
theorem q_n0 {d : Nat} (h0 : 0 < d) (hd : d < 2 ^ 31) : ¬ nI d = 0 := nI_ne0 h0 hd
theorem q_get {r k : Nat} {w : pW} (hr : p_rw r) (hk : k < 32) : p_ev none 24 0 [.ref r, .int (nI k)] [] w = some (.inl (some (.long (w.2.1 (r + 7) k))), w, 0) := by
  (conv => lhs; simp (disch := first | assumption | omega | (rw [nI_leI] <;> omega) | (rw [nI_ltI] <;> omega) | (rw [nI_eq] <;> omega) | (apply q_out <;> omega) | (apply q_nb; omega) | (apply q_n0 <;> omega)) only [M24 r hr, ↓if_pos, ↓if_neg, nI_add, q_sub, q_cl, p_bnd_s, p_bnd_v])
theorem q_set {r k : Nat} {v : Int64} {w : pW} (hr : p_rw r) (hk : k < 32) : p_ev none 25 0 [.ref r, .int (nI k), .long v, p_U] [] w = some (.inl none, (w.1, q_r w.2.1 (r + 7) (fun j => if j = k then v else w.2.1 (r + 7) j), w.2.2), 0) := by
  (conv => lhs; simp (disch := first | assumption | omega | (rw [nI_leI] <;> omega) | (rw [nI_ltI] <;> omega) | (rw [nI_eq] <;> omega) | (apply q_out <;> omega) | (apply q_nb; omega) | (apply q_n0 <;> omega)) only [M25 r hr, q_pu, ↓if_pos, ↓if_neg, nI_add, q_sub, q_cl, p_bnd_s, p_bnd_v])
theorem q_mag {r k : Nat} {w : pW} (hr : p_rw r) (hk : k < 32) : p_ev none 26 0 [.ref r, .int (nI k)] [] w = some (.inl (some (.long (p_abs (w.2.1 (r + 7) k)))), w, 0) := by
  simp only [M26 r hr, q_get hr hk, p_bnd_s]
theorem q_clear_l {r : Nat} (hr : p_rw r) : ∀ (d k : Nat) (w : pW), k + d = 32 → p_ev none 27 2 [.ref r, .int (nI k)] [] w = some (.inl none, (w.1, q_r w.2.1 (r + 7) (fun j => if k ≤ j ∧ j < 32 then lN 0 else w.2.1 (r + 7) j), w.2.2), 0) := by
  intro d
  induction d with
  | zero =>
    intro k w hk
    have e : (fun j => if k ≤ j ∧ j < 32 then lN 0 else w.2.1 (r + 7) j) = w.2.1 (r + 7) := by
      funext j; rw [if_neg (by omega)]
    (conv => lhs; simp (disch := first | assumption | omega | (rw [nI_leI] <;> omega) | (rw [nI_ltI] <;> omega) | (rw [nI_eq] <;> omega) | (apply q_out <;> omega) | (apply q_nb; omega) | (apply q_n0 <;> omega)) only [H27_2 r hr, M27 r hr, ↓if_pos, ↓if_neg, nI_add, q_sub, q_cl, p_bnd_s, p_bnd_v])
    rw [e, q_r_id]
  | succ d ih =>
    intro k w hk
    rw [H27_2 r hr]
    (conv => lhs; simp (disch := first | assumption | omega | (rw [nI_leI] <;> omega) | (rw [nI_ltI] <;> omega) | (rw [nI_eq] <;> omega) | (apply q_out <;> omega) | (apply q_nb; omega) | (apply q_n0 <;> omega)) only [M27 r hr, ih, q_pu, q_r_s, q_r_r, ↓if_pos, ↓if_neg, nI_add, q_sub, q_cl, p_bnd_s, p_bnd_v])
    refine congrArg some (congrArg (Prod.mk _) (congrArg (fun z => (z, 0)) (congrArg (fun z => (w.1, q_r w.2.1 (r + 7) z, w.2.2)) ?_)))
    funext j
    by_cases h1 : j = k
    · subst h1; simp; omega
    · by_cases h2 : k + 1 ≤ j ∧ j < 32
      · rw [if_pos h2, if_pos (by omega)]
      · rw [if_neg h2, if_neg h1, if_neg (by omega)]
theorem q_clear {r : Nat} {w : pW} (hr : p_rw r) : p_ev none 27 0 [.ref r, p_U] [] w = some (.inl none, (w.1, q_r w.2.1 (r + 7) (fun j => if j < 32 then lN 0 else w.2.1 (r + 7) j), w.2.2), 0) := by
  simp only [M27 r hr, q_clear_l hr 32 0 w rfl, Nat.zero_le, true_and]
theorem q_copy_l {r r2 : Nat} (hr : p_rw r) (hr2 : p_rw r2) (hne : r ≠ r2) : ∀ (d k : Nat) (w : pW), k + d = 32 → p_ev none 28 2 [.ref r, .ref r2, .int (nI k)] [] w = some (.inl none, (w.1, q_r w.2.1 (r + 7) (fun j => if k ≤ j ∧ j < 32 then w.2.1 (r2 + 7) j else w.2.1 (r + 7) j), w.2.2), 0) := by
  intro d
  induction d with
  | zero =>
    intro k w hk
    have e : (fun j => if k ≤ j ∧ j < 32 then w.2.1 (r2 + 7) j else w.2.1 (r + 7) j) = w.2.1 (r + 7) := by
      funext j; rw [if_neg (by omega)]
    (conv => lhs; simp (disch := first | assumption | omega | (rw [nI_leI] <;> omega) | (rw [nI_ltI] <;> omega) | (rw [nI_eq] <;> omega) | (apply q_out <;> omega) | (apply q_nb; omega) | (apply q_n0 <;> omega)) only [H28_2 r hr r2 hr2, M28 r hr r2 hr2, ↓if_pos, ↓if_neg, nI_add, q_sub, q_cl, p_bnd_s, p_bnd_v])
    rw [e, q_r_id]
  | succ d ih =>
    intro k w hk
    have hne7 : r2 + 7 ≠ r + 7 := by omega
    rw [H28_2 r hr r2 hr2]
    (conv => lhs; simp (disch := first | assumption | omega | (rw [nI_leI] <;> omega) | (rw [nI_ltI] <;> omega) | (rw [nI_eq] <;> omega) | (apply q_out <;> omega) | (apply q_nb; omega) | (apply q_n0 <;> omega)) only [M28 r hr r2 hr2, ih, q_pu, q_r_s, q_r_n, q_r_r, q_get hr2, ↓if_pos, ↓if_neg, nI_add, q_sub, q_cl, p_bnd_s, p_bnd_v])
    refine congrArg some (congrArg (Prod.mk _) (congrArg (fun z => (z, 0)) (congrArg (fun z => (w.1, q_r w.2.1 (r + 7) z, w.2.2)) ?_)))
    funext j
    by_cases h1 : j = k
    · subst h1; simp; omega
    · by_cases h2 : k + 1 ≤ j ∧ j < 32
      · rw [if_pos h2, if_pos (by omega)]
      · rw [if_neg h2, if_neg h1, if_neg (by omega)]
theorem q_copy {r r2 : Nat} {w : pW} (hr : p_rw r) (hr2 : p_rw r2) (hne : r ≠ r2) : p_ev none 28 0 [.ref r, .ref r2, p_U] [] w = some (.inl none, (w.1, q_r w.2.1 (r + 7) (fun j => if j < 32 then w.2.1 (r2 + 7) j else w.2.1 (r + 7) j), w.2.2), 0) := by
  simp only [M28 r hr r2 hr2, q_copy_l hr hr2 hne 32 0 w rfl, Nat.zero_le, true_and]
