/-! ENDS OF METHODS, HANDLERS -/
def p_ht (E hpc pc : Nat) : List (Nat × Nat × Nat × Nat) → Bool
  | [] => false
  | z :: zs => (decide (z.2.2.1 = hpc) && decide (z.1 ≤ pc) && decide (pc < z.2.1) && decide (z.2.2.2 ≠ 0) && p_hb (.classLink RL z.2.2.2 (p_xn E))) || ((List.range 3).any (fun F => decide (F ≠ E) && p_hb (.classLink RL z.2.2.2 (p_xn F))) && decide (z.2.2.2 ≠ 0) && p_ht E hpc pc zs)
theorem p_ht_spec {E hpc pc : Nat} : ∀ (hh : List (Nat × Nat × Nat × Nat)), p_ht E hpc pc hh = true → ∃ pre z suf, hh = pre ++ z :: suf ∧ z.2.2.1 = hpc ∧ z.1 ≤ pc ∧ pc < z.2.1 ∧ z.2.2.2 ≠ 0 ∧ Cond.classLink RL z.2.2.2 (p_xn E) ∈ p_big ∧ ∀ y ∈ pre, y.2.2.2 ≠ 0 ∧ ∃ F, F < 3 ∧ F ≠ E ∧ Cond.classLink RL y.2.2.2 (p_xn F) ∈ p_big
  | [], h => by simp [p_ht] at h
  | z :: zs, h => by
    simp only [p_ht, Bool.or_eq_true, Bool.and_eq_true, decide_eq_true_eq, List.any_eq_true, List.mem_range] at h
    rcases h with ⟨⟨⟨⟨h1, h2⟩, h3⟩, h4⟩, h5⟩ | ⟨⟨⟨F, hF, h1, h2⟩, h3⟩, h4⟩
    · exact ⟨[], z, zs, rfl, h1, h2, h3, h4, p_hb_big h5, fun y hy => absurd hy List.not_mem_nil⟩
    · obtain ⟨pre, x, suf, e1, e2, e3, e4, e5, e6, e7⟩ := p_ht_spec zs h4
      refine ⟨z :: pre, x, suf, by rw [e1]; rfl, e2, e3, e4, e5, e6, fun y hy => ?_⟩
      rcases List.mem_cons.mp hy with rfl | hy
      · exact ⟨h3, F, hF, h1, p_hb_big h2⟩
      · exact e7 y hy
def p_hcode (mi hpc slot : Nat) (cst : Int32) : Bool := match p_at mi hpc with
  | some (.astore k) => decide (k = slot) && (match p_at mi (hpc + 2) with
    | some (.iconst n) => decide (Int32.ofInt n = cst) && decide (p_at mi (hpc + 3) = some .ireturn)
    | _ => false)
  | some (.astore_n k) => decide (k.val = slot) && (match p_at mi (hpc + 1) with
    | some (.iconst n) => decide (Int32.ofInt n = cst) && decide (p_at mi (hpc + 2) = some .ireturn)
    | _ => false)
  | _ => false
theorem p_k10 : p_hdT.all (fun q => decide (q.1.2.2 < 3) && decide (p_own q.1.1 = 6) && decide (p_rt q.1.1 = some .int) && decide (q.2.2.1 < p_ml q.1.1) && p_hcode q.1.1 q.2.1 q.2.2.1 q.2.2.2 && p_ht q.1.2.2 q.2.1 q.1.2.1 (p_hh q.1.1)) = true := by decide +kernel
theorem p_k11 : ∀ E, E < 3 → Cond.castable (p_xn E) (p_xn E) ∈ p_xB := by decide +kernel
theorem p_k12 : p_ms.all (fun m => decide (m ≠ p_lawI)) = true := by decide +kernel
theorem p_k13 : (List.range 101).all (fun m => decide (p_own m ≠ 4) || decide (p_hh m = [])) = true := by decide +kernel
theorem p_k14 : p_obs.length = 25 := rfl
section Ends
variable {p : Program} {l : Launch} {e : Env} {R : Room} {s : State} {m : MethodId} {args : Array Value} {below : List Frame} {meth : Method} {c : Code} {cells slots : Nat} {D : va_G} {ty : Nat → ClassId} {ad : Nat → Nat} {A : Nat → Prop} {scr : pX} {mi pc pc1 mj : Nat} {L L1 st st1 as rest : List Value} {w w1 : pW}
theorem p_XC_of {H : Heap} {locs : List Loc} {r : pR} {i : Nat} (hi : i < 3) (hr : r.1 = .inr (.inl i)) (hP : va_P D vwCl (p_ws ad ty r.2.1) H) (hS : va_S A s.heap H locs) {t : State} (hz : H.size ≤ t.heap.size) (hq : ∀ q : Nat, q < H.size → t.heap[q]? = H[q]?) : p_XC D ty ad A r (p_xn i) s t :=
  ⟨⟨i, hi, hr, rfl, hP.kept (fun k q hk => hq q.1 (hP k q hk).lt)⟩, Nat.le_trans hS.1 hz, fun q h1 h2 => by rw [hq q (Nat.lt_of_lt_of_le h1 hS.1)]; exact hS.2.1 q h1 h2⟩
theorem p_QC_of {H : Heap} {locs : List Loc} {r : pR} {v : Option Value} {a : Array Value} (hr : r.1 = .inl v) (hP : va_P D vwCl (p_ws ad ty r.2.1) H) (hS : va_S A s.heap H locs) {t : State} (ht : t.heap = H) : p_QC D ty ad A r a s (.returned (v.map (p_cv ad))) t :=
  ⟨⟨v, hr, rfl, by rw [ht]; exact hP⟩, hS.F ht⟩
set_option maxHeartbeats 4000000 in
/-- a step that ends the method -/
theorem p_fin1 (C : p_Cx l R p s m args meth c mi) (V : p_Wd D ty A s) (hmi : mi < 101) {r : pR} {o : pO} {k0 : Nat} (h : p_stp scr mi pc L st w = some (.inl (o, r.2.1, k0))) (ho : o = r.1) (hst : ∀ L, r.1 ≠ .inr (.inr L)) (hcell : cells + k0 = r.2.2) (hslot : slots + 6 * k0 = 6 * r.2.2) (hR1 : r.2.2 ≤ R.cells) (hR2 : 6 * r.2.2 ≤ R.slots) :
    p_K p l e R s m args below meth c cells slots (vx_MQ below (p_QC D ty ad A r) (p_XC D ty ad A r) args s r.2.2 (6 * r.2.2) A) D ty ad A mi pc L st w := by
  obtain ⟨hx, hb, hml, hown, hts, hlk, hrt, hRF, hRL, hst0, htab⟩ := C
  obtain ⟨hK, hA, hxx⟩ := V
  unfold p_stp at h
  cases hat : p_at mi pc with
  | none => rw [hat] at h; simp at h
  | some ins =>
    rw [hat] at h
    dsimp only at h
    have hd := p_dec hat
    intro ls H locs hl hP hD hS
    cases ins <;> first
      | (exact absurd h (show ¬ ((none : Option pS) = _) from fun z => by cases z))
      | (exfalso; revert h; simp only [p_ex, p_lI, p_lJ, p_lA, p_sI, p_sJ, p_i1, p_i2, p_i2z, p_l1, p_l2, p_l2z, p_lsh, p_gf, p_pf, p_ald, p_lald, p_bald, p_bast, p_iast, p_last, p_alen, p_swt, p_dup, p_dup2, p_pop, p_inc, p_iv, p_J, p_D]; (repeat' split) <;> simp; done)
      | (rename_i cnd off; cases cnd <;> (exfalso; revert h; simp only [p_ex, p_b2, p_b1, p_J]; (repeat' split) <;> simp; done))
      | skip
    case ireturn =>
      dsimp only [p_ex] at h
      unfold p_irt at h
      split at h
      · next v =>
        split at h
        · next hr =>
          simp only [p_D, Option.some.injEq, Sum.inl.injEq, Prod.mk.injEq] at h
          obtain ⟨rfl, rfl, rfl⟩ := h
          refine vx_ret ?_
          rw [show r.2.2 = cells by omega, show 6 * cells = slots by omega]
          exact W.iret hx hb (by rw [hrt, hr]) (fun t ht hW => p_QC_of ho.symm hP hS ht) hS.2.2 hd hlk
        · next hr =>
          split at h
          · next hv =>
            simp only [p_D, Option.some.injEq, Sum.inl.injEq, Prod.mk.injEq] at h
            obtain ⟨rfl, rfl, rfl⟩ := h
            refine vx_ret ?_
            rw [show r.2.2 = cells by omega, show 6 * cells = slots by omega]
            exact W.zret (ty := .boolean) hx hb (by rw [hrt, hr]) hv (fun t ht hW => p_QC_of ho.symm hP hS ht) hS.2.2 hd hlk
          · simp at h
        · simp at h
      · simp at h
    case lreturn =>
      dsimp only [p_ex] at h
      unfold p_lrt at h
      split at h
      · next v =>
        split at h
        · next hr =>
          simp only [p_D, Option.some.injEq, Sum.inl.injEq, Prod.mk.injEq] at h
          obtain ⟨rfl, rfl, rfl⟩ := h
          refine vx_ret ?_
          rw [show r.2.2 = cells by omega, show 6 * cells = slots by omega]
          exact W.lret hx hb (by rw [hrt, hr]) (fun t ht hW => p_QC_of ho.symm hP hS ht) hS.2.2 hd hlk
        · simp at h
      · simp at h
    case return_ =>
      dsimp only [p_ex] at h
      unfold p_vrt at h
      split at h
      · split at h
        · next hr =>
          simp only [p_D, Option.some.injEq, Sum.inl.injEq, Prod.mk.injEq] at h
          obtain ⟨rfl, rfl, rfl⟩ := h
          refine vx_ret ?_
          rw [show r.2.2 = cells by omega, show 6 * cells = slots by omega]
          exact W.vret hx hb (by rw [hrt, hr]) (fun t ht hW => p_QC_of ho.symm hP hS ht) hS.2.2 hd hlk
        · simp at h
      · simp at h
    case goto off =>
      exfalso
      dsimp only [p_ex] at h
      unfold p_gt at h
      split at h
      · split at h
        · split at h
          · simp only [p_D, Option.some.injEq, Sum.inl.injEq, Prod.mk.injEq] at h
            exact hst L (by rw [← ho, ← h.1])
          · simp at h
        · simp [p_J] at h
      · simp at h
    case new ik =>
      dsimp only [p_ex] at h
      unfold p_nw at h
      split at h
      · next is ic h3 h4 h6 h9 =>
        split at h
        · next E hE =>
          split at h
          · next hrr =>
            simp only [p_D, Option.some.injEq, Sum.inl.injEq, Prod.mk.injEq] at h
            obtain ⟨rfl, rfl, rfl⟩ := h
            have z := List.all_eq_true.mp p_k9 _ (p_lk hE)
            simp only [Bool.and_eq_true, decide_eq_true_eq] at z
            obtain ⟨⟨⟨⟨⟨⟨⟨⟨⟨z1, z2⟩, z3⟩, z4⟩, z5⟩, z6⟩, z7⟩, z8⟩, z9⟩, z10⟩ := z
            obtain ⟨⟨is1, tx⟩, hq1, hq2⟩ := List.mem_map.mp z5
            dsimp only at hq2
            subst hq2
            obtain ⟨sa, hsa⟩ := hxx.1 _ hq1
            have hnm : p_nm (p_own mi) = RX4 := by rw [z1]; rfl
            rw [hnm] at hown
            have htab0 : c.exceptionTable.toList = [] := by
              have y := List.all_eq_true.mp p_k13 mi (List.mem_range.mpr hmi)
              simp only [z1, ne_eq, not_true_eq_false, decide_false, Bool.false_or, decide_eq_true_eq] at y
              rw [htab, y]; rfl
            have hls : ls.size = c.maxLocals := by rw [hml]; exact hl.2.1
            refine vx_throwS (names := p_xs) (text := tx) (sa := sa) (A := A) (own := RX4) (cls := p_xn E) hx hb hst0 hown z9 (fun n hn => List.all_eq_true.mp z10 n hn) (hts _ (p_hb_big z3)) (hts _ (p_hb_big z4)) hsa ?_ (fun w hw => List.all_eq_true.mp z8 w hw) hxx.2.1 hxx.2.2.1 hS hls hd (p_dec h3) (p_dec h4) (p_dec h6) (p_dec h9) (by rw [htab0]; intro x hx; exact absurd hx List.not_mem_nil) (by show 2 + 3 < R.frames; omega) (by show 0 + (13 * (2 + 1) + 43) ≤ R.locals; omega) (by omega) (by omega) hlk (fun t hal hz hq => p_XC_of z2 ho.symm hP hS hz hq) hS.2.2 (by omega) (by omega)
            refine vx_hat (B := p_xB) (fun w hw => ?_) (fun w hw => ?_) (fun w hw => ?_)
            · have y := List.all_eq_true.mp z6 w hw
              exact hts _ (List.mem_filter.mpr ⟨by simpa using y, (List.mem_filter.mp hw).2⟩)
            · have y := List.all_eq_true.mp z7 w hw
              simpa using y
            · exact va_Nw.use (p_xB_on w hw) (hxx.2.2.2.1 w hw)
          · simp at h
        · simp at h
      · simp at h
set_option maxHeartbeats 4000000 in
/-- an exception that comes out of a call: it leaves, or is caught -/
theorem p_fin2 (C : p_Cx l R p s m args meth c mi) (V : p_Wd D ty A s) {r : pR} {i : Nat} (hi : i < 3) (hcell : cells = r.2.2) (hslot : slots = 6 * r.2.2)
    (hh : (∃ q, p_hd mi pc i = some q ∧ r.1 = .inl (some (.int q.2.2))) ∨ (p_hh mi = [] ∧ r.1 = .inr (.inl i))) {ls : Array Slot} {H : Heap} {locs : List Loc} {ce : Cell} {q9 : Addr} (hl : p_lh ad ls (p_ml mi) L) (hP : va_P D vwCl (p_ws ad ty r.2.1) H) (hS : va_S A s.heap H locs) (hce : H[q9]? = some ce) (hv : ce.vm = .none) (hcl : s.vm.findClass (p_xn i) = some ce.cls) :
    vx_W p l e R s m args below meth c H locs cells slots (vx_MQ below (p_QC D ty ad A r) (p_XC D ty ad A r) args s r.2.2 (6 * r.2.2) A) (F0 m pc ls (rest.map (p_cv ad))) q9 := by
  obtain ⟨hx, hb, hml, hown, hts, hlk, hrt, hRF, hRL, hst0, htab⟩ := C
  obtain ⟨hK, hA, hxx⟩ := V
  rcases hh with ⟨q, hq, hr⟩ | ⟨hh0, hr⟩
  · exact absurd (p_lk hq) List.not_mem_nil
  · refine vx_out (by rw [htab, hh0]; intro x hx9; exact absurd hx9 List.not_mem_nil) hlk hce hv hcl (fun t ht hal => ?_) hS.2.2 (by omega) (by omega)
    exact p_XC_of hi hr hP hS (by rw [ht]; exact Nat.le_refl _) (fun q _ => by rw [ht])
end Ends
