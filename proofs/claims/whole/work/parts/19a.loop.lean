/-! THE LAW'S LOOP OVER THE MACHINE -/
theorem lo_stop {scr : pX} {pc k : Nat} {L L1 st : List Value} {w w1 : pW} (h : p_stp scr 186 pc L st w = some (.inl (.inr (.inr L1), w1, k))) : pc = 1633 ∧ st = [] ∧ L1 = L ∧ w1 = w ∧ k = 0 := by
  unfold p_stp at h
  cases hat : p_at 186 pc with
  | none => rw [hat] at h; simp at h
  | some ins =>
    rw [hat] at h
    dsimp only at h
    cases ins <;> first
      | (exact absurd h (show ¬ ((none : Option pS) = _) from fun z => by cases z))
      | (exfalso; revert h; simp only [p_ex, p_lI, p_lJ, p_lA, p_sI, p_sJ, p_i1, p_i2, p_i2z, p_l1, p_l2, p_l2z, p_lsh, p_gf, p_pf, p_ald, p_lald, p_bald, p_bast, p_iast, p_last, p_alen, p_swt, p_dup, p_dup2, p_pop, p_inc, p_iv, p_irt, p_lrt, p_vrt, p_nw, p_J, p_D]; (repeat' split) <;> simp; done)
      | (rename_i cnd off; cases cnd <;> (exfalso; revert h; simp only [p_ex, p_b2, p_b1, p_J]; (repeat' split) <;> simp; done))
      | skip
    case goto off =>
      dsimp only [p_ex] at h
      unfold p_gt at h
      split at h
      · split at h
        · next hq =>
          split at h
          · next hst =>
            simp only [p_D, Option.some.injEq, Sum.inl.injEq, Sum.inr.injEq, Prod.mk.injEq] at h
            obtain ⟨h1, h2, h3⟩ := h
            exact ⟨hq.2, hst, h1.symm, h2.symm, h3.symm⟩
          · simp at h
        · simp [p_J] at h
      · simp at h
theorem lo_end {scr : pX} {pc k : Nat} {L st : List Value} {v : Int32} {w w1 : pW} (h : p_stp scr 186 pc L st w = some (.inl (.inl (some (.int v)), w1, k))) : st = [.int v] ∧ w1 = w ∧ k = 0 ∧ p_at 186 pc = some .ireturn := by
  unfold p_stp at h
  cases hat : p_at 186 pc with
  | none => rw [hat] at h; simp at h
  | some ins =>
    rw [hat] at h
    dsimp only at h
    cases ins <;> first
      | (exact absurd h (show ¬ ((none : Option pS) = _) from fun z => by cases z))
      | (exfalso; revert h; simp only [p_ex, p_lI, p_lJ, p_lA, p_sI, p_sJ, p_i1, p_i2, p_i2z, p_l1, p_l2, p_l2z, p_lsh, p_gf, p_pf, p_ald, p_lald, p_bald, p_bast, p_iast, p_last, p_alen, p_swt, p_dup, p_dup2, p_pop, p_inc, p_iv, p_lrt, p_vrt, p_nw, p_gt, p_J, p_D]; (repeat' split) <;> simp; done)
      | (rename_i cnd off; cases cnd <;> (exfalso; revert h; simp only [p_ex, p_b2, p_b1, p_J]; (repeat' split) <;> simp; done))
      | skip
    case ireturn =>
      dsimp only [p_ex] at h
      unfold p_irt at h
      split at h
      · next v0 =>
        split at h
        · simp only [p_D, Option.some.injEq, Sum.inl.injEq, Prod.mk.injEq, Value.int.injEq] at h
          obtain ⟨h1, h2, h3⟩ := h
          subst h1
          exact ⟨rfl, h2.symm, h3.symm, rfl⟩
        · split at h
          · simp only [p_D, Option.some.injEq, Sum.inl.injEq, Prod.mk.injEq, Value.int.injEq] at h
            obtain ⟨h1, h2, h3⟩ := h
            subst h1
            exact ⟨rfl, h2.symm, h3.symm, rfl⟩
          · simp at h
        · simp at h
      · simp at h
theorem lo_gt : decode code 1633 = .ok (.goto (-1610), 3) := by decide +kernel
set_option maxHeartbeats 4000000 in
theorem lo_loop {p : Program} {l : Launch} {e : Env} {s : State} {m : MethodId} {below : List Frame} {meth : Method} {c : Code} {D : va_G} {ty : Nat → ClassId} {ad : Nat → Nat} {b N : Nat} {xs : Nat → Int32} {S0 : q_AS}
    (C : p_Cx l room_1 p s m #[Value.ref b] meth c 186) (V : p_Wd D ty (fun q : Nat => s.heap.size ≤ q) s) (X : p_sc (some (N, xs)) ad (fun q : Nat => s.heap.size ≤ q) s) (hb : c.code = code) (hr : meth.sig.returnType = ret) (hN : N ≤ 2048)
    (hsafe : ∀ {k : Nat} {S : q_AS}, k ≤ 511 → bo_rc S0 k S → q_safe S) : ∀ (d i : Nat) (S : q_AS) (w : pW) (z5 z6 z7 : Value) (cells slots : Nat), i + d = 512 → 4 * i ≤ N → bo_rc S0 i S → q_KS S w → q_RS S w → cells ≤ 100 + i → slots ≤ 30000 + 6 * i →
    p_K p l e room_1 s m #[Value.ref b] below meth c cells slots (lw_Z below #[Value.ref b] s) D ty ad (fun q : Nat => s.heap.size ≤ q) 186 23 [.ref 999, .ref 0, .ref 24, .ref 23, .int (nI (4 * i)), z5, z6, z7] [] w := by
  have hx := C.1
  have hlk : meth.locks = false := C.2.2.2.2.2.1
  have hst : l.stackTraces = false := C.2.2.2.2.2.2.2.2.2.1
  have hcells : room_1.cells = 1083 := rfl
  have hslots : room_1.slots = 34299 := rfl
  intro d
  induction d with
  | zero =>
    intro i S w z5 z6 z7 cells slots hi h4 hrc hK hR hc hs
    obtain ⟨n, hn⟩ := p_ev_iff.mp (q_lend (xs := xs) (z5 := z5) (z6 := z6) (z7 := z7) (w := w) (show N ≤ 4 * i + 3 by omega) h4 (by omega))
    refine p_fr D ty ad hst n hn C V X (CF := cells) (SF := slots) (by omega) (by omega) (by dsimp only; omega) (by dsimp only; omega) ?_ ?_
    · intro cells' slots' pc L st w0 k0 hstp hc1 hs1
      obtain ⟨e1, e2, e3, e4⟩ := lo_end hstp
      subst e1
      have hd := p_dec e4
      intro ls H locs hl hP hD hS
      refine va_forget (fun q hq => hS.2.2 q hq) ?_
      refine W.widen (k := 1083) (n := 34299) (by omega) (by omega) ?_
      exact lw_ret hx hb hr hlk hd
    · intro pc L rest i0 ls H1 locs1 ce q hi0 hh
      rcases hh with ⟨q0, hq1, hq2⟩ | ⟨_, hq2⟩
      · exact absurd hq1 (by
          have : p_hh 186 = [] := by decide +kernel
          intro z
          have k10 := List.all_eq_true.mp p_k10 _ (p_lk z)
          simp only [Bool.and_eq_true, decide_eq_true_eq] at k10
          have ht := k10.2
          rw [this] at ht
          exact absurd ht (by unfold p_ht; exact Bool.false_ne_true))
      · cases hq2
  | succ d ih =>
    intro i S w z5 z6 z7 cells slots hi h4 hrc hK hR hc hs
    by_cases hlt : 4 * i + 3 < N
    · obtain ⟨S', hstep, w', y5, y6, y7, k, hev, hk, hK', hR'⟩ := q_rall (i := i) (xs := xs) (z5 := z5) (z6 := z6) (z7 := z7) hlt (by omega) hK hR (hsafe (k := i) (by omega) hrc)
      obtain ⟨n, hn⟩ := p_ev_iff.mp hev
      refine p_fr D ty ad hst n hn C V X (CF := cells + k) (SF := slots + 6 * k) (by omega) (by omega) rfl rfl ?_ ?_
      · intro cells' slots' pc L st w0 k0 hstp hc1 hs1
        obtain ⟨e1, e2, e3, e4, e5⟩ := lo_stop hstp
        dsimp only at e3 e4
        subst e1 e2 e5
        rw [← e3, ← e4]
        intro ls H locs hl hP hD hS
        refine lv_goto (tgt := 23) hx hb lo_gt (by decide) ?_
        exact ih (i + 1) S' w' y5 y6 y7 cells' slots' (by omega) (by omega) ⟨S, hrc, hstep⟩ hK' hR' (by omega) (by omega) ls H locs (by rw [show 4 * (i + 1) = 4 * i + 4 by omega]; exact hl) hP hD hS
      · intro pc L rest i0 ls H1 locs1 ce q hi0 hh
        rcases hh with ⟨q0, _, hq2⟩ | ⟨_, hq2⟩
        · cases hq2
        · cases hq2
    · obtain ⟨n, hn⟩ := p_ev_iff.mp (q_lend (xs := xs) (z5 := z5) (z6 := z6) (z7 := z7) (w := w) (show N ≤ 4 * i + 3 by omega) h4 (by omega))
      refine p_fr D ty ad hst n hn C V X (CF := cells) (SF := slots) (by omega) (by omega) (by dsimp only; omega) (by dsimp only; omega) ?_ ?_
      · intro cells' slots' pc L st w0 k0 hstp hc1 hs1
        obtain ⟨e1, e2, e3, e4⟩ := lo_end hstp
        subst e1
        have hd := p_dec e4
        intro ls H locs hl hP hD hS
        refine va_forget (fun q hq => hS.2.2 q hq) ?_
        refine W.widen (k := 1083) (n := 34299) (by omega) (by omega) ?_
        exact lw_ret hx hb hr hlk hd
      · intro pc L rest i0 ls H1 locs1 ce q hi0 hh
        rcases hh with ⟨q0, hq1, hq2⟩ | ⟨_, hq2⟩
        · exact absurd hq1 (by
            have : p_hh 186 = [] := by decide +kernel
            intro z
            have k10 := List.all_eq_true.mp p_k10 _ (p_lk z)
            simp only [Bool.and_eq_true, decide_eq_true_eq] at k10
            have ht := k10.2
            rw [this] at ht
            exact absurd ht (by unfold p_ht; exact Bool.false_ne_true))
        · cases hq2
