/-! THE WHOLE RUN OF A METHOD -/
theorem p_flat_get (ad : Nat → Nat) : ∀ (as : List Value) (n k i : Nat) (v : Value), ((as.flatMap fun v => if v.category = 2 then [v, p_U] else [v]) ++ List.replicate n p_U)[i]? = some v → v ≠ p_U → (k + i, p_cv ad v) ∈ lv_args k (as.map (p_cv ad))
  | [], n, k, i, v, h, hu => by
    simp only [List.flatMap_nil, List.nil_append] at h
    exact absurd (List.eq_of_mem_replicate (List.mem_of_getElem? h)) hu
  | a :: as, n, k, i, v, h, hu => by
    simp only [List.map_cons, lv_args, p_cv_cat]
    by_cases hc : a.category = 2
    · simp only [List.flatMap_cons, hc, if_true, List.cons_append, List.nil_append] at h ⊢
      match i, h with
      | 0, h =>
        simp at h
        subst h
        exact List.mem_cons_self
      | 1, h =>
        simp at h
        exact absurd h.symm hu
      | i + 2, h =>
        simp only [List.getElem?_cons_succ] at h
        have z := p_flat_get ad as n (k + 2) i v h hu
        rw [show k + (i + 2) = k + 2 + i by omega]
        exact List.mem_cons_of_mem _ z
    · simp only [List.flatMap_cons, hc, if_false, List.cons_append, List.nil_append] at h ⊢
      match i, h with
      | 0, h =>
        simp at h
        subst h
        exact List.mem_cons_self
      | i + 1, h =>
        simp only [List.getElem?_cons_succ] at h
        have z := p_flat_get ad as n (k + 1) i v h hu
        rw [show k + (i + 1) = k + 1 + i by omega]
        exact List.mem_cons_of_mem _ z
theorem p_sl_len (ad : Nat → Nat) : ∀ (as : List Value), (lg_sl (as.map (p_cv ad))).length = p_cs as
  | [] => rfl
  | a :: as => by
    have ih := p_sl_len ad as
    simp only [lg_sl, List.map_cons, List.flatMap_cons, List.length_append, p_cv_cat, p_cs, List.sum_cons] at ih ⊢
    rw [ih]
    rcases lv_cat a with h | h <;> simp [h]
theorem p_ent_lh (ad : Nat → Nat) {as : List Value} {n : Nat} (h : p_cs as ≤ n) : p_lh ad ((lg_sl (as.map (p_cv ad)) ++ List.replicate (n - (lg_sl (as.map (p_cv ad))).length) Slot.unset).toArray) n (p_ent as n) := by
  have h1 := lv_entry (as.map (p_cv ad)) (n := n) (by rw [p_sl_len]; exact h)
  refine p_has_lh ?_ h1 (fun i v hv hu => ?_)
  · simp only [p_ent, List.length_take, List.length_append, List.length_replicate]
    omega
  · unfold p_ent at hv
    have hi : i < n := by
      have := (List.getElem?_eq_some_iff.mp hv).1
      rw [List.length_take] at this
      omega
    rw [List.getElem?_take_of_lt hi] at hv
    have z := p_flat_get ad as n 0 i v hv hu
    rwa [Nat.zero_add] at z
theorem p_stp_stop {scr : pX} {mi pc k : Nat} {L L1 st : List Value} {w w1 : pW} (h : p_stp scr mi pc L st w = some (.inl (.inr (.inr L1), w1, k))) : mi = p_lawI := by
  unfold p_stp at h
  cases hat : p_at mi pc with
  | none => rw [hat] at h; simp at h
  | some ins =>
    rw [hat] at h
    dsimp only at h
    cases ins <;> first
      | (exact absurd h (show ¬ ((none : Option pS) = _) from fun z => by cases z))
      | (exfalso; revert h; simp only [p_ex, p_lI, p_lJ, p_lA, p_sI, p_sJ, p_i1, p_i2, p_i2z, p_l1, p_l2, p_l2z, p_lsh, p_gf, p_pf, p_ald, p_lald, p_bald, p_bast, p_iast, p_last, p_alen, p_swt, p_dup, p_dup2, p_pop, p_inc, p_iv, p_irt, p_lrt, p_vrt, p_nw, p_J, p_D]; (repeat' split) <;> simp; done)
      | (rename_i cnd off; cases cnd <;> (exfalso; revert h; simp only [p_ex, p_b2, p_b1, p_J]; (repeat' split) <;> simp; done))
      | skip
    case goto off =>
      dsimp only [p_ex] at h
      unfold p_gt at h
      split at h
      · split at h
        · next hq => exact hq.1
        · simp [p_J] at h
      · simp at h
theorem p_run_stop : ∀ (n : Nat) {scr : pX} {mi pc : Nat} {L st : List Value} {w : pW} {r : pR}, mi ≠ p_lawI → p_run n scr mi pc L st w = some r → ∀ L1, r.1 ≠ .inr (.inr L1)
  | 0, scr, mi, pc, L, st, w, r, hm, h => by simp [p_run] at h
  | n + 1, scr, mi, pc, L, st, w, r, hm, h => by
    intro L1 hr
    simp only [p_run] at h
    split at h
    · simp at h
    · next r0 hs =>
      simp only [Option.some.injEq] at h
      subst h
      obtain ⟨o, w1, k⟩ := r0
      dsimp only at hr
      subst hr
      exact hm (p_stp_stop hs)
    · exact p_run_stop n hm h L1 hr
    · split at h
      · simp at h
      · split at h
        · next o w2 k2 hc =>
          simp only [Option.some.injEq] at h
          subst h
          exact p_run_stop n hm hc L1 hr
        · simp at h
      · split at h
        · simp only [Option.some.injEq] at h
          subst h
          simp at hr
        · split at h
          · simp only [Option.some.injEq] at h
            subst h
            simp at hr
          · simp at h
      · simp at h
def p_FR (l : Launch) (D : va_G) (ty : Nat → ClassId) (ad : Nat → Nat) (n : Nat) : Prop :=
  ∀ {p : Program} {e : Env} {R : Room} {s : State} {m : MethodId} {args : Array Value} {below : List Frame} {meth : Method} {c : Code} {cells slots : Nat} {Q : State → Prop} {A : Nat → Prop} {scr : pX} {mi pc : Nat} {L st : List Value} {w : pW} {r : pR} {CF SF : Nat},
    p_run n scr mi pc L st w = some r → p_Cx l R p s m args meth c mi → p_Wd D ty A s → p_sc scr ad A s → CF ≤ R.cells → SF ≤ R.slots → cells + r.2.2 = CF → slots + 6 * r.2.2 = SF →
    (∀ (cells slots pc : Nat) (L st : List Value) (w : pW) (k0 : Nat), p_stp scr mi pc L st w = some (.inl (r.1, r.2.1, k0)) → cells + k0 = CF → slots + 6 * k0 = SF → p_K p l e R s m args below meth c cells slots Q D ty ad A mi pc L st w) →
    (∀ (pc : Nat) (L rest : List Value) (i : Nat) (ls : Array Slot) (H1 : Heap) (locs1 : List Loc) (ce : Cell) (q : Addr), i < 3 → ((∃ q, p_hd mi pc i = some q ∧ r.1 = .inl (some (.int q.2.2))) ∨ (p_hh mi = [] ∧ r.1 = .inr (.inl i))) → p_lh ad ls (p_ml mi) L → va_P D vwCl (p_ws ad ty r.2.1) H1 → va_S A s.heap H1 locs1 → H1[q]? = some ce → ce.vm = .none → s.vm.findClass (p_xn i) = some ce.cls → vx_W p l e R s m args below meth c H1 locs1 CF SF Q (F0 m pc ls (rest.map (p_cv ad))) q) →
    p_K p l e R s m args below meth c cells slots Q D ty ad A mi pc L st w
theorem p_k15 : p_ms.all (fun m => decide (m < 101) && decide (m ≠ p_lawI)) = true := by decide +kernel
set_option maxHeartbeats 4000000 in
theorem p_ct_of {l : Launch} {D : va_G} {ty : Nat → ClassId} {ad : Nat → Nat} {n : Nat} (hfr : p_FR l D ty ad n) (hst : l.stackTraces = false) {mi : Nat} {as : List Value} {w : pW} {r : pR} (hm : mi ∈ p_ms) (hcs : p_cs as ≤ p_ml mi) (h : p_run n none mi 0 (p_ent as (p_ml mi)) [] w = some r) : p_Ct l D ty ad mi as w r := by
  intro sz
  obtain ⟨q1, q2, q3, q4, q5, q6⟩ := p_msk hm
  have hk := List.all_eq_true.mp p_k15 mi hm
  simp only [Bool.and_eq_true, decide_eq_true_eq] at hk
  have hns := p_run_stop n hk.2 h
  have main : ∀ (p : Program) (e : Env) (s : State) (m : MethodId) (args : Array Value) (below : List Frame) (meth : Method) (c : Code), p_Cx l (p_rm mi r.2.2) p s m args meth c mi → p_Pc D ty ad as w sz args s →
      W p l e (p_rm mi r.2.2) s m args below meth c s.heap [] 0 0 (vx_MQ below (p_QC D ty ad (va_A (p_ws ad ty w) sz) r) (p_XC D ty ad (va_A (p_ws ad ty w) sz) r) args s r.2.2 (6 * r.2.2) (va_A (p_ws ad ty w) sz)) (entryFrame m args (p_ml mi)) := by
    intro p e s m args below meth c C hv
    obtain ⟨rfl, hsz, hP, hK, hD0, hxx⟩ := hv
    subst hsz
    rw [lg_entry_eq]
    have hD := hD0.self (sz := s.heap.size)
    have V : p_Wd D ty (va_A (p_ws ad ty w) s.heap.size) s := ⟨hK, fun q hq => Or.inr hq, hxx⟩
    have hS : va_S (va_A (p_ws ad ty w) s.heap.size) s.heap s.heap [] := va_S.rf
    refine hfr (CF := r.2.2) (SF := 6 * r.2.2) (scr := none) h C V (fun n xs z => by cases z) (Nat.le_refl _) (Nat.le_refl _) (Nat.zero_add _) (Nat.zero_add _) ?_ ?_ _ _ _ (p_ent_lh ad hcs) hP hD hS
    · intro cells slots pc L st w2 k0 hs h1 h2
      exact p_fin1 C V hk.1 hs rfl hns h1 h2 (Nat.le_refl _) (Nat.le_refl _)
    · intro pc L rest i ls H1 locs1 ce q hi hh hl hP1 hS1 hce hv hcl
      exact p_fin2 C V hi rfl rfl hh hl hP1 hS1 hce hv hcl
  have hats : ∀ {p : Program} {e : Env} {s : State} {m : MethodId} {args : Array Value} {below : List Frame} {meth : Method} {c : Code} {s₁ : State}, BodyLoose p l (p_y mi) (headSpec (p_cw mi :: p_big) (p_rm mi r.2.2)) (p_b mi) (p_ml mi) (p_rt mi) e s m args below meth c s₁ → ∀ w ∈ p_cw mi :: p_big, w.before args s = true := fun B => atoms_spec (ws := p_cw mi :: p_big) B.pre
  cases hhn : p_hh mi with
  | nil =>
    have hcw : p_cw mi = .code (p_y mi) (p_b mi) (p_ml mi) (p_rt mi) := by unfold p_cw; rw [hhn]
    refine vx_ofW (cc := p_b mi) (maxL := p_ml mi) (ret := p_rt mi) (ws' := p_big) q5 (by rw [hcw]) ?_
    intro p e s m args below meth c s₁ B hml hex hv
    refine main p e s m args below meth c ⟨B.exec, B.bytes, hml, by rw [← q6]; exact findClass_of_methodNamed B.named, fun w hw => hats B w (List.mem_cons_of_mem _ hw), B.notSynchronized, B.returns, Nat.le_refl _, Nat.le_refl _, hst, ?_⟩ hv
    rw [hhn]
    exact List.eq_nil_iff_forall_not_mem.mpr (fun x hx => hex x hx)
  | cons z0 zs =>
    have hcw : p_cw mi = .codeWith (p_y mi) (p_b mi) (p_ml mi) (p_rt mi) (z0 :: zs) := by unfold p_cw; rw [hhn]
    refine vx_ofWH (cc := p_b mi) (maxL := p_ml mi) (ret := p_rt mi) (hh := z0 :: zs) (ws' := p_big) q5 (by rw [hcw]) ?_
    intro p e s m args below meth c s₁ B hml hv
    refine main p e s m args below meth c ⟨B.exec, B.bytes, hml, by rw [← q6]; exact findClass_of_methodNamed B.named, fun w hw => hats B w (List.mem_cons_of_mem _ hw), B.notSynchronized, B.returns, Nat.le_refl _, Nat.le_refl _, hst, ?_⟩ hv
    rw [hhn]
    exact vx_table (x := p_y mi) B (by rw [← hcw]; exact hats B _ List.mem_cons_self)
set_option maxHeartbeats 4000000 in
theorem p_fr {l : Launch} (D : va_G) (ty : Nat → ClassId) (ad : Nat → Nat) (hst : l.stackTraces = false) : ∀ n, p_FR l D ty ad n := by
  intro n
  induction n with
  | zero => intro p e R s m args below meth c cells slots Q A scr mi pc L st w r CF SF h; simp [p_run] at h
  | succ n ih =>
    intro p e R s m args below meth c cells slots Q A scr mi pc L st w r CF SF h C V X hR1 hR2 hc hs F1 F2
    simp only [p_run] at h
    split at h
    · simp at h
    · next r0 hstp =>
      simp only [Option.some.injEq] at h
      subst h
      exact F1 cells slots pc L st w r0.2.2 hstp hc hs
    · next j hstp =>
      obtain ⟨pc1, L1, st1, w1⟩ := j
      exact p_snd_jump C V X (by omega) (by omega) hstp (ih h C V X hR1 hR2 hc hs F1 F2)
    · next q hstp =>
      obtain ⟨mj, as, rest⟩ := q
      dsimp only at h
      split at h
      · simp at h
      · next v w1 k1 hcal =>
        split at h
        · next o w2 k2 hcon =>
          simp only [Option.some.injEq] at h
          subst h
          dsimp only at hc hs F1 F2
          refine p_snd_call C V hstp (r := (.inl v, w1, k1)) (fun hm hcs => p_ct_of ih hst hm hcs hcal) ⟨by dsimp only; omega, by dsimp only; omega⟩ ?_ ?_
          · intro v0 hv0
            cases hv0
            exact ih hcon C V X hR1 hR2 (by dsimp only; omega) (by dsimp only; omega) F1 F2
          · intro i hi hr
            cases hr
        · simp at h
      · next E w1 k1 hcal =>
        refine p_snd_call C V hstp (r := (.inr (.inl E), w1, k1)) (fun hm hcs => p_ct_of ih hst hm hcs hcal) ?_ ?_ ?_
        · split at h
          · simp only [Option.some.injEq] at h
            subst h
            exact ⟨by dsimp only at *; omega, by dsimp only at *; omega⟩
          · split at h
            · simp only [Option.some.injEq] at h
              subst h
              exact ⟨by dsimp only at *; omega, by dsimp only at *; omega⟩
            · simp at h
        · intro v hv
          cases hv
        · intro i hi hr ls H1 locs1 ce q hl hP1 hD1 hS1 hce hv hcl
          simp only [Sum.inr.injEq, Sum.inl.injEq] at hr
          subst hr
          split at h
          · next z hz =>
            simp only [Option.some.injEq] at h
            subst h
            dsimp only at hc hs F2 ⊢
            rw [hc, hs]
            exact F2 pc L rest _ ls H1 locs1 ce q hi (Or.inl ⟨z, hz, rfl⟩) hl hP1 hS1 hce hv hcl
          · split at h
            · next hhn =>
              simp only [Option.some.injEq] at h
              subst h
              dsimp only at hc hs F2 ⊢
              rw [hc, hs]
              exact F2 pc L rest _ ls H1 locs1 ce q hi (Or.inr ⟨hhn, rfl⟩) hl hP1 hS1 hce hv hcl
            · simp at h
      · simp at h
