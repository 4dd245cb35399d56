/-! CONTRACTS AND CALLS -/
theorem p_xx_same {A : Nat → Prop} {u U : State} {H : Heap} (hv : u.vm = U.vm) (h : p_xx A u H) : p_xx A U H := by
  obtain ⟨h1, h2, h3, h4, h5, h6⟩ := h
  have hal : u.vm.Alike U.vm := by rw [hv]; exact Vm.Alike.refl U.vm
  exact ⟨fun q hq => (h1 q hq).imp fun sa z => vk_R.same hv.symm z, vx_Zq.moved hal h2, vx_Zq.moved hal h3, fun w hw => va_tabs (p_xB_on w hw) hv (h4 w hw), va_Nw.same rfl hv h5, fun E hE F hF hEF => (h6 E hE F hF hEF).moved hal⟩
theorem p_xx_warm {A : Nat → Prop} {s U : State} {H : Heap} (hW : s.WarmedH U.vm) (h : p_xx A s H) : p_xx A U H := by
  obtain ⟨h1, h2, h3, h4, h5, h6⟩ := h
  refine ⟨fun q hq => (h1 q hq).imp fun sa z => vk_R.warm hW z, vx_Zq.moved hW.alike h2, vx_Zq.moved hW.alike h3, fun w hw => ?_, va_Nw.warmM hW h5, fun E hE F hF hEF => (h6 E hE F hF hEF).moved hW.alike⟩
  rcases p_xB_kinds w hw with ⟨X, Y, rfl⟩ | ⟨x, rfl⟩
  · have h7 : (Cond.castable X Y).before #[] (s.setVm U.vm) = true := by rw [Cond.castable_setVm hW.alike]; exact h4 _ hw
    exact va_tabs rfl (rfl : (s.setVm U.vm).vm = U.vm) h7
  · exact va_Nw.warmD hW (h4 _ hw)
theorem p_xx_kept {A : Nat → Prop} {U : State} {H H1 : Heap} (h : p_xx A U H) (hq : ∀ a : Nat, a < H.size → ¬ A a → H1[a]? = H[a]?) : p_xx A U H1 := by
  obtain ⟨h1, h2, h3, h4⟩ := h
  exact ⟨h1, h2.kept hq, h3.kept hq, h4⟩
theorem p_xx_nar {A B : Nat → Prop} {U : State} {H : Heap} (h : p_xx A U H) (hAB : ∀ q, B q → A q) : p_xx B U H := by
  obtain ⟨h1, h2, h3, h4⟩ := h
  exact ⟨h1, h2.narrow hAB, h3.narrow hAB, h4⟩
def p_QC (D : va_G) (ty : Nat → ClassId) (ad : Nat → Nat) (A : Nat → Prop) (r : pR) : Array Value → State → Outcome → State → Prop := fun _ st oc t => (∃ v, r.1 = .inl v ∧ oc = .returned (v.map (p_cv ad)) ∧ va_P D vwCl (p_ws ad ty r.2.1) t.heap) ∧ va_F A st t
def p_XC (D : va_G) (ty : Nat → ClassId) (ad : Nat → Nat) (A : Nat → Prop) (r : pR) : String → State → State → Prop := fun E st t => (∃ i, i < 3 ∧ r.1 = .inr (.inl i) ∧ E = p_xn i ∧ va_P D vwCl (p_ws ad ty r.2.1) t.heap) ∧ va_F A st t
def p_rm (mi k : Nat) : Room := { frames := p_rF mi, cells := k, slots := 6 * k, locals := p_rL mi }
def p_Pc (D : va_G) (ty : Nat → ClassId) (ad : Nat → Nat) (as : List Value) (w : pW) (sz : Nat) : Array Value → State → Prop := va_Pc (as.map (p_cv ad)) (fun U => U.heap.size = sz ∧ va_P D vwCl (p_ws ad ty w) U.heap ∧ va_K D vwCl (p_tys ty) U ∧ va_D (fun _ => True) (p_ws ad ty w) ∧ p_xx (va_A (p_ws ad ty w) sz) U U.heap)
def p_Ct (l : Launch) (D : va_G) (ty : Nat → ClassId) (ad : Nat → Nat) (mi : Nat) (as : List Value) (w : pW) (r : pR) : Prop :=
  ∀ sz : Nat, vx_Met l (p_y mi) (p_cw mi :: p_big) (p_rm mi r.2.2) (p_Pc D ty ad as w sz) (p_QC D ty ad (va_A (p_ws ad ty w) sz) r) (p_XC D ty ad (va_A (p_ws ad ty w) sz) r) r.2.2 (6 * r.2.2) (va_A (p_ws ad ty w) sz)
theorem p_Pc_blind {D : va_G} {ty : Nat → ClassId} {ad : Nat → Nat} {as : List Value} {w : pW} {sz : Nat} : FrameBlind (p_Pc D ty ad as w sz) := by
  intro a U g mk q
  obtain ⟨q0, q1, qP, qK, qD, qX⟩ := q
  exact ⟨q0, q1, qP, va_K.moved (u := U) (U := U.calling g mk a) (Vm.Alike.refl U.vm) qK, qD, p_xx_same (u := U) (U := U.calling g mk a) rfl qX⟩
theorem p_big_good : ∀ w ∈ p_big, w ∈ p_big ∧ ((w.onTables && w.keeps) = true ∨ ∃ ty, w = .arrayClass ty) := fun w hw => ⟨hw, good_of_word (List.mem_filter.mp hw).2⟩
theorem p_goodIn {mj : Nat} (h : mj ∈ p_ms) : GoodIn p_big (p_cw mj :: p_big) := by
  intro w hw
  rcases List.mem_cons.mp hw with rfl | hw
  · obtain ⟨h1, h2⟩ := p_cw_ok mj h
    exact p_big_good _ (List.mem_filter.mpr ⟨h1, h2⟩)
  · exact p_big_good w hw
theorem p_msk {mj : Nat} (h : mj ∈ p_ms) : (Cond.initialized (p_y mj).cls ∈ p_big) ∧ (p_virt mj = true → Cond.instanceMethod (p_y mj) ∈ p_big ∧ Cond.selects (p_y mj).cls (p_y mj) (p_y mj) ∈ p_big) ∧ (p_virt mj = false → Cond.static (p_y mj) ∈ p_big) ∧ ((p_y mj).cls ≠ "java/lang/invoke/MethodHandle" ∧ (p_y mj).cls ≠ "java/lang/invoke/VarHandle") ∧ plainName (p_y mj).cls = true ∧ (p_y mj).cls = p_nm (p_own mj) := by
  obtain ⟨x, hx⟩ := p_zipm p_msi p_ms p_k6l h
  have h1 := List.all_eq_true.mp p_k6 _ hx
  simp only [p_k6b, Bool.and_eq_true, decide_eq_true_eq] at h1
  obtain ⟨⟨⟨⟨⟨a1, a2⟩, a3⟩, a4⟩, a5⟩, a6⟩ := h1
  refine ⟨p_hbi_big a1, fun hv => ?_, fun hv => ?_, a3, a4, a5⟩
  · rw [hv] at a2
    simp only [if_true, Bool.and_eq_true] at a2
    exact ⟨p_hbi_big a2.1, p_hbi_big a2.2⟩
  · rw [hv] at a2
    simp only [Bool.false_eq_true, if_false] at a2
    exact p_hbi_big a2
section Calls
variable {p : Program} {l : Launch} {e : Env} {R : Room} {s : State} {m : MethodId} {args : Array Value} {below : List Frame} {meth : Method} {c : Code} {cells slots : Nat} {Q : State → Prop} {D : va_G} {ty : Nat → ClassId} {ad : Nat → Nat} {A : Nat → Prop} {scr : pX} {mi pc pc1 mj : Nat} {L L1 st st1 as rest : List Value} {w w1 : pW}
theorem p_vivc {virt : Bool} {idx : Nat} (h : p_iv virt mi idx pc L st w = some (.inr (.inr (mj, as, rest)))) : ∃ one n, one ≠ 0 ∧ p_inv (p_own mi) idx = some (one, mj, n) ∧ n ≤ st.length ∧ p_cs rest ≤ 8 ∧ p_fits mi mj = true ∧ p_virt mj = virt ∧ p_cs as ≤ p_ml mj ∧ as = (st.take n).reverse ∧ rest = st.drop n ∧ (virt = true → ∃ o tl fs, as = .ref o :: tl ∧ p_ob o = some (.inr (p_own mj, fs))) := by
  unfold p_iv at h
  split at h
  · split at h
    · split at h <;> simp [p_J] at h
    · simp at h
  · split at h
    · split at h <;> simp [p_J] at h
    · simp at h
  · split at h
    · split at h <;> simp [p_J] at h
    · simp at h
  · next one mj1 n h00 h01 h0 hi =>
    split at h
    · next hc =>
      obtain ⟨c1, c2, c3, c4, c5⟩ := hc
      have hone : one ≠ 0 := h0
      split at h
      · next hv =>
        split at h
        · next o tl ho =>
          split at h
          · next cj fs hob =>
            split at h
            · next hcj =>
              simp only [Option.some.injEq, Sum.inr.injEq, Prod.mk.injEq] at h
              obtain ⟨rfl, rfl, rfl⟩ := h
              exact ⟨one, n, hone, hi, c1, c2, c3, c4, c5, rfl, rfl, fun _ => ⟨o, tl, fs, ho, by rw [← hcj]; exact hob⟩⟩
            · simp at h
          · simp at h
        · simp at h
      · next hv =>
        simp only [Option.some.injEq, Sum.inr.injEq, Prod.mk.injEq] at h
        obtain ⟨rfl, rfl, rfl⟩ := h
        exact ⟨one, n, hone, hi, c1, c2, c3, c4, c5, rfl, rfl, fun z => absurd z hv⟩
    · simp at h
  · simp at h
theorem p_stp_call (h : p_stp scr mi pc L st w = some (.inr (.inr (mj, as, rest)))) : ∃ idx, (p_at mi pc = some (.invokevirtual idx) ∧ p_iv true mi idx pc L st w = some (.inr (.inr (mj, as, rest)))) ∨ (p_at mi pc = some (.invokestatic idx) ∧ p_iv false mi idx pc L st w = some (.inr (.inr (mj, as, rest)))) := by
  unfold p_stp at h
  cases hat : p_at mi pc with
  | none => rw [hat] at h; simp at h
  | some ins =>
    rw [hat] at h
    dsimp only at h
    cases ins <;> first
      | (exact absurd h (show ¬ ((none : Option pS) = _) from fun z => by cases z))
      | (exact ⟨_, Or.inl ⟨rfl, h⟩⟩)
      | (exact ⟨_, Or.inr ⟨rfl, h⟩⟩)
      | (exfalso; revert h; simp only [p_ex, p_lI, p_lJ, p_lA, p_sI, p_sJ, p_i1, p_i2, p_i2z, p_l1, p_l2, p_l2z, p_lsh, p_gf, p_pf, p_ald, p_lald, p_bald, p_bast, p_iast, p_last, p_alen, p_nw, p_irt, p_lrt, p_vrt, p_swt, p_gt, p_dup, p_dup2, p_pop, p_inc, p_J, p_D]; (repeat' split) <;> simp; done)
      | (rename_i cnd off; cases cnd <;> (exfalso; revert h; simp only [p_ex, p_b2, p_b1, p_J]; (repeat' split) <;> simp; done))
end Calls
