/-! THE CALL, THE END, AND THE WHOLE RUN -/
theorem p_vhh : p_ms.all (fun m => !(p_virt m) || decide (p_hh m = [])) = true := by decide +kernel
theorem p_callk {mi idx one mj n : Nat} (h1 : one ≠ 0) (h : p_inv (p_own mi) idx = some (one, mj, n)) : mj ∈ p_ms ∧ (False ∨ Cond.methodLink (p_nm (p_own mi)) idx (p_y mj) ∈ p_big) ∧ (parseMethodDescriptor (p_y mj).desc).map (fun d => d.parameters.length + (if p_virt mj = true then 1 else 0)) = some n := by
  obtain ⟨x, hx⟩ := p_ivk h
  simp only [p_k5b, h1, if_false, Bool.and_eq_true, decide_eq_true_eq] at hx
  obtain ⟨⟨a1, a2⟩, a3⟩ := hx
  refine ⟨a1, ?_, a3⟩
  exact Or.inr (p_hbi_big a2)
section Calls2
variable {p : Program} {l : Launch} {e : Env} {R : Room} {s : State} {m : MethodId} {args : Array Value} {below : List Frame} {meth : Method} {c : Code} {cells slots : Nat} {Q : State → Prop} {D : va_G} {ty : Nat → ClassId} {ad : Nat → Nat} {A : Nat → Prop} {scr : pX} {mi pc pc1 mj : Nat} {L L1 st st1 as rest : List Value} {w w1 : pW}
theorem p_vcat (z : List Value) : ((z.map (p_cv ad)).map fun v => v.category).sum = p_cs z := by
  induction z with
  | nil => rfl
  | cons a z ih =>
    simp only [List.map_cons, List.sum_cons, p_cs] at ih ⊢
    rw [ih, p_cv_cat]
/-- behind a call's run: it has returned, or thrown -/
theorem p_after {H : Heap} {locs : List Loc} {ls : Array Slot} {stk : List Value} {r : pR} {a : Array Value} {A1 : Nat → Prop} (hl : p_lh ad ls (p_ml mi) L) (hD : va_D A (p_ws ad ty w)) (hS : va_S A s.heap H locs) (hA1 : ∀ q, A1 q → A q)
    (hr : vx_Run p l e R s m args below meth c H locs cells slots r.2.2 (6 * r.2.2) (F0 m pc ls stk) (rest.map (p_cv ad)) (p_QC D ty ad A1 r a) (p_XC D ty ad A1 r) A1)
    (kv : ∀ v, r.1 = .inl v → p_K p l e R s m args below meth c (cells + r.2.2) (slots + 6 * r.2.2) Q D ty ad A mi (pc + 3) L (v.toList ++ rest) r.2.1)
    (kx : ∀ i, i < 3 → r.1 = .inr (.inl i) → ∀ (H1 : Heap) (locs1 : List Loc) (ce : Cell) (q : Addr), va_P D vwCl (p_ws ad ty r.2.1) H1 → va_S A s.heap H1 locs1 → H1[q]? = some ce → ce.vm = .none → s.vm.findClass (p_xn i) = some ce.cls → vx_W p l e R s m args below meth c H1 locs1 (cells + r.2.2) (slots + 6 * r.2.2) Q (F0 m pc ls (rest.map (p_cv ad))) q) :
    W p l e R s m args below meth c H locs cells slots Q (F0 m pc ls stk) := by
  intro T hT X
  rcases hr T hT X with ⟨v, st₀, t, T', L0, h0, X', hL, e1, e2, ⟨⟨v0, hr1, hv, hP1⟩, hF⟩, stp⟩ | ⟨q, st₀, t, T', L0, E, ce, h0, X', hL, e1, e2, ⟨⟨i, hi3, hr1, rfl, hP1⟩, hF⟩, hce, hcv, hcl, stp⟩
  · cases hv
    obtain ⟨k1, k2, k3⟩ := vx_keep h0 e1 hS (fun q _ h => hA1 q h) hA1 hL hF
    obtain ⟨t2, a1, b1⟩ := kv v0 hr1 ls T'.heap (locs ++ L0) hl (by rw [e1]; exact hP1) (p_wsD hD) k3 T' rfl X'
    refine ⟨t2, stp t2 ?_, b1⟩
    cases v0 <;> exact a1
  · obtain ⟨k1, k2, k3⟩ := vx_keep h0 e1 hS (fun q _ h => hA1 q h) hA1 hL hF
    obtain ⟨t2, a1, b1⟩ := kx i hi3 hr1 T'.heap (locs ++ L0) ce q (by rw [e1]; exact hP1) k3 (by rw [e1]; exact hce) hcv hcl T' rfl X'
    exact ⟨t2, stp.trans a1, b1⟩
/-- what a callee may count on -/
theorem p_pre (V : p_Wd D ty A s) {H : Heap} {locs : List Loc} (hP : va_P D vwCl (p_ws ad ty w) H) (hD : va_D A (p_ws ad ty w)) (hS : va_S A s.heap H locs) {U : State} (hU : U.heap = H) (hW : s.WarmedH U.vm) : p_Pc D ty ad as w H.size (as.map (p_cv ad)).toArray U := by
  obtain ⟨hK, hA, hxx⟩ := V
  refine ⟨rfl, by rw [hU], by rw [hU]; exact hP, va_K.moved hW.alike hK, hD.weaken (fun _ _ _ _ => trivial), ?_⟩
  have h1 := p_xx_warm hW hxx
  have h2 : p_xx A U U.heap := p_xx_kept h1 (fun a ha hn => by rw [hU]; exact hS.2.1 a ha hn)
  refine p_xx_nar h2 (fun q hq => ?_)
  rcases hq with ⟨k, z, hz⟩ | hq
  · exact hD.2 k _ hz
  · exact hA q (Nat.le_trans hS.1 hq)
theorem p_A1 (V : p_Wd D ty A s) {H : Heap} {locs : List Loc} (hD : va_D A (p_ws ad ty w)) (hS : va_S A s.heap H locs) : ∀ q, va_A (p_ws ad ty w) H.size q → A q := by
  intro q hq
  rcases hq with ⟨k, z, hz⟩ | hq
  · exact hD.2 k _ hz
  · exact V.2.1 q (Nat.le_trans hS.1 hq)
set_option maxHeartbeats 4000000 in
theorem p_snd_call (C : p_Cx l R p s m args meth c mi) (V : p_Wd D ty A s) (h : p_stp scr mi pc L st w = some (.inr (.inr (mj, as, rest)))) {r : pR} (hct : mj ∈ p_ms → p_cs as ≤ p_ml mj → p_Ct l D ty ad mj as w r) (hf : cells + r.2.2 ≤ R.cells ∧ slots + 6 * r.2.2 ≤ R.slots)
    (kv : ∀ v, r.1 = .inl v → p_K p l e R s m args below meth c (cells + r.2.2) (slots + 6 * r.2.2) Q D ty ad A mi (pc + 3) L (v.toList ++ rest) r.2.1)
    (kx : ∀ i, i < 3 → r.1 = .inr (.inl i) → ∀ (ls : Array Slot) (H1 : Heap) (locs1 : List Loc) (ce : Cell) (q : Addr), p_lh ad ls (p_ml mi) L → va_P D vwCl (p_ws ad ty r.2.1) H1 → va_D A (p_ws ad ty r.2.1) → va_S A s.heap H1 locs1 → H1[q]? = some ce → ce.vm = .none → s.vm.findClass (p_xn i) = some ce.cls → vx_W p l e R s m args below meth c H1 locs1 (cells + r.2.2) (slots + 6 * r.2.2) Q (F0 m pc ls (rest.map (p_cv ad))) q) :
    p_K p l e R s m args below meth c cells slots Q D ty ad A mi pc L st w := by
  intro ls H locs hl hP hD hS
  have hVV := V
  obtain ⟨hK, hA, hxx⟩ := V
  obtain ⟨hx, hb, hml, hown, hts, hlk, hrt, hRF, hRL, hst0, htab⟩ := C
  have hsz : ls.size = p_ml mi := hl.2.1
  have kx' : ∀ i, i < 3 → r.1 = .inr (.inl i) → ∀ (H1 : Heap) (locs1 : List Loc) (ce : Cell) (q : Addr), va_P D vwCl (p_ws ad ty r.2.1) H1 → va_S A s.heap H1 locs1 → H1[q]? = some ce → ce.vm = .none → s.vm.findClass (p_xn i) = some ce.cls → vx_W p l e R s m args below meth c H1 locs1 (cells + r.2.2) (slots + 6 * r.2.2) Q (F0 m pc ls (rest.map (p_cv ad))) q :=
    fun i hi hr H1 locs1 ce q g1 g2 g3 g4 g5 => kx i hi hr ls H1 locs1 ce q hl g1 (p_wsD hD) g2 g3 g4 g5
  have hA1 := p_A1 hVV hD hS
  have hpay := fun (hm : mj ∈ p_ms) => pay_in hts (p_goodIn hm)
  obtain ⟨idx, hh⟩ := p_stp_call h
  have hfr : p_fits mi mj = true → p_rF mj + 1 ≤ R.frames ∧ 8 + (p_ml mj + 11) + p_rL mj ≤ R.locals := fun z => by
    simp only [p_fits, Bool.and_eq_true, decide_eq_true_eq] at z
    omega
  have hmon : ∀ stk : List Value, 2 * (F0 m pc ls stk).monitorRoom = 0 := fun stk => rfl
  rcases hh with ⟨hat, hv⟩ | ⟨hat, hv⟩
  · have hd := p_dec hat
    obtain ⟨one, n, h1, hi, c1, c2, c3, c4, c5, c6, c7, c8⟩ := p_vivc hv
    obtain ⟨hm, hlk2, hpar⟩ := p_callk h1 hi
    obtain ⟨o, tl, fs, ho1, ho2⟩ := c8 rfl
    obtain ⟨q1, q2, q3, q4, q5, q6⟩ := p_msk hm
    have hhn : p_hh mj = [] := by
      have z := List.all_eq_true.mp p_vhh mj hm
      rw [c4] at z
      simpa using z
    have hcw : p_cw mj = .code (p_y mj) (p_b mj) (p_ml mj) (p_rt mj) := by unfold p_cw; rw [hhn]
    have hlk3 : Cond.methodLink (p_nm (p_own mi)) idx (p_y mj) ∈ p_big := by
      rcases hlk2 with z | z
      · exact absurd z id
      · exact z
    obtain ⟨hob6, -, -⟩ := p_ob_cls ho2
    have hlen : as.length = n := by rw [c6, List.length_reverse, List.length_take]; omega
    have hstk : st.map (p_cv ad) = (tl.map (p_cv ad)).reverse ++ .ref (ad o) :: rest.map (p_cv ad) := by
      have e1 : st = (.ref o :: tl).reverse ++ rest := by rw [← ho1, c6, List.reverse_reverse, c7, List.take_append_drop]
      rw [e1]
      simp [p_cv]
    have hsig : ∀ sig, parseMethodDescriptor (p_y mj).desc = some sig → tl.length = sig.parameters.length := by
      intro sig hs2
      rw [hs2, c4] at hpar
      simp only [Option.map_some, if_true, Option.some.injEq] at hpar
      rw [ho1] at hlen
      simp only [List.length_cons] at hlen
      omega
    have hcs : p_cs as ≤ p_ml mj := c5
    refine p_after (a := (Value.ref (ad o) :: tl.map (p_cv ad)).toArray) hl hD hS hA1 ?_ kv kx'
    have hM := hct hm hcs H.size
    rw [hstk]
    exact vx_runV (y := p_y mj) (bytes := p_b mj) (maxL := p_ml mj) (ret := p_rt mj) (n := tl.length) (nL := p_ml mi) (C := (p_y mj).cls) ⟨hx, hb, hml, hown, hts⟩ hM
      ⟨⟨rfl, rfl, (hfr c3).1, (hfr c3).2, hpay hm, by rw [← hcw]; exact List.mem_cons_self, by rw [← hcw]; exact hts _ ((p_goodIn hm) _ List.mem_cons_self).1, hts _ q1, q4, hsig, hts _ hlk3⟩, hts _ (q2 c4).1, hts _ (q2 c4).2⟩
      ⟨p_Pc_blind, (by
          have z := va_recv hK hP (p_cl hob6) (p_cellO ho2)
          rw [q6]; exact z), fun U hU hW => by
          have z := p_pre (as := as) hVV hP hD hS hU hW
          rw [ho1] at z
          rw [ho1]; exact z⟩
      rfl (by rw [List.length_map]) hsz rfl (by rw [hmon, p_vcat]; omega) hd hf
  · have hd := p_dec hat
    obtain ⟨one, n, h1, hi, c1, c2, c3, c4, c5, c6, c7, -⟩ := p_vivc hv
    obtain ⟨hm, hlk2, hpar⟩ := p_callk h1 hi
    obtain ⟨q1, q2, q3, q4, q5, q6⟩ := p_msk hm
    have hlen : as.length = n := by rw [c6, List.length_reverse, List.length_take]; omega
    have hstk : st.map (p_cv ad) = (as.map (p_cv ad)).reverse ++ rest.map (p_cv ad) := by
      have e1 : st = as.reverse ++ rest := by rw [c6, List.reverse_reverse, c7, List.take_append_drop]
      rw [e1]
      simp
    have hsig : ∀ sig, parseMethodDescriptor (p_y mj).desc = some sig → n = sig.parameters.length := by
      intro sig hs2
      rw [hs2, c4] at hpar
      simp only [Option.map_some, Bool.false_eq_true, if_false, Option.some.injEq] at hpar
      omega
    refine p_after (a := (as.map (p_cv ad)).toArray) hl hD hS hA1 ?_ kv kx'
    have hM := hct hm c5 H.size
    rw [hstk]
    have hgi := ((p_goodIn hm) _ List.mem_cons_self).1
    cases hhn : p_hh mj with
    | nil =>
      have hcw : p_cw mj = .code (p_y mj) (p_b mj) (p_ml mj) (p_rt mj) := by unfold p_cw; rw [hhn]
      rcases hlk2 with z | hlk3
      · exact absurd z id
      · exact vx_runS (y := p_y mj) (bytes := p_b mj) (maxL := p_ml mj) (ret := p_rt mj) (n := n) (nL := p_ml mi) ⟨hx, hb, hml, hown, hts⟩ hM
          ⟨⟨rfl, rfl, (hfr c3).1, (hfr c3).2, hpay hm, by rw [← hcw]; exact List.mem_cons_self, by rw [← hcw]; exact hts _ hgi, hts _ q1, q4, hsig, hts _ hlk3⟩, hts _ (q3 c4)⟩
          ⟨p_Pc_blind, fun U hU hW => p_pre (as := as) hVV hP hD hS hU hW⟩
          rfl (by rw [List.length_map]; exact hlen) hsz rfl (by rw [hmon, p_vcat]; omega) hd hf
    | cons z0 zs =>
      have hcw : p_cw mj = .codeWith (p_y mj) (p_b mj) (p_ml mj) (p_rt mj) (z0 :: zs) := by unfold p_cw; rw [hhn]
      have hlk3 : Cond.methodLink (p_nm (p_own mi)) idx (p_y mj) ∈ p_big := by
        rcases hlk2 with z | z
        · exact absurd z id
        · exact z
      exact vx_runSX (y := p_y mj) (bytes := p_b mj) (maxL := p_ml mj) (ret := p_rt mj) (hh := z0 :: zs) (n := n) (nL := p_ml mi) ⟨hx, hb, hml, hown, hts⟩ hM
        ⟨⟨rfl, rfl, (hfr c3).1, (hfr c3).2, hpay hm, by rw [← hcw]; exact List.mem_cons_self⟩, by rw [← hcw]; exact hts _ hgi, hts _ q1, q4, hsig, hts _ hlk3, hts _ (q3 c4)⟩
        ⟨p_Pc_blind, fun U hU hW => p_pre (as := as) hVV hP hD hS hU hW⟩
        rfl (by rw [List.length_map]; exact hlen) hsz rfl (by rw [hmon, p_vcat]; omega) hd hf
end Calls2
