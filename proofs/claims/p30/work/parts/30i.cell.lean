/-! THE LAW'S cell, BY HAND: it answers some number -/
theorem ts_d94_0 : decode cL_cell 0 = .ok (.iload_n 1, 1) := p_d94 (0, .iload_n 1) (List.mem_of_getElem? (i := 0) rfl)
theorem ts_d94_1 : decode cL_cell 1 = .ok (.aload_n 0, 1) := p_d94 (1, .aload_n 0) (List.mem_of_getElem? (i := 1) rfl)
theorem ts_d94_2 : decode cL_cell 2 = .ok (.arraylength, 1) := p_d94 (2, .arraylength) (List.mem_of_getElem? (i := 2) rfl)
theorem ts_d94_3 : decode cL_cell 3 = .ok (.if_icmp .ge 9, 3) := p_d94 (3, .if_icmp .ge 9) (List.mem_of_getElem? (i := 3) rfl)
theorem ts_d94_6 : decode cL_cell 6 = .ok (.aload_n 0, 1) := p_d94 (6, .aload_n 0) (List.mem_of_getElem? (i := 4) rfl)
theorem ts_d94_7 : decode cL_cell 7 = .ok (.iload_n 1, 1) := p_d94 (7, .iload_n 1) (List.mem_of_getElem? (i := 5) rfl)
theorem ts_d94_8 : decode cL_cell 8 = .ok (.iaload, 1) := p_d94 (8, .iaload) (List.mem_of_getElem? (i := 6) rfl)
theorem ts_d94_9 : decode cL_cell 9 = .ok (.goto 9, 3) := p_d94 (9, .goto 9) (List.mem_of_getElem? (i := 7) rfl)
theorem ts_d94_12 : decode cL_cell 12 = .ok (.ldc 7, 2) := p_d94 (12, .ldc 7) (List.mem_of_getElem? (i := 8) rfl)
theorem ts_d94_14 : decode cL_cell 14 = .ok (.iload_n 1, 1) := p_d94 (14, .iload_n 1) (List.mem_of_getElem? (i := 9) rfl)
theorem ts_d94_15 : decode cL_cell 15 = .ok (.iconst 1, 1) := p_d94 (15, .iconst 1) (List.mem_of_getElem? (i := 10) rfl)
theorem ts_d94_16 : decode cL_cell 16 = .ok (.iadd, 1) := p_d94 (16, .iadd) (List.mem_of_getElem? (i := 11) rfl)
theorem ts_d94_17 : decode cL_cell 17 = .ok (.imul, 1) := p_d94 (17, .imul) (List.mem_of_getElem? (i := 12) rfl)
theorem ts_d94_18 : decode cL_cell 18 = .ok (.ireturn, 1) := p_d94 (18, .ireturn) (List.mem_of_getElem? (i := 13) rfl)
theorem ts_c7 : Cond.constant RL 7 1372054441 ∈ p_big := p_hb_big (by decide +kernel)
def ts_Pc (b L : Nat) (xs : Nat → Int32) (k : Int32) (sz : Nat) : Array Value → State → Prop := va_Pc [.ref b, .int k] (fun U => U.heap.size = sz ∧ va_X b L xs U U.heap)
theorem ts_Pc_blind {b L : Nat} {xs : Nat → Int32} {k : Int32} {sz : Nat} : FrameBlind (ts_Pc b L xs k sz) := by
  intro a U g mk q
  obtain ⟨q0, q1, qX⟩ := q
  exact ⟨q0, q1, va_X.moved (u := U) (U := U.calling g mk a) (Vm.Alike.refl U.vm) qX⟩
set_option maxHeartbeats 4000000 in
set_option maxRecDepth 100000 in
theorem ts_cell (l : Launch) (b L : Nat) (xs : Nat → Int32) (k : Nat) (hk : k < 2 ^ 31) (hL : L < 2 ^ 31) (sz : Nat) : Met l yL_cell (Cond.code yL_cell cL_cell 2 (some .int) :: p_big) ({ frames := 0, cells := 0, slots := 0, locals := 0 }) (ts_Pc b L xs (nI k) sz) (va_Qi (fun (_ _ : Int32) => True) (fun _ _ => True) (va_A [] sz)) 0 0 (va_A [] sz) := by
  refine Met.ofW (cc := cL_cell) (maxL := 2) (ret := some .int) (by decide) rfl ?_
  intro p e s m args below meth c s₁ B hml hv
  obtain ⟨rfl, hsz, hX⟩ := hv
  have hx := B.exec
  have hb := B.bytes
  have hr := B.returns
  have hts := atoms_spec (ws := Cond.code yL_cell cL_cell 2 (some .int) :: p_big) B.pre
  have hts2 : ∀ w ∈ p_big, w.before ([Value.ref b, Value.int (nI k)] : List Value).toArray s = true := fun w hw => hts w (List.mem_cons_of_mem _ hw)
  have hown : s.vm.findClass RL = some m.cls := findClass_of_methodNamed B.named
  have hlocks := B.notSynchronized
  subst hsz
  have hbl : b < s.heap.size := by
    obtain ⟨scr, h1, -⟩ := hX
    exact (Array.getElem?_eq_some_iff.mp h1).1
  generalize hAe : va_A [] s.heap.size = A at ⊢
  have hbA : ¬ A b := by
    rw [← hAe]
    intro z
    rcases z with ⟨k0, e0, z⟩ | z
    · simp at z
    · exact absurd hbl (Nat.not_lt.mpr z)
  have hS : va_S A s.heap s.heap [] := va_S.rf
  have hl := lv_entry ([.ref b, .int (nI k)]) (n := 2) (Nat.le_of_ble_eq_true rfl)
  rw [lg_entry_eq]
  generalize (lg_sl ([.ref b, .int (nI k)]) ++ List.replicate (2 - (lg_sl ([.ref b, .int (nI k)])).length) Slot.unset).toArray = ls at hl ⊢
  have hl : lv_has ls 2 [(0, .ref b), (1, .int (nI k))] := hl
  refine lv_iload_n hx hb ts_d94_0 rfl (lv_at hl 1 rfl) ?_
  refine lv_aload_n hx hb ts_d94_1 rfl (lv_at hl 0 rfl) ?_
  refine va_slen hx hb hX hbl hbA hS ts_d94_2 ?_
  refine lv_icmp_ge (tgt := 12) hx hb ts_d94_3 (by decide) (fun hz => ?_) (fun hz => ?_)
  · refine lv_ldc hx hb hown (hts2 _ ts_c7) ts_d94_12 ?_
    refine lv_iload_n hx hb ts_d94_14 rfl (lv_at hl 1 rfl) ?_
    refine lv_iconst (v := 1) hx hb ts_d94_15 (by decide) ?_
    refine lv_iadd hx hb ts_d94_16 ?_
    refine lv_imul hx hb ts_d94_17 ?_
    exact W.iret hx hb hr (fun t ht hW => ⟨⟨_, 0, rfl, trivial, trivial⟩, hS.F ht⟩) hS.2.2 ts_d94_18
  · have hlt : k < L := by
      rcases Nat.lt_or_ge k L with z | z
      · exact z
      · exact absurd ((nI_leI hL hk).mpr z) hz
    refine lv_aload_n hx hb ts_d94_6 rfl (lv_at hl 0 rfl) ?_
    refine lv_iload_n hx hb ts_d94_7 rfl (lv_at hl 1 rfl) ?_
    refine va_sld hx hb hX hbl hbA hS (nI_in hlt hL) ts_d94_8 ?_
    refine lv_goto (tgt := 18) hx hb ts_d94_9 (by decide) ?_
    exact W.iret hx hb hr (fun t ht hW => ⟨⟨_, 0, rfl, trivial, trivial⟩, hS.F ht⟩) hS.2.2 ts_d94_18
