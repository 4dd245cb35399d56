/-! A CONSTRUCTOR (written by wip/p30/gen19/gen.py) -/
abbrev lo_world2 (ty : Nat → ClassId) (h0 : Nat) (u : Nat → Nat) : va_W := [(h0, .inr (2, [.ref (u 0)])), ((u 0), .inl (ty 2, 32, .inr (.inl (fun _ => 0))))]
abbrev lo_at2 (D : va_G) (ty : Nat → ClassId) (A : Nat → Prop) (h0 : Nat) (u : Nat → Nat) (t : State) : Prop := va_P D vwCl (lo_world2 ty h0 u) t.heap ∧ va_K D vwCl (p_tys ty) t ∧ va_D A (lo_world2 ty h0 u)
theorem lo_good2 : GoodIn p_big (Cond.code yX2_init cX2_init 1 none :: p_big) := by
  intro w hw
  rcases List.mem_cons.mp hw with rfl | hw
  · exact p_big_good _ lo_w5
  · exact p_big_good w hw
set_option maxHeartbeats 4000000 in
set_option maxRecDepth 100000 in
theorem lo_init2 (l : Launch) (D : va_G) (ty : Nat → ClassId) (h0 sz : Nat) : Met l yX2_init (Cond.code yX2_init cX2_init 1 none :: p_big) ({ frames := 1, cells := 1, slots := 32, locals := 32 }) (va_Pc [.ref h0] (fun U => U.heap.size = sz ∧ va_P D vwCl [(h0, .inr (2, [.null]))] U.heap ∧ va_K D vwCl (p_tys ty) U ∧ va_D (fun _ => True) [(h0, .inr (2, [.null]))] ∧ lo_N U)) (va_Qv (fun _ : Nat → Nat => True) (lo_at2 D ty (va_A [(h0, .inr (2, [.null]))] sz) h0) (va_A [(h0, .inr (2, [.null]))] sz)) 1 32 (va_A [(h0, .inr (2, [.null]))] sz) := by
  refine Met.ofW (cc := cX2_init) (maxL := 1) (ret := none) (by decide) rfl ?_
  intro p e s m args below meth c s₁ B hml hv
  obtain ⟨rfl, hsz, hP, hK, hD0, hN⟩ := hv
  have hx := B.exec
  have hb := B.bytes
  have hr := B.returns
  have hts := atoms_spec (ws := Cond.code yX2_init cX2_init 1 none :: p_big) B.pre
  have hts2 : ∀ w ∈ p_big, w.before ([Value.ref h0] : List Value).toArray s = true := fun w hw => hts w (List.mem_cons_of_mem _ hw)
  have hown : s.vm.findClass RX2 = some m.cls := findClass_of_methodNamed B.named
  have hlocks := B.notSynchronized
  have hin : meth.name = "<init>" := (name_of_methodNamed B.named B.method).1
  subst hsz
  have hD := hD0.self (sz := s.heap.size)
  generalize hAe : va_A [(h0, .inr (2, [.null]))] s.heap.size = A at hD ⊢
  have hA : ∀ q : Nat, s.heap.size ≤ q → A q := fun q h => by rw [← hAe]; exact Or.inr h
  have hS : va_S A s.heap s.heap [] := va_S.rf
  have hl := lv_entry ([.ref h0]) (n := 1) (Nat.le_of_ble_eq_true rfl)
  rw [lg_entry_eq]
  generalize (lg_sl ([.ref h0]) ++ List.replicate (1 - (lg_sl ([.ref h0])).length) Slot.unset).toArray = ls at hl ⊢
  have hl : lv_has ls 1 [(0, .ref h0)] := hl
  refine lv_aload_n hx hb lo_d2_0 rfl (lv_at hl 0 rfl) ?_
  refine W.objInit hx hb hown (hts2 _ lo_w0) (hts2 _ lo_w1) (hts2 _ lo_w2) rfl (by rw [hml]; exact hl.1) rfl lo_d2_1 (Nat.le_of_ble_eq_true rfl) (Nat.le_of_ble_eq_true rfl) ?_
  refine W.eq (g2 := F0 m 4 ls []) rfl ?_
  refine lv_aload_n hx hb lo_d2_4 rfl (lv_at hl 0 rfl) ?_
  refine lv_bipush (v := 32) hx hb lo_d2_5 (by decide) ?_
  refine lo_newa (t := 2) (atype := .long) (fty := .long) (a0 := (32, .inr (.inl (fun _ => 0)))) (N' := 32) hx hb (hts2 _ lo_w3) rfl (by decide) rfl hK hP hD hS hA (fun _ => rfl) (by decide) (by decide +kernel) (Nat.le_of_ble_eq_true rfl) (Nat.le_of_ble_eq_true rfl) (Nat.le_of_ble_eq_true rfl) lo_d2_7 (fun q0 H hP hD hS => ?_)
  have hP : va_P D vwCl [(h0, .inr (2, [.null])), (q0, .inl (ty 2, 32, .inr (.inl (fun _ => 0))))] H := hP
  have hD : va_D A [(h0, .inr (2, [.null])), (q0, .inl (ty 2, 32, .inr (.inl (fun _ => 0))))] := hD
  refine W.widen (k := 1) (n := 32) (Nat.le_of_ble_eq_true rfl) (Nat.le_of_ble_eq_true rfl) ?_
  refine va_putF (D := D) (ci := 2) (v := .ref q0) (ty := .array .long) (C := RX2) (T := TX2) (N := 1) hx hb hts2 (p_layc (c := 2) (by decide)) tyX2 tyX2_ok nmX2 hown hK hP hD hS 0 rfl rfl 0 (by decide) (hts2 _ lo_w4) (fun _ h9 => h9) rfl hin rfl (by decide +kernel) rfl rfl (Nat.le_of_ble_eq_true rfl) lo_d2_9 (fun H locs hP hD hS => ?_)
  have hP : va_P D vwCl [(h0, .inr (2, [.ref q0])), (q0, .inl (ty 2, 32, .inr (.inl (fun _ => 0))))] H := hP
  have hD : va_D A [(h0, .inr (2, [.ref q0])), (q0, .inl (ty 2, 32, .inr (.inl (fun _ => 0))))] := hD
  refine W.widen (k := 1) (n := 32) (Nat.le_of_ble_eq_true rfl) (Nat.le_of_ble_eq_true rfl) ?_
  exact W.vret hx hb hr (fun t ht hW => ⟨⟨(fun _ => q0), rfl, trivial, by rw [ht]; exact hP, va_K.moved hW.alike hK, hD⟩, hS.F ht⟩) hS.2.2 lo_d2_12
