/-! A CONSTRUCTOR (written by wip/p30/gen19/gen.py) -/
abbrev lo_world1 (ty : Nat → ClassId) (h0 : Nat) (u : Nat → Nat) : va_W := [(h0, .inr (1, [.ref (u 0), .int 0])), ((u 0), .inr (2, [.ref (u 1)])), ((u 1), .inl (ty 2, 32, .inr (.inl (fun _ => 0))))]
abbrev lo_at1 (D : va_G) (ty : Nat → ClassId) (A : Nat → Prop) (h0 : Nat) (u : Nat → Nat) (t : State) : Prop := va_P D vwCl (lo_world1 ty h0 u) t.heap ∧ va_K D vwCl (p_tys ty) t ∧ va_D A (lo_world1 ty h0 u)
theorem lo_good1 : GoodIn p_big (Cond.code yX1_init cX1_init 1 none :: p_big) := by
  intro w hw
  rcases List.mem_cons.mp hw with rfl | hw
  · exact p_big_good _ lo_w18
  · exact p_big_good w hw
set_option maxHeartbeats 4000000 in
set_option maxRecDepth 100000 in
theorem lo_init1 (l : Launch) (D : va_G) (ty : Nat → ClassId) (h0 sz : Nat) : Met l yX1_init (Cond.code yX1_init cX1_init 1 none :: p_big) ({ frames := 2, cells := 2, slots := 33, locals := 52 }) (va_Pc [.ref h0] (fun U => U.heap.size = sz ∧ va_P D vwCl [(h0, .inr (1, [.null, .int 0]))] U.heap ∧ va_K D vwCl (p_tys ty) U ∧ va_D (fun _ => True) [(h0, .inr (1, [.null, .int 0]))] ∧ lo_N U)) (va_Qv (fun _ : Nat → Nat => True) (lo_at1 D ty (va_A [(h0, .inr (1, [.null, .int 0]))] sz) h0) (va_A [(h0, .inr (1, [.null, .int 0]))] sz)) 2 33 (va_A [(h0, .inr (1, [.null, .int 0]))] sz) := by
  refine Met.ofW (cc := cX1_init) (maxL := 1) (ret := none) (by decide) rfl ?_
  intro p e s m args below meth c s₁ B hml hv
  obtain ⟨rfl, hsz, hP, hK, hD0, hN⟩ := hv
  have hx := B.exec
  have hb := B.bytes
  have hr := B.returns
  have hts := atoms_spec (ws := Cond.code yX1_init cX1_init 1 none :: p_big) B.pre
  have hts2 : ∀ w ∈ p_big, w.before ([Value.ref h0] : List Value).toArray s = true := fun w hw => hts w (List.mem_cons_of_mem _ hw)
  have hown : s.vm.findClass RX1 = some m.cls := findClass_of_methodNamed B.named
  have hlocks := B.notSynchronized
  have hin : meth.name = "<init>" := (name_of_methodNamed B.named B.method).1
  subst hsz
  have hD := hD0.self (sz := s.heap.size)
  generalize hAe : va_A [(h0, .inr (1, [.null, .int 0]))] s.heap.size = A at hD ⊢
  have hA : ∀ q : Nat, s.heap.size ≤ q → A q := fun q h => by rw [← hAe]; exact Or.inr h
  have hS : va_S A s.heap s.heap [] := va_S.rf
  have hl := lv_entry ([.ref h0]) (n := 1) (Nat.le_of_ble_eq_true rfl)
  rw [lg_entry_eq]
  generalize (lg_sl ([.ref h0]) ++ List.replicate (1 - (lg_sl ([.ref h0])).length) Slot.unset).toArray = ls at hl ⊢
  have hl : lv_has ls 1 [(0, .ref h0)] := hl
  refine lv_aload_n hx hb lo_d1_0 rfl (lv_at hl 0 rfl) ?_
  refine W.objInit hx hb hown (hts2 _ lo_w11) (hts2 _ lo_w1) (hts2 _ lo_w2) rfl (by rw [hml]; exact hl.1) rfl lo_d1_1 (Nat.le_of_ble_eq_true rfl) (Nat.le_of_ble_eq_true rfl) ?_
  refine W.eq (g2 := F0 m 4 ls []) rfl ?_
  refine lv_aload_n hx hb lo_d1_4 rfl (lv_at hl 0 rfl) ?_
  refine va_new (D := D) (ci := 2) (fs := [.null]) (C := RX2) (T := TX2) (N := 1) hx hb hts2 (p_layc (c := 2) (by decide)) tyX2 tyX2_ok hown (hts2 _ lo_w12) (hts2 _ lo_w13) (hts2 _ lo_w14) hK hP hD hS hA rfl (fun j hj => by rcases (show j = 0 by omega) with rfl <;> rfl) (Nat.le_of_ble_eq_true rfl) (Nat.le_of_ble_eq_true rfl) lo_d1_5 (fun q0 H hP hD hS => ?_)
  have hP : va_P D vwCl [(h0, .inr (1, [.null, .int 0])), (q0, .inr (2, [.null]))] H := hP
  have hD : va_D A [(h0, .inr (1, [.null, .int 0])), (q0, .inr (2, [.null]))] := hD
  refine W.widen (k := 1) (n := 1) (Nat.le_of_ble_eq_true rfl) (Nat.le_of_ble_eq_true rfl) ?_
  refine lv_dup hx hb lo_d1_8 rfl ?_
  have hPc := hP.sub (ws' := [(q0, .inr (2, [.null]))]) [1] rfl
  have hDc := hD.sub (ws' := [(q0, .inr (2, [.null]))]) [1] (by decide) rfl
  have hFc := va_free (wc := [(q0, .inr (2, [.null]))]) hD hS hA [1] rfl
  refine va_callv (va_runIN (As := []) (rest := [.ref q0, .ref h0]) ⟨hx, hb, hml, hown, hts2⟩ (lo_init2 l D ty q0 H.size) ⟨va_cnB 0 hts2 lo_good2 rfl rfl rfl (lo_N_0 hN) (hts2 _ lo_w14) (by decide +kernel) ⟨Nat.le_of_ble_eq_true rfl, Nat.le_of_ble_eq_true rfl⟩, rfl, hts2 _ lo_w15⟩ ⟨lo_blind, fun U hU hW => ⟨rfl, by rw [hU], by rw [hU]; exact hPc, va_K.moved hW.alike hK, hDc.weaken (fun _ _ _ _ => trivial), lo_N_warm hW hN⟩⟩ rfl rfl hl.1 rfl (lv_room (Nat.le_of_ble_eq_true rfl)) lo_d1_9 ⟨Nat.le_of_ble_eq_true rfl, Nat.le_of_ble_eq_true rfl⟩) hS (fun q _ h => hFc q h) hFc (fun u1 t H1 locs ht hvm hw hB hz1 hk1 hS => ?_)
  obtain ⟨hP1, -, hD1⟩ := hB
  rw [ht] at hP1
  obtain ⟨hP, hD⟩ := va_join (wr := [(h0, .inr (1, [.null, .int 0]))]) (w1 := [(q0, .inr (2, [.ref (u1 0)])), ((u1 0), .inl (ty 2, 32, .inr (.inl (fun _ => 0))))]) hP hD [1] [0] rfl rfl (by decide) (by decide) hk1 hFc hP1 hD1
  generalize H1 = H at hP hS ⊢
  have hP : va_P D vwCl [(h0, .inr (1, [.null, .int 0])), (q0, .inr (2, [.ref (u1 0)])), ((u1 0), .inl (ty 2, 32, .inr (.inl (fun _ => 0))))] H := hP
  have hD : va_D A [(h0, .inr (1, [.null, .int 0])), (q0, .inr (2, [.ref (u1 0)])), ((u1 0), .inl (ty 2, 32, .inr (.inl (fun _ => 0))))] := hD
  refine W.widen (k := 2) (n := 33) (Nat.le_of_ble_eq_true rfl) (Nat.le_of_ble_eq_true rfl) ?_
  refine va_putF (D := D) (ci := 1) (v := .ref q0) (ty := .object "LiftingWorkshop$Row") (C := RX1) (T := TX1) (N := 2) hx hb hts2 (p_layc (c := 1) (by decide)) tyX1 tyX1_ok nmX1 hown hK hP hD hS 0 rfl rfl 0 (by decide) (hts2 _ lo_w16) (fun _ h9 => h9) rfl hin rfl (by decide +kernel) rfl rfl (Nat.le_of_ble_eq_true rfl) lo_d1_12 (fun H locs hP hD hS => ?_)
  have hP : va_P D vwCl [(h0, .inr (1, [.ref q0, .int 0])), (q0, .inr (2, [.ref (u1 0)])), ((u1 0), .inl (ty 2, 32, .inr (.inl (fun _ => 0))))] H := hP
  have hD : va_D A [(h0, .inr (1, [.ref q0, .int 0])), (q0, .inr (2, [.ref (u1 0)])), ((u1 0), .inl (ty 2, 32, .inr (.inl (fun _ => 0))))] := hD
  refine lv_aload_n hx hb lo_d1_15 rfl (lv_at hl 0 rfl) ?_
  refine lv_iconst (v := 0) hx hb lo_d1_16 (by decide) ?_
  refine va_put (D := D) (ci := 1) (v := .int 0) (ty := .int) (C := RX1) (T := TX1) (N := 2) hx hb hts2 (p_layc (c := 1) (by decide)) tyX1 tyX1_ok nmX1 hown hK hP hD hS 0 rfl rfl 1 (by decide) (hts2 _ lo_w17) (fun _ h9 => h9) rfl (by decide +kernel) rfl rfl (Nat.le_of_ble_eq_true rfl) lo_d1_17 (fun H locs hP hD hS => ?_)
  have hP : va_P D vwCl [(h0, .inr (1, [.ref q0, .int 0])), (q0, .inr (2, [.ref (u1 0)])), ((u1 0), .inl (ty 2, 32, .inr (.inl (fun _ => 0))))] H := hP
  have hD : va_D A [(h0, .inr (1, [.ref q0, .int 0])), (q0, .inr (2, [.ref (u1 0)])), ((u1 0), .inl (ty 2, 32, .inr (.inl (fun _ => 0))))] := hD
  refine W.widen (k := 2) (n := 33) (Nat.le_of_ble_eq_true rfl) (Nat.le_of_ble_eq_true rfl) ?_
  exact W.vret hx hb hr (fun t ht hW => ⟨⟨(fun k => match k with | 0 => q0 | _ => (u1 0)), rfl, trivial, by rw [ht]; exact hP, va_K.moved hW.alike hK, hD⟩, hS.F ht⟩) hS.2.2 lo_d1_20
