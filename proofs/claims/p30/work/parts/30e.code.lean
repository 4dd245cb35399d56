/-! A CONSTRUCTOR (written by wip/p30/gen19/gen.py) -/
abbrev lo_world0 (ty : Nat → ClassId) (h0 : Nat) (u : Nat → Nat) : va_W := [(h0, .inr (0, [.ref (u 0), .ref (u 2), .ref (u 4), .ref (u 5), .ref (u 6), .int 0, .int 0, .int 0])), ((u 0), .inr (2, [.ref (u 1)])), ((u 1), .inl (ty 2, 32, .inr (.inl (fun _ => 0)))), ((u 2), .inr (2, [.ref (u 3)])), ((u 3), .inl (ty 2, 32, .inr (.inl (fun _ => 0)))), ((u 4), .inl (ty 0, 4038, .inl (fun _ => 0))), ((u 5), .inl (ty 0, 4038, .inl (fun _ => 0))), ((u 6), .inl (ty 0, 4038, .inl (fun _ => 0)))]
abbrev lo_at0 (D : va_G) (ty : Nat → ClassId) (A : Nat → Prop) (h0 : Nat) (u : Nat → Nat) (t : State) : Prop := va_P D vwCl (lo_world0 ty h0 u) t.heap ∧ va_K D vwCl (p_tys ty) t ∧ va_D A (lo_world0 ty h0 u)
theorem lo_good0 : GoodIn p_big (Cond.code yX0_init cX0_init 1 none :: p_big) := by
  intro w hw
  rcases List.mem_cons.mp hw with rfl | hw
  · exact p_big_good _ lo_w27
  · exact p_big_good w hw
set_option maxHeartbeats 4000000 in
set_option maxRecDepth 100000 in
theorem lo_init0 (l : Launch) (D : va_G) (ty : Nat → ClassId) (h0 sz : Nat) : Met l yX0_init (Cond.code yX0_init cX0_init 1 none :: p_big) ({ frames := 2, cells := 7, slots := 12180, locals := 52 }) (va_Pc [.ref h0] (fun U => U.heap.size = sz ∧ va_P D vwCl [(h0, .inr (0, [.null, .null, .null, .null, .null, .int 0, .int 0, .int 0]))] U.heap ∧ va_K D vwCl (p_tys ty) U ∧ va_D (fun _ => True) [(h0, .inr (0, [.null, .null, .null, .null, .null, .int 0, .int 0, .int 0]))] ∧ lo_N U)) (va_Qv (fun _ : Nat → Nat => True) (lo_at0 D ty (va_A [(h0, .inr (0, [.null, .null, .null, .null, .null, .int 0, .int 0, .int 0]))] sz) h0) (va_A [(h0, .inr (0, [.null, .null, .null, .null, .null, .int 0, .int 0, .int 0]))] sz)) 7 12180 (va_A [(h0, .inr (0, [.null, .null, .null, .null, .null, .int 0, .int 0, .int 0]))] sz) := by
  refine Met.ofW (cc := cX0_init) (maxL := 1) (ret := none) (by decide) rfl ?_
  intro p e s m args below meth c s₁ B hml hv
  obtain ⟨rfl, hsz, hP, hK, hD0, hN⟩ := hv
  have hx := B.exec
  have hb := B.bytes
  have hr := B.returns
  have hts := atoms_spec (ws := Cond.code yX0_init cX0_init 1 none :: p_big) B.pre
  have hts2 : ∀ w ∈ p_big, w.before ([Value.ref h0] : List Value).toArray s = true := fun w hw => hts w (List.mem_cons_of_mem _ hw)
  have hown : s.vm.findClass RX0 = some m.cls := findClass_of_methodNamed B.named
  have hlocks := B.notSynchronized
  have hin : meth.name = "<init>" := (name_of_methodNamed B.named B.method).1
  subst hsz
  have hD := hD0.self (sz := s.heap.size)
  generalize hAe : va_A [(h0, .inr (0, [.null, .null, .null, .null, .null, .int 0, .int 0, .int 0]))] s.heap.size = A at hD ⊢
  have hA : ∀ q : Nat, s.heap.size ≤ q → A q := fun q h => by rw [← hAe]; exact Or.inr h
  have hS : va_S A s.heap s.heap [] := va_S.rf
  have hl := lv_entry ([.ref h0]) (n := 1) (Nat.le_of_ble_eq_true rfl)
  rw [lg_entry_eq]
  generalize (lg_sl ([.ref h0]) ++ List.replicate (1 - (lg_sl ([.ref h0])).length) Slot.unset).toArray = ls at hl ⊢
  have hl : lv_has ls 1 [(0, .ref h0)] := hl
  refine lv_aload_n hx hb lo_d0_0 rfl (lv_at hl 0 rfl) ?_
  refine W.objInit hx hb hown (hts2 _ lo_w19) (hts2 _ lo_w1) (hts2 _ lo_w2) rfl (by rw [hml]; exact hl.1) rfl lo_d0_1 (Nat.le_of_ble_eq_true rfl) (Nat.le_of_ble_eq_true rfl) ?_
  refine W.eq (g2 := F0 m 4 ls []) rfl ?_
  refine lv_aload_n hx hb lo_d0_4 rfl (lv_at hl 0 rfl) ?_
  refine va_new (D := D) (ci := 2) (fs := [.null]) (C := RX2) (T := TX2) (N := 1) hx hb hts2 (p_layc (c := 2) (by decide)) tyX2 tyX2_ok hown (hts2 _ lo_w20) (hts2 _ lo_w13) (hts2 _ lo_w14) hK hP hD hS hA rfl (fun j hj => by rcases (show j = 0 by omega) with rfl <;> rfl) (Nat.le_of_ble_eq_true rfl) (Nat.le_of_ble_eq_true rfl) lo_d0_5 (fun q0 H hP hD hS => ?_)
  have hP : va_P D vwCl [(h0, .inr (0, [.null, .null, .null, .null, .null, .int 0, .int 0, .int 0])), (q0, .inr (2, [.null]))] H := hP
  have hD : va_D A [(h0, .inr (0, [.null, .null, .null, .null, .null, .int 0, .int 0, .int 0])), (q0, .inr (2, [.null]))] := hD
  refine W.widen (k := 1) (n := 1) (Nat.le_of_ble_eq_true rfl) (Nat.le_of_ble_eq_true rfl) ?_
  refine lv_dup hx hb lo_d0_8 rfl ?_
  have hPc := hP.sub (ws' := [(q0, .inr (2, [.null]))]) [1] rfl
  have hDc := hD.sub (ws' := [(q0, .inr (2, [.null]))]) [1] (by decide) rfl
  have hFc := va_free (wc := [(q0, .inr (2, [.null]))]) hD hS hA [1] rfl
  refine va_callv (va_runIN (As := []) (rest := [.ref q0, .ref h0]) ⟨hx, hb, hml, hown, hts2⟩ (lo_init2 l D ty q0 H.size) ⟨va_cnB 0 hts2 lo_good2 rfl rfl rfl (lo_N_1 hN) (hts2 _ lo_w14) (by decide +kernel) ⟨Nat.le_of_ble_eq_true rfl, Nat.le_of_ble_eq_true rfl⟩, rfl, hts2 _ lo_w15⟩ ⟨lo_blind, fun U hU hW => ⟨rfl, by rw [hU], by rw [hU]; exact hPc, va_K.moved hW.alike hK, hDc.weaken (fun _ _ _ _ => trivial), lo_N_warm hW hN⟩⟩ rfl rfl hl.1 rfl (lv_room (Nat.le_of_ble_eq_true rfl)) lo_d0_9 ⟨Nat.le_of_ble_eq_true rfl, Nat.le_of_ble_eq_true rfl⟩) hS (fun q _ h => hFc q h) hFc (fun u1 t H1 locs ht hvm hw hB hz1 hk1 hS => ?_)
  obtain ⟨hP1, -, hD1⟩ := hB
  rw [ht] at hP1
  obtain ⟨hP, hD⟩ := va_join (wr := [(h0, .inr (0, [.null, .null, .null, .null, .null, .int 0, .int 0, .int 0]))]) (w1 := [(q0, .inr (2, [.ref (u1 0)])), ((u1 0), .inl (ty 2, 32, .inr (.inl (fun _ => 0))))]) hP hD [1] [0] rfl rfl (by decide) (by decide) hk1 hFc hP1 hD1
  generalize H1 = H at hP hS ⊢
  have hP : va_P D vwCl [(h0, .inr (0, [.null, .null, .null, .null, .null, .int 0, .int 0, .int 0])), (q0, .inr (2, [.ref (u1 0)])), ((u1 0), .inl (ty 2, 32, .inr (.inl (fun _ => 0))))] H := hP
  have hD : va_D A [(h0, .inr (0, [.null, .null, .null, .null, .null, .int 0, .int 0, .int 0])), (q0, .inr (2, [.ref (u1 0)])), ((u1 0), .inl (ty 2, 32, .inr (.inl (fun _ => 0))))] := hD
  refine W.widen (k := 2) (n := 33) (Nat.le_of_ble_eq_true rfl) (Nat.le_of_ble_eq_true rfl) ?_
  refine va_putF (D := D) (ci := 0) (v := .ref q0) (ty := .object "LiftingWorkshop$Row") (C := RX0) (T := TX0) (N := 8) hx hb hts2 (p_layc (c := 0) (by decide)) tyX0 tyX0_ok nmX0 hown hK hP hD hS 0 rfl rfl 0 (by decide) (hts2 _ lo_w21) (fun _ h9 => h9) rfl hin rfl (by decide +kernel) rfl rfl (Nat.le_of_ble_eq_true rfl) lo_d0_12 (fun H locs hP hD hS => ?_)
  have hP : va_P D vwCl [(h0, .inr (0, [.ref q0, .null, .null, .null, .null, .int 0, .int 0, .int 0])), (q0, .inr (2, [.ref (u1 0)])), ((u1 0), .inl (ty 2, 32, .inr (.inl (fun _ => 0))))] H := hP
  have hD : va_D A [(h0, .inr (0, [.ref q0, .null, .null, .null, .null, .int 0, .int 0, .int 0])), (q0, .inr (2, [.ref (u1 0)])), ((u1 0), .inl (ty 2, 32, .inr (.inl (fun _ => 0))))] := hD
  refine lv_aload_n hx hb lo_d0_15 rfl (lv_at hl 0 rfl) ?_
  refine va_new (D := D) (ci := 2) (fs := [.null]) (C := RX2) (T := TX2) (N := 1) hx hb hts2 (p_layc (c := 2) (by decide)) tyX2 tyX2_ok hown (hts2 _ lo_w20) (hts2 _ lo_w13) (hts2 _ lo_w14) hK hP hD hS hA rfl (fun j hj => by rcases (show j = 0 by omega) with rfl <;> rfl) (Nat.le_of_ble_eq_true rfl) (Nat.le_of_ble_eq_true rfl) lo_d0_16 (fun q1 H hP hD hS => ?_)
  have hP : va_P D vwCl [(h0, .inr (0, [.ref q0, .null, .null, .null, .null, .int 0, .int 0, .int 0])), (q0, .inr (2, [.ref (u1 0)])), ((u1 0), .inl (ty 2, 32, .inr (.inl (fun _ => 0)))), (q1, .inr (2, [.null]))] H := hP
  have hD : va_D A [(h0, .inr (0, [.ref q0, .null, .null, .null, .null, .int 0, .int 0, .int 0])), (q0, .inr (2, [.ref (u1 0)])), ((u1 0), .inl (ty 2, 32, .inr (.inl (fun _ => 0)))), (q1, .inr (2, [.null]))] := hD
  refine W.widen (k := 3) (n := 34) (Nat.le_of_ble_eq_true rfl) (Nat.le_of_ble_eq_true rfl) ?_
  refine lv_dup hx hb lo_d0_19 rfl ?_
  have hPc := hP.sub (ws' := [(q1, .inr (2, [.null]))]) [3] rfl
  have hDc := hD.sub (ws' := [(q1, .inr (2, [.null]))]) [3] (by decide) rfl
  have hFc := va_free (wc := [(q1, .inr (2, [.null]))]) hD hS hA [3] rfl
  refine va_callv (va_runIN (As := []) (rest := [.ref q1, .ref h0]) ⟨hx, hb, hml, hown, hts2⟩ (lo_init2 l D ty q1 H.size) ⟨va_cnB 0 hts2 lo_good2 rfl rfl rfl (lo_N_1 hN) (hts2 _ lo_w14) (by decide +kernel) ⟨Nat.le_of_ble_eq_true rfl, Nat.le_of_ble_eq_true rfl⟩, rfl, hts2 _ lo_w15⟩ ⟨lo_blind, fun U hU hW => ⟨rfl, by rw [hU], by rw [hU]; exact hPc, va_K.moved hW.alike hK, hDc.weaken (fun _ _ _ _ => trivial), lo_N_warm hW hN⟩⟩ rfl rfl hl.1 rfl (lv_room (Nat.le_of_ble_eq_true rfl)) lo_d0_20 ⟨Nat.le_of_ble_eq_true rfl, Nat.le_of_ble_eq_true rfl⟩) hS (fun q _ h => hFc q h) hFc (fun u2 t H1 locs ht hvm hw hB hz1 hk1 hS => ?_)
  obtain ⟨hP1, -, hD1⟩ := hB
  rw [ht] at hP1
  obtain ⟨hP, hD⟩ := va_join (wr := [(h0, .inr (0, [.ref q0, .null, .null, .null, .null, .int 0, .int 0, .int 0])), (q0, .inr (2, [.ref (u1 0)])), ((u1 0), .inl (ty 2, 32, .inr (.inl (fun _ => 0))))]) (w1 := [(q1, .inr (2, [.ref (u2 0)])), ((u2 0), .inl (ty 2, 32, .inr (.inl (fun _ => 0))))]) hP hD [3] [0, 1, 2] rfl rfl (by decide) (by decide) hk1 hFc hP1 hD1
  generalize H1 = H at hP hS ⊢
  have hP : va_P D vwCl [(h0, .inr (0, [.ref q0, .null, .null, .null, .null, .int 0, .int 0, .int 0])), (q0, .inr (2, [.ref (u1 0)])), ((u1 0), .inl (ty 2, 32, .inr (.inl (fun _ => 0)))), (q1, .inr (2, [.ref (u2 0)])), ((u2 0), .inl (ty 2, 32, .inr (.inl (fun _ => 0))))] H := hP
  have hD : va_D A [(h0, .inr (0, [.ref q0, .null, .null, .null, .null, .int 0, .int 0, .int 0])), (q0, .inr (2, [.ref (u1 0)])), ((u1 0), .inl (ty 2, 32, .inr (.inl (fun _ => 0)))), (q1, .inr (2, [.ref (u2 0)])), ((u2 0), .inl (ty 2, 32, .inr (.inl (fun _ => 0))))] := hD
  refine W.widen (k := 4) (n := 66) (Nat.le_of_ble_eq_true rfl) (Nat.le_of_ble_eq_true rfl) ?_
  refine va_putF (D := D) (ci := 0) (v := .ref q1) (ty := .object "LiftingWorkshop$Row") (C := RX0) (T := TX0) (N := 8) hx hb hts2 (p_layc (c := 0) (by decide)) tyX0 tyX0_ok nmX0 hown hK hP hD hS 0 rfl rfl 1 (by decide) (hts2 _ lo_w22) (fun _ h9 => h9) rfl hin rfl (by decide +kernel) rfl rfl (Nat.le_of_ble_eq_true rfl) lo_d0_23 (fun H locs hP hD hS => ?_)
  have hP : va_P D vwCl [(h0, .inr (0, [.ref q0, .ref q1, .null, .null, .null, .int 0, .int 0, .int 0])), (q0, .inr (2, [.ref (u1 0)])), ((u1 0), .inl (ty 2, 32, .inr (.inl (fun _ => 0)))), (q1, .inr (2, [.ref (u2 0)])), ((u2 0), .inl (ty 2, 32, .inr (.inl (fun _ => 0))))] H := hP
  have hD : va_D A [(h0, .inr (0, [.ref q0, .ref q1, .null, .null, .null, .int 0, .int 0, .int 0])), (q0, .inr (2, [.ref (u1 0)])), ((u1 0), .inl (ty 2, 32, .inr (.inl (fun _ => 0)))), (q1, .inr (2, [.ref (u2 0)])), ((u2 0), .inl (ty 2, 32, .inr (.inl (fun _ => 0))))] := hD
  refine lv_aload_n hx hb lo_d0_26 rfl (lv_at hl 0 rfl) ?_
  refine lv_sipush (v := 4038) hx hb lo_d0_27 (by decide) ?_
  refine lo_newa (t := 0) (atype := .byte) (fty := .byte) (a0 := (4038, .inl (fun _ => 0))) (N' := 4038) hx hb (hts2 _ lo_w23) rfl (by decide) rfl hK hP hD hS hA (fun _ => rfl) (by decide) (by decide +kernel) (Nat.le_of_ble_eq_true rfl) (Nat.le_of_ble_eq_true rfl) (Nat.le_of_ble_eq_true rfl) lo_d0_30 (fun q2 H hP hD hS => ?_)
  have hP : va_P D vwCl [(h0, .inr (0, [.ref q0, .ref q1, .null, .null, .null, .int 0, .int 0, .int 0])), (q0, .inr (2, [.ref (u1 0)])), ((u1 0), .inl (ty 2, 32, .inr (.inl (fun _ => 0)))), (q1, .inr (2, [.ref (u2 0)])), ((u2 0), .inl (ty 2, 32, .inr (.inl (fun _ => 0)))), (q2, .inl (ty 0, 4038, .inl (fun _ => 0)))] H := hP
  have hD : va_D A [(h0, .inr (0, [.ref q0, .ref q1, .null, .null, .null, .int 0, .int 0, .int 0])), (q0, .inr (2, [.ref (u1 0)])), ((u1 0), .inl (ty 2, 32, .inr (.inl (fun _ => 0)))), (q1, .inr (2, [.ref (u2 0)])), ((u2 0), .inl (ty 2, 32, .inr (.inl (fun _ => 0)))), (q2, .inl (ty 0, 4038, .inl (fun _ => 0)))] := hD
  refine W.widen (k := 5) (n := 4104) (Nat.le_of_ble_eq_true rfl) (Nat.le_of_ble_eq_true rfl) ?_
  refine va_putF (D := D) (ci := 0) (v := .ref q2) (ty := .array .byte) (C := RX0) (T := TX0) (N := 8) hx hb hts2 (p_layc (c := 0) (by decide)) tyX0 tyX0_ok nmX0 hown hK hP hD hS 0 rfl rfl 2 (by decide) (hts2 _ lo_w24) (fun _ h9 => h9) rfl hin rfl (by decide +kernel) rfl rfl (Nat.le_of_ble_eq_true rfl) lo_d0_32 (fun H locs hP hD hS => ?_)
  have hP : va_P D vwCl [(h0, .inr (0, [.ref q0, .ref q1, .ref q2, .null, .null, .int 0, .int 0, .int 0])), (q0, .inr (2, [.ref (u1 0)])), ((u1 0), .inl (ty 2, 32, .inr (.inl (fun _ => 0)))), (q1, .inr (2, [.ref (u2 0)])), ((u2 0), .inl (ty 2, 32, .inr (.inl (fun _ => 0)))), (q2, .inl (ty 0, 4038, .inl (fun _ => 0)))] H := hP
  have hD : va_D A [(h0, .inr (0, [.ref q0, .ref q1, .ref q2, .null, .null, .int 0, .int 0, .int 0])), (q0, .inr (2, [.ref (u1 0)])), ((u1 0), .inl (ty 2, 32, .inr (.inl (fun _ => 0)))), (q1, .inr (2, [.ref (u2 0)])), ((u2 0), .inl (ty 2, 32, .inr (.inl (fun _ => 0)))), (q2, .inl (ty 0, 4038, .inl (fun _ => 0)))] := hD
  refine lv_aload_n hx hb lo_d0_35 rfl (lv_at hl 0 rfl) ?_
  refine lv_sipush (v := 4038) hx hb lo_d0_36 (by decide) ?_
  refine lo_newa (t := 0) (atype := .byte) (fty := .byte) (a0 := (4038, .inl (fun _ => 0))) (N' := 4038) hx hb (hts2 _ lo_w23) rfl (by decide) rfl hK hP hD hS hA (fun _ => rfl) (by decide) (by decide +kernel) (Nat.le_of_ble_eq_true rfl) (Nat.le_of_ble_eq_true rfl) (Nat.le_of_ble_eq_true rfl) lo_d0_39 (fun q3 H hP hD hS => ?_)
  have hP : va_P D vwCl [(h0, .inr (0, [.ref q0, .ref q1, .ref q2, .null, .null, .int 0, .int 0, .int 0])), (q0, .inr (2, [.ref (u1 0)])), ((u1 0), .inl (ty 2, 32, .inr (.inl (fun _ => 0)))), (q1, .inr (2, [.ref (u2 0)])), ((u2 0), .inl (ty 2, 32, .inr (.inl (fun _ => 0)))), (q2, .inl (ty 0, 4038, .inl (fun _ => 0))), (q3, .inl (ty 0, 4038, .inl (fun _ => 0)))] H := hP
  have hD : va_D A [(h0, .inr (0, [.ref q0, .ref q1, .ref q2, .null, .null, .int 0, .int 0, .int 0])), (q0, .inr (2, [.ref (u1 0)])), ((u1 0), .inl (ty 2, 32, .inr (.inl (fun _ => 0)))), (q1, .inr (2, [.ref (u2 0)])), ((u2 0), .inl (ty 2, 32, .inr (.inl (fun _ => 0)))), (q2, .inl (ty 0, 4038, .inl (fun _ => 0))), (q3, .inl (ty 0, 4038, .inl (fun _ => 0)))] := hD
  refine W.widen (k := 6) (n := 8142) (Nat.le_of_ble_eq_true rfl) (Nat.le_of_ble_eq_true rfl) ?_
  refine va_putF (D := D) (ci := 0) (v := .ref q3) (ty := .array .byte) (C := RX0) (T := TX0) (N := 8) hx hb hts2 (p_layc (c := 0) (by decide)) tyX0 tyX0_ok nmX0 hown hK hP hD hS 0 rfl rfl 3 (by decide) (hts2 _ lo_w25) (fun _ h9 => h9) rfl hin rfl (by decide +kernel) rfl rfl (Nat.le_of_ble_eq_true rfl) lo_d0_41 (fun H locs hP hD hS => ?_)
  have hP : va_P D vwCl [(h0, .inr (0, [.ref q0, .ref q1, .ref q2, .ref q3, .null, .int 0, .int 0, .int 0])), (q0, .inr (2, [.ref (u1 0)])), ((u1 0), .inl (ty 2, 32, .inr (.inl (fun _ => 0)))), (q1, .inr (2, [.ref (u2 0)])), ((u2 0), .inl (ty 2, 32, .inr (.inl (fun _ => 0)))), (q2, .inl (ty 0, 4038, .inl (fun _ => 0))), (q3, .inl (ty 0, 4038, .inl (fun _ => 0)))] H := hP
  have hD : va_D A [(h0, .inr (0, [.ref q0, .ref q1, .ref q2, .ref q3, .null, .int 0, .int 0, .int 0])), (q0, .inr (2, [.ref (u1 0)])), ((u1 0), .inl (ty 2, 32, .inr (.inl (fun _ => 0)))), (q1, .inr (2, [.ref (u2 0)])), ((u2 0), .inl (ty 2, 32, .inr (.inl (fun _ => 0)))), (q2, .inl (ty 0, 4038, .inl (fun _ => 0))), (q3, .inl (ty 0, 4038, .inl (fun _ => 0)))] := hD
  refine lv_aload_n hx hb lo_d0_44 rfl (lv_at hl 0 rfl) ?_
  refine lv_sipush (v := 4038) hx hb lo_d0_45 (by decide) ?_
  refine lo_newa (t := 0) (atype := .byte) (fty := .byte) (a0 := (4038, .inl (fun _ => 0))) (N' := 4038) hx hb (hts2 _ lo_w23) rfl (by decide) rfl hK hP hD hS hA (fun _ => rfl) (by decide) (by decide +kernel) (Nat.le_of_ble_eq_true rfl) (Nat.le_of_ble_eq_true rfl) (Nat.le_of_ble_eq_true rfl) lo_d0_48 (fun q4 H hP hD hS => ?_)
  have hP : va_P D vwCl [(h0, .inr (0, [.ref q0, .ref q1, .ref q2, .ref q3, .null, .int 0, .int 0, .int 0])), (q0, .inr (2, [.ref (u1 0)])), ((u1 0), .inl (ty 2, 32, .inr (.inl (fun _ => 0)))), (q1, .inr (2, [.ref (u2 0)])), ((u2 0), .inl (ty 2, 32, .inr (.inl (fun _ => 0)))), (q2, .inl (ty 0, 4038, .inl (fun _ => 0))), (q3, .inl (ty 0, 4038, .inl (fun _ => 0))), (q4, .inl (ty 0, 4038, .inl (fun _ => 0)))] H := hP
  have hD : va_D A [(h0, .inr (0, [.ref q0, .ref q1, .ref q2, .ref q3, .null, .int 0, .int 0, .int 0])), (q0, .inr (2, [.ref (u1 0)])), ((u1 0), .inl (ty 2, 32, .inr (.inl (fun _ => 0)))), (q1, .inr (2, [.ref (u2 0)])), ((u2 0), .inl (ty 2, 32, .inr (.inl (fun _ => 0)))), (q2, .inl (ty 0, 4038, .inl (fun _ => 0))), (q3, .inl (ty 0, 4038, .inl (fun _ => 0))), (q4, .inl (ty 0, 4038, .inl (fun _ => 0)))] := hD
  refine W.widen (k := 7) (n := 12180) (Nat.le_of_ble_eq_true rfl) (Nat.le_of_ble_eq_true rfl) ?_
  refine va_putF (D := D) (ci := 0) (v := .ref q4) (ty := .array .byte) (C := RX0) (T := TX0) (N := 8) hx hb hts2 (p_layc (c := 0) (by decide)) tyX0 tyX0_ok nmX0 hown hK hP hD hS 0 rfl rfl 4 (by decide) (hts2 _ lo_w26) (fun _ h9 => h9) rfl hin rfl (by decide +kernel) rfl rfl (Nat.le_of_ble_eq_true rfl) lo_d0_50 (fun H locs hP hD hS => ?_)
  have hP : va_P D vwCl [(h0, .inr (0, [.ref q0, .ref q1, .ref q2, .ref q3, .ref q4, .int 0, .int 0, .int 0])), (q0, .inr (2, [.ref (u1 0)])), ((u1 0), .inl (ty 2, 32, .inr (.inl (fun _ => 0)))), (q1, .inr (2, [.ref (u2 0)])), ((u2 0), .inl (ty 2, 32, .inr (.inl (fun _ => 0)))), (q2, .inl (ty 0, 4038, .inl (fun _ => 0))), (q3, .inl (ty 0, 4038, .inl (fun _ => 0))), (q4, .inl (ty 0, 4038, .inl (fun _ => 0)))] H := hP
  have hD : va_D A [(h0, .inr (0, [.ref q0, .ref q1, .ref q2, .ref q3, .ref q4, .int 0, .int 0, .int 0])), (q0, .inr (2, [.ref (u1 0)])), ((u1 0), .inl (ty 2, 32, .inr (.inl (fun _ => 0)))), (q1, .inr (2, [.ref (u2 0)])), ((u2 0), .inl (ty 2, 32, .inr (.inl (fun _ => 0)))), (q2, .inl (ty 0, 4038, .inl (fun _ => 0))), (q3, .inl (ty 0, 4038, .inl (fun _ => 0))), (q4, .inl (ty 0, 4038, .inl (fun _ => 0)))] := hD
  refine W.widen (k := 7) (n := 12180) (Nat.le_of_ble_eq_true rfl) (Nat.le_of_ble_eq_true rfl) ?_
  exact W.vret hx hb hr (fun t ht hW => ⟨⟨(fun k => match k with | 0 => q0 | 1 => (u1 0) | 2 => q1 | 3 => (u2 0) | 4 => q2 | 5 => q3 | _ => q4), rfl, trivial, by rw [ht]; exact hP, va_K.moved hW.alike hK, hD⟩, hS.F ht⟩) hS.2.2 lo_d0_53
