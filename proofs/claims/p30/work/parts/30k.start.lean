/-! THE LAW FROM ITS ENTRY (written by wip/p30/gen19/gen.py) -/
/-- where the objects lie -/
def lo_ad (b q0 : Nat) (u : Nat → Nat) (q1 q2 o : Nat) : Nat := match o with
  | 0 => q0
  | 1 => u 0
  | 2 => u 2
  | 3 => u 7
  | 4 => u 5
  | 5 => u 15
  | 6 => u 17
  | 7 => u 19
  | 8 => u 3
  | 9 => u 8
  | 10 => u 10
  | 11 => u 6
  | 12 => u 16
  | 13 => u 18
  | 14 => u 20
  | 15 => u 4
  | 16 => u 9
  | 17 => u 11
  | 18 => u 1
  | 19 => u 21
  | 20 => u 12
  | 21 => u 13
  | 22 => u 14
  | 23 => q1
  | 24 => q2
  | _ => b
theorem lo_d6_0 : decode cL_law 0 = .ok (.new 9, 3) := p_d100 (0, .new 9) (List.mem_of_getElem? (i := 0) rfl)
theorem lo_d6_3 : decode cL_law 3 = .ok (.dup, 1) := p_d100 (3, .dup) (List.mem_of_getElem? (i := 1) rfl)
theorem lo_d6_4 : decode cL_law 4 = .ok (.invokespecial 82, 3) := p_d100 (4, .invokespecial 82) (List.mem_of_getElem? (i := 2) rfl)
theorem lo_d6_7 : decode cL_law 7 = .ok (.astore_n 1, 1) := p_d100 (7, .astore_n 1) (List.mem_of_getElem? (i := 3) rfl)
theorem lo_d6_8 : decode cL_law 8 = .ok (.bipush 32, 2) := p_d100 (8, .bipush 32) (List.mem_of_getElem? (i := 4) rfl)
theorem lo_d6_10 : decode cL_law 10 = .ok (.newarray .int, 2) := p_d100 (10, .newarray .int) (List.mem_of_getElem? (i := 5) rfl)
theorem lo_d6_12 : decode cL_law 12 = .ok (.astore_n 2, 1) := p_d100 (12, .astore_n 2) (List.mem_of_getElem? (i := 6) rfl)
theorem lo_d6_13 : decode cL_law 13 = .ok (.bipush 16, 2) := p_d100 (13, .bipush 16) (List.mem_of_getElem? (i := 7) rfl)
theorem lo_d6_15 : decode cL_law 15 = .ok (.newarray .long, 2) := p_d100 (15, .newarray .long) (List.mem_of_getElem? (i := 8) rfl)
theorem lo_d6_17 : decode cL_law 17 = .ok (.astore_n 3, 1) := p_d100 (17, .astore_n 3) (List.mem_of_getElem? (i := 9) rfl)
theorem lo_d6_18 : decode cL_law 18 = .ok (.iconst 0, 1) := p_d100 (18, .iconst 0) (List.mem_of_getElem? (i := 10) rfl)
theorem lo_d6_19 : decode cL_law 19 = .ok (.istore 4, 2) := p_d100 (19, .istore 4) (List.mem_of_getElem? (i := 11) rfl)
theorem lo_v0 : (Jvm.Cond.classLink "LiftingWorkshopLaw" (9 : Nat) "LiftingWorkshop") ∈ p_big := List.mem_filter.mpr ⟨p_t1 (List.mem_of_getElem? (i := 13) rfl), rfl⟩
theorem lo_v1 : (Jvm.Cond.instantiable "LiftingWorkshop" (8 : Nat)) ∈ p_big := List.mem_filter.mpr ⟨p_t1 (List.mem_of_getElem? (i := 14) rfl), rfl⟩
theorem lo_v2 : (Jvm.Cond.initialized "LiftingWorkshop") ∈ p_big := List.mem_filter.mpr ⟨p_t1 (List.mem_of_getElem? (i := 1) rfl), rfl⟩
theorem lo_v3 : (Jvm.Cond.methodLink "LiftingWorkshopLaw" (82 : Nat) ({ cls := "LiftingWorkshop", name := "<init>", desc := "()V" } : Jvm.MethodName)) ∈ p_big := List.mem_filter.mpr ⟨p_t1 (List.mem_of_getElem? (i := 15) rfl), rfl⟩
theorem lo_v4 : (Jvm.Cond.instanceMethod ({ cls := "LiftingWorkshop", name := "<init>", desc := "()V" } : Jvm.MethodName)) ∈ p_big := List.mem_filter.mpr ⟨p_t1 (List.mem_of_getElem? (i := 16) rfl), rfl⟩
theorem lo_v5 : (Jvm.Cond.arrayClass Jvm.ClassFile.FieldType.int) ∈ p_big := List.mem_filter.mpr ⟨p_t1 (List.mem_of_getElem? (i := 117) rfl), rfl⟩
theorem lo_v6 : (Jvm.Cond.arrayClass Jvm.ClassFile.FieldType.long) ∈ p_big := List.mem_filter.mpr ⟨p_t1 (List.mem_of_getElem? (i := 51) rfl), rfl⟩
set_option maxHeartbeats 4000000 in
set_option maxRecDepth 100000 in
theorem whole_start {p : Program} {e : Env} {s : State} {m : MethodId} {below : List Frame} {meth : Method} {c : Code} (l : Launch) (hflags : l.flags = flags0) {b L : Nat} {xs : Nat → Int32} (hL : L ≤ 260) (C0 : lw_At p s m meth c b L xs) : W p l e room_1 s m #[Value.ref b] below meth c s.heap [] 0 0 (lw_Z below #[Value.ref b] s) (entryFrame m ([Value.ref b] : List Value).toArray 5) := by
  obtain ⟨D, ty, hK⟩ := lo_K C0
  have hxx := lo_xx C0
  have hN := lo_N0 C0
  obtain ⟨hx, hb, hr, hml, hown, hts, hX, hbl, hlocks, hgv, htab⟩ := id C0
  have hst : l.stackTraces = false := by unfold Launch.stackTraces; rw [hflags]; rfl
  have hA : ∀ q : Nat, s.heap.size ≤ q → (fun q : Nat => s.heap.size ≤ q) q := fun _ h => h
  have hbA : ¬ (fun q : Nat => s.heap.size ≤ q) b := Nat.not_le.mpr hbl
  have hts2 : ∀ w ∈ p_big, w.before #[Value.ref b] s = true := fun w hw => hts w (lo_big hw)
  have hS : va_S (fun q : Nat => s.heap.size ≤ q) s.heap s.heap [] := va_S.rf
  have hP : va_P D vwCl [] s.heap := fun k q h => by simp at h
  have hD : va_D (fun q : Nat => s.heap.size ≤ q) [] := ⟨fun i j p q h => by simp at h, fun k q h => by simp at h⟩
  have hl := lv_entry ([.ref b]) (n := 5) (Nat.le_of_ble_eq_true rfl)
  rw [lg_entry_eq]
  generalize (lg_sl ([.ref b]) ++ List.replicate (5 - (lg_sl ([.ref b])).length) Slot.unset).toArray = ls at hl ⊢
  have hl : lv_has ls 5 [(0, .ref b)] := hl
  refine va_new (D := D) (ci := 4) (fs := [.null, .null, .null, .null, .null, .null, .null, .null]) (C := RX4) (T := TX4) (N := 8) hx hb hts2 (p_layc (c := 4) (by decide)) tyX4 tyX4_ok hown (hts2 _ lo_v0) (hts2 _ lo_v1) (hts2 _ lo_v2) hK hP hD hS hA rfl (fun j hj => by rcases (show j = 0 ∨ j = 1 ∨ j = 2 ∨ j = 3 ∨ j = 4 ∨ j = 5 ∨ j = 6 ∨ j = 7 by omega) with rfl | rfl | rfl | rfl | rfl | rfl | rfl | rfl <;> rfl) (Nat.le_of_ble_eq_true rfl) (Nat.le_of_ble_eq_true rfl) lo_d6_0 (fun q0 H hP hD hS => ?_)
  have hP : va_P D vwCl [(q0, .inr (4, [.null, .null, .null, .null, .null, .null, .null, .null]))] H := hP
  have hD : va_D (fun q : Nat => s.heap.size ≤ q) [(q0, .inr (4, [.null, .null, .null, .null, .null, .null, .null, .null]))] := hD
  refine W.widen (k := 1) (n := 8) (Nat.le_of_ble_eq_true rfl) (Nat.le_of_ble_eq_true rfl) ?_
  refine lv_dup hx hb lo_d6_3 rfl ?_
  have hPc := hP.sub (ws' := [(q0, .inr (4, [.null, .null, .null, .null, .null, .null, .null, .null]))]) [0] rfl
  have hDc := hD.sub (ws' := [(q0, .inr (4, [.null, .null, .null, .null, .null, .null, .null, .null]))]) [0] (by decide) rfl
  have hFc := va_free (wc := [(q0, .inr (4, [.null, .null, .null, .null, .null, .null, .null, .null]))]) hD hS hA [0] rfl
  refine va_callv (va_runI (As := []) (rest := [.ref q0]) ⟨hx, hb, hml, hown, hts2⟩ (lo_init4 l D ty q0 H.size) (cwI 0 hts2 lo_good4 rfl rfl rfl (hts2 _ lo_v2) (hts2 _ lo_v3) (hts2 _ lo_v4) rfl (by decide +kernel) ⟨Nat.le_of_ble_eq_true rfl, Nat.le_of_ble_eq_true rfl⟩) ⟨lo_blind, fun U hU hW => ⟨rfl, by rw [hU], by rw [hU]; exact hPc, va_K.moved hW.alike hK, hDc.weaken (fun _ _ _ _ => trivial), lo_N_warm hW hN⟩⟩ rfl rfl hl.1 rfl (lv_room (Nat.le_of_ble_eq_true rfl)) lo_d6_4 ⟨Nat.le_of_ble_eq_true rfl, Nat.le_of_ble_eq_true rfl⟩) hS (fun q _ h => hFc q h) hFc (fun u t H1 locs ht hvm hw hB hz1 hk1 hS => ?_)
  obtain ⟨hP1, -, hD1⟩ := hB
  rw [ht] at hP1
  obtain ⟨hP, hD⟩ := va_join (wr := []) (w1 := [(q0, .inr (4, [.ref (u 0), .ref (u 2), .ref (u 5), .ref (u 7), .ref (u 15), .ref (u 17), .ref (u 19), .ref (u 21)])), ((u 0), .inr (3, [.ref (u 1), .int 8])), ((u 1), .inl (ty 3, 8, .inl (fun _ => 0))), ((u 2), .inr (1, [.ref (u 3), .int 0])), ((u 3), .inr (2, [.ref (u 4)])), ((u 4), .inl (ty 2, 32, .inr (.inl (fun _ => 0)))), ((u 5), .inr (2, [.ref (u 6)])), ((u 6), .inl (ty 2, 32, .inr (.inl (fun _ => 0)))), ((u 7), .inr (0, [.ref (u 8), .ref (u 10), .ref (u 12), .ref (u 13), .ref (u 14), .int 0, .int 0, .int 0])), ((u 8), .inr (2, [.ref (u 9)])), ((u 9), .inl (ty 2, 32, .inr (.inl (fun _ => 0)))), ((u 10), .inr (2, [.ref (u 11)])), ((u 11), .inl (ty 2, 32, .inr (.inl (fun _ => 0)))), ((u 12), .inl (ty 0, 4038, .inl (fun _ => 0))), ((u 13), .inl (ty 0, 4038, .inl (fun _ => 0))), ((u 14), .inl (ty 0, 4038, .inl (fun _ => 0))), ((u 15), .inr (2, [.ref (u 16)])), ((u 16), .inl (ty 2, 32, .inr (.inl (fun _ => 0)))), ((u 17), .inr (2, [.ref (u 18)])), ((u 18), .inl (ty 2, 32, .inr (.inl (fun _ => 0)))), ((u 19), .inr (2, [.ref (u 20)])), ((u 20), .inl (ty 2, 32, .inr (.inl (fun _ => 0)))), ((u 21), .inl (ty 1, 8, .inl (fun _ => 0)))]) hP hD [0] [] rfl rfl (by decide) (by decide) hk1 hFc hP1 hD1
  generalize H1 = H at hP hS ⊢
  have hP : va_P D vwCl [(q0, .inr (4, [.ref (u 0), .ref (u 2), .ref (u 5), .ref (u 7), .ref (u 15), .ref (u 17), .ref (u 19), .ref (u 21)])), ((u 0), .inr (3, [.ref (u 1), .int 8])), ((u 1), .inl (ty 3, 8, .inl (fun _ => 0))), ((u 2), .inr (1, [.ref (u 3), .int 0])), ((u 3), .inr (2, [.ref (u 4)])), ((u 4), .inl (ty 2, 32, .inr (.inl (fun _ => 0)))), ((u 5), .inr (2, [.ref (u 6)])), ((u 6), .inl (ty 2, 32, .inr (.inl (fun _ => 0)))), ((u 7), .inr (0, [.ref (u 8), .ref (u 10), .ref (u 12), .ref (u 13), .ref (u 14), .int 0, .int 0, .int 0])), ((u 8), .inr (2, [.ref (u 9)])), ((u 9), .inl (ty 2, 32, .inr (.inl (fun _ => 0)))), ((u 10), .inr (2, [.ref (u 11)])), ((u 11), .inl (ty 2, 32, .inr (.inl (fun _ => 0)))), ((u 12), .inl (ty 0, 4038, .inl (fun _ => 0))), ((u 13), .inl (ty 0, 4038, .inl (fun _ => 0))), ((u 14), .inl (ty 0, 4038, .inl (fun _ => 0))), ((u 15), .inr (2, [.ref (u 16)])), ((u 16), .inl (ty 2, 32, .inr (.inl (fun _ => 0)))), ((u 17), .inr (2, [.ref (u 18)])), ((u 18), .inl (ty 2, 32, .inr (.inl (fun _ => 0)))), ((u 19), .inr (2, [.ref (u 20)])), ((u 20), .inl (ty 2, 32, .inr (.inl (fun _ => 0)))), ((u 21), .inl (ty 1, 8, .inl (fun _ => 0)))] H := hP
  have hD : va_D (fun q : Nat => s.heap.size ≤ q) [(q0, .inr (4, [.ref (u 0), .ref (u 2), .ref (u 5), .ref (u 7), .ref (u 15), .ref (u 17), .ref (u 19), .ref (u 21)])), ((u 0), .inr (3, [.ref (u 1), .int 8])), ((u 1), .inl (ty 3, 8, .inl (fun _ => 0))), ((u 2), .inr (1, [.ref (u 3), .int 0])), ((u 3), .inr (2, [.ref (u 4)])), ((u 4), .inl (ty 2, 32, .inr (.inl (fun _ => 0)))), ((u 5), .inr (2, [.ref (u 6)])), ((u 6), .inl (ty 2, 32, .inr (.inl (fun _ => 0)))), ((u 7), .inr (0, [.ref (u 8), .ref (u 10), .ref (u 12), .ref (u 13), .ref (u 14), .int 0, .int 0, .int 0])), ((u 8), .inr (2, [.ref (u 9)])), ((u 9), .inl (ty 2, 32, .inr (.inl (fun _ => 0)))), ((u 10), .inr (2, [.ref (u 11)])), ((u 11), .inl (ty 2, 32, .inr (.inl (fun _ => 0)))), ((u 12), .inl (ty 0, 4038, .inl (fun _ => 0))), ((u 13), .inl (ty 0, 4038, .inl (fun _ => 0))), ((u 14), .inl (ty 0, 4038, .inl (fun _ => 0))), ((u 15), .inr (2, [.ref (u 16)])), ((u 16), .inl (ty 2, 32, .inr (.inl (fun _ => 0)))), ((u 17), .inr (2, [.ref (u 18)])), ((u 18), .inl (ty 2, 32, .inr (.inl (fun _ => 0)))), ((u 19), .inr (2, [.ref (u 20)])), ((u 20), .inl (ty 2, 32, .inr (.inl (fun _ => 0)))), ((u 21), .inl (ty 1, 8, .inl (fun _ => 0)))] := hD
  refine W.widen (k := 23) (n := 12381) (Nat.le_of_ble_eq_true rfl) (Nat.le_of_ble_eq_true rfl) ?_
  refine lv_astore_n (lv' := [(1, .ref q0), (0, .ref b)]) hx hb lo_d6_7 rfl hl (by decide) rfl (fun ls hl => ?_)
  refine lv_bipush (v := 32) hx hb lo_d6_8 (by decide) ?_
  refine lo_newa (t := 1) (atype := .int) (fty := .int) (a0 := (32, .inl (fun _ => 0))) (N' := 32) hx hb (hts2 _ lo_v5) rfl (by decide) rfl hK hP hD hS hA (fun _ => rfl) (by decide) (by decide +kernel) (Nat.le_of_ble_eq_true rfl) (Nat.le_of_ble_eq_true rfl) (Nat.le_of_ble_eq_true rfl) lo_d6_10 (fun q1 H hP hD hS => ?_)
  have hP : va_P D vwCl [(q0, .inr (4, [.ref (u 0), .ref (u 2), .ref (u 5), .ref (u 7), .ref (u 15), .ref (u 17), .ref (u 19), .ref (u 21)])), ((u 0), .inr (3, [.ref (u 1), .int 8])), ((u 1), .inl (ty 3, 8, .inl (fun _ => 0))), ((u 2), .inr (1, [.ref (u 3), .int 0])), ((u 3), .inr (2, [.ref (u 4)])), ((u 4), .inl (ty 2, 32, .inr (.inl (fun _ => 0)))), ((u 5), .inr (2, [.ref (u 6)])), ((u 6), .inl (ty 2, 32, .inr (.inl (fun _ => 0)))), ((u 7), .inr (0, [.ref (u 8), .ref (u 10), .ref (u 12), .ref (u 13), .ref (u 14), .int 0, .int 0, .int 0])), ((u 8), .inr (2, [.ref (u 9)])), ((u 9), .inl (ty 2, 32, .inr (.inl (fun _ => 0)))), ((u 10), .inr (2, [.ref (u 11)])), ((u 11), .inl (ty 2, 32, .inr (.inl (fun _ => 0)))), ((u 12), .inl (ty 0, 4038, .inl (fun _ => 0))), ((u 13), .inl (ty 0, 4038, .inl (fun _ => 0))), ((u 14), .inl (ty 0, 4038, .inl (fun _ => 0))), ((u 15), .inr (2, [.ref (u 16)])), ((u 16), .inl (ty 2, 32, .inr (.inl (fun _ => 0)))), ((u 17), .inr (2, [.ref (u 18)])), ((u 18), .inl (ty 2, 32, .inr (.inl (fun _ => 0)))), ((u 19), .inr (2, [.ref (u 20)])), ((u 20), .inl (ty 2, 32, .inr (.inl (fun _ => 0)))), ((u 21), .inl (ty 1, 8, .inl (fun _ => 0))), (q1, .inl (ty 1, 32, .inl (fun _ => 0)))] H := hP
  have hD : va_D (fun q : Nat => s.heap.size ≤ q) [(q0, .inr (4, [.ref (u 0), .ref (u 2), .ref (u 5), .ref (u 7), .ref (u 15), .ref (u 17), .ref (u 19), .ref (u 21)])), ((u 0), .inr (3, [.ref (u 1), .int 8])), ((u 1), .inl (ty 3, 8, .inl (fun _ => 0))), ((u 2), .inr (1, [.ref (u 3), .int 0])), ((u 3), .inr (2, [.ref (u 4)])), ((u 4), .inl (ty 2, 32, .inr (.inl (fun _ => 0)))), ((u 5), .inr (2, [.ref (u 6)])), ((u 6), .inl (ty 2, 32, .inr (.inl (fun _ => 0)))), ((u 7), .inr (0, [.ref (u 8), .ref (u 10), .ref (u 12), .ref (u 13), .ref (u 14), .int 0, .int 0, .int 0])), ((u 8), .inr (2, [.ref (u 9)])), ((u 9), .inl (ty 2, 32, .inr (.inl (fun _ => 0)))), ((u 10), .inr (2, [.ref (u 11)])), ((u 11), .inl (ty 2, 32, .inr (.inl (fun _ => 0)))), ((u 12), .inl (ty 0, 4038, .inl (fun _ => 0))), ((u 13), .inl (ty 0, 4038, .inl (fun _ => 0))), ((u 14), .inl (ty 0, 4038, .inl (fun _ => 0))), ((u 15), .inr (2, [.ref (u 16)])), ((u 16), .inl (ty 2, 32, .inr (.inl (fun _ => 0)))), ((u 17), .inr (2, [.ref (u 18)])), ((u 18), .inl (ty 2, 32, .inr (.inl (fun _ => 0)))), ((u 19), .inr (2, [.ref (u 20)])), ((u 20), .inl (ty 2, 32, .inr (.inl (fun _ => 0)))), ((u 21), .inl (ty 1, 8, .inl (fun _ => 0))), (q1, .inl (ty 1, 32, .inl (fun _ => 0)))] := hD
  refine W.widen (k := 24) (n := 12413) (Nat.le_of_ble_eq_true rfl) (Nat.le_of_ble_eq_true rfl) ?_
  refine lv_astore_n (lv' := [(2, .ref q1), (1, .ref q0), (0, .ref b)]) hx hb lo_d6_12 rfl hl (by decide) rfl (fun ls hl => ?_)
  refine lv_bipush (v := 16) hx hb lo_d6_13 (by decide) ?_
  refine lo_newa (t := 2) (atype := .long) (fty := .long) (a0 := (16, .inr (.inl (fun _ => 0)))) (N' := 16) hx hb (hts2 _ lo_v6) rfl (by decide) rfl hK hP hD hS hA (fun _ => rfl) (by decide) (by decide +kernel) (Nat.le_of_ble_eq_true rfl) (Nat.le_of_ble_eq_true rfl) (Nat.le_of_ble_eq_true rfl) lo_d6_15 (fun q2 H hP hD hS => ?_)
  have hP : va_P D vwCl [(q0, .inr (4, [.ref (u 0), .ref (u 2), .ref (u 5), .ref (u 7), .ref (u 15), .ref (u 17), .ref (u 19), .ref (u 21)])), ((u 0), .inr (3, [.ref (u 1), .int 8])), ((u 1), .inl (ty 3, 8, .inl (fun _ => 0))), ((u 2), .inr (1, [.ref (u 3), .int 0])), ((u 3), .inr (2, [.ref (u 4)])), ((u 4), .inl (ty 2, 32, .inr (.inl (fun _ => 0)))), ((u 5), .inr (2, [.ref (u 6)])), ((u 6), .inl (ty 2, 32, .inr (.inl (fun _ => 0)))), ((u 7), .inr (0, [.ref (u 8), .ref (u 10), .ref (u 12), .ref (u 13), .ref (u 14), .int 0, .int 0, .int 0])), ((u 8), .inr (2, [.ref (u 9)])), ((u 9), .inl (ty 2, 32, .inr (.inl (fun _ => 0)))), ((u 10), .inr (2, [.ref (u 11)])), ((u 11), .inl (ty 2, 32, .inr (.inl (fun _ => 0)))), ((u 12), .inl (ty 0, 4038, .inl (fun _ => 0))), ((u 13), .inl (ty 0, 4038, .inl (fun _ => 0))), ((u 14), .inl (ty 0, 4038, .inl (fun _ => 0))), ((u 15), .inr (2, [.ref (u 16)])), ((u 16), .inl (ty 2, 32, .inr (.inl (fun _ => 0)))), ((u 17), .inr (2, [.ref (u 18)])), ((u 18), .inl (ty 2, 32, .inr (.inl (fun _ => 0)))), ((u 19), .inr (2, [.ref (u 20)])), ((u 20), .inl (ty 2, 32, .inr (.inl (fun _ => 0)))), ((u 21), .inl (ty 1, 8, .inl (fun _ => 0))), (q1, .inl (ty 1, 32, .inl (fun _ => 0))), (q2, .inl (ty 2, 16, .inr (.inl (fun _ => 0))))] H := hP
  have hD : va_D (fun q : Nat => s.heap.size ≤ q) [(q0, .inr (4, [.ref (u 0), .ref (u 2), .ref (u 5), .ref (u 7), .ref (u 15), .ref (u 17), .ref (u 19), .ref (u 21)])), ((u 0), .inr (3, [.ref (u 1), .int 8])), ((u 1), .inl (ty 3, 8, .inl (fun _ => 0))), ((u 2), .inr (1, [.ref (u 3), .int 0])), ((u 3), .inr (2, [.ref (u 4)])), ((u 4), .inl (ty 2, 32, .inr (.inl (fun _ => 0)))), ((u 5), .inr (2, [.ref (u 6)])), ((u 6), .inl (ty 2, 32, .inr (.inl (fun _ => 0)))), ((u 7), .inr (0, [.ref (u 8), .ref (u 10), .ref (u 12), .ref (u 13), .ref (u 14), .int 0, .int 0, .int 0])), ((u 8), .inr (2, [.ref (u 9)])), ((u 9), .inl (ty 2, 32, .inr (.inl (fun _ => 0)))), ((u 10), .inr (2, [.ref (u 11)])), ((u 11), .inl (ty 2, 32, .inr (.inl (fun _ => 0)))), ((u 12), .inl (ty 0, 4038, .inl (fun _ => 0))), ((u 13), .inl (ty 0, 4038, .inl (fun _ => 0))), ((u 14), .inl (ty 0, 4038, .inl (fun _ => 0))), ((u 15), .inr (2, [.ref (u 16)])), ((u 16), .inl (ty 2, 32, .inr (.inl (fun _ => 0)))), ((u 17), .inr (2, [.ref (u 18)])), ((u 18), .inl (ty 2, 32, .inr (.inl (fun _ => 0)))), ((u 19), .inr (2, [.ref (u 20)])), ((u 20), .inl (ty 2, 32, .inr (.inl (fun _ => 0)))), ((u 21), .inl (ty 1, 8, .inl (fun _ => 0))), (q1, .inl (ty 1, 32, .inl (fun _ => 0))), (q2, .inl (ty 2, 16, .inr (.inl (fun _ => 0))))] := hD
  refine W.widen (k := 25) (n := 12429) (Nat.le_of_ble_eq_true rfl) (Nat.le_of_ble_eq_true rfl) ?_
  refine lv_astore_n (lv' := [(3, .ref q2), (2, .ref q1), (1, .ref q0), (0, .ref b)]) hx hb lo_d6_17 rfl hl (by decide) rfl (fun ls hl => ?_)
  refine lv_iconst (v := 0) hx hb lo_d6_18 (by decide) ?_
  refine lv_istore (lv' := [(4, .int 0), (3, .ref q2), (2, .ref q1), (1, .ref q0), (0, .ref b)]) hx hb lo_d6_19 hl (by decide) rfl (fun ls hl => ?_)
  have hPw : va_P D vwCl (p_ws (lo_ad b q0 u q1 q2) ty lo_wS0) H := hP.sub (ws' := p_ws (lo_ad b q0 u q1 q2) ty lo_wS0) [0, 1, 3, 8, 6, 16, 18, 20, 4, 9, 11, 7, 17, 19, 21, 5, 10, 12, 2, 22, 13, 14, 15, 23, 24] rfl
  have hDw : va_D (fun q : Nat => s.heap.size ≤ q) (p_ws (lo_ad b q0 u q1 q2) ty lo_wS0) := hD.sub (ws' := p_ws (lo_ad b q0 u q1 q2) ty lo_wS0) [0, 1, 3, 8, 6, 16, 18, 20, 4, 9, 11, 7, 17, 19, 21, 5, 10, 12, 2, 22, 13, 14, 15, 23, 24] (by decide) rfl
  have C : p_Cx l room_1 p s m #[Value.ref b] meth c 100 := ⟨hx, hb, hml, hown, hts2, hlocks, hr, by decide +kernel, by decide +kernel, hst, htab⟩
  have hlh : p_lh (lo_ad b q0 u q1 q2) ls (p_ml 100) [.ref 999, .ref 0, .ref 23, .ref 24, .int (nI 0)] := by
    refine p_has_lh rfl hl (fun i v0 h1 h2 => ?_)
    match i, h1 with
    | 0, h1 => cases h1; simp [p_cv, lo_ad]
    | 1, h1 => cases h1; simp [p_cv, lo_ad]
    | 2, h1 => cases h1; simp [p_cv, lo_ad]
    | 3, h1 => cases h1; simp [p_cv, lo_ad]
    | 4, h1 => cases h1; exact List.mem_cons_self
    | i + 5, h1 => simp at h1
  exact ts_loop C ⟨hK, hA, hxx⟩ (fun n xs' z => by cases z; exact ⟨hX, hbl, hbA⟩) hb hr hL 12 0 lo_wS0 8 0 (fun _ => false) (fun _ => 0) 25 12429 rfl lo_KS (Nat.le_of_ble_eq_true rfl) (Nat.le_of_ble_eq_true rfl) ls H _ hlh hPw hDw hS
